set_option maxHeartbeats 4000000 in
set_option maxRecDepth 100000 in
theorem T_X_hunk {p1 : Int} {p2 : Int} {h : MH} {r : Int} {h' : MH} (hF : F_X_hunk p1 p2 h = some (r, h')) : CON 6 yX6_hunk cX6_hunk 3 (Option.some Jvm.ClassFile.FieldType.int) [vR 0, vI p1, vI p2] h (some (vI r)) h' := by
  refine con_of (own := RX6) (fl := flX6) (by decide +kernel) rfl flok_X6 rfl (Nat.le_of_ble_eq_true rfl) ?_
  intro K hK hR
  show K 0 [(0, vR 0), (1, vI p1), (2, vI p2)] [] h
  unfold F_X_hunk at hF
  refine g_seg hK [.iload_n 2] 0 1 (L1 := [(0, vR 0), (1, vI p1), (2, vI p2)]) (st1 := [vI p2]) (h1 := h) (P := True ∧ True) (by decide +kernel) rfl rfl ⟨trivial, trivial⟩ ?_
  refine g_ifz hK 1 .lt (9) 10 (t1 := 10) (t2 := 4) (by decide +kernel) (by decide) rfl rfl (fun (hc1 : p2 < 0) => ?_) (fun (hc1 : ¬ (p2 < 0)) => ?_)
  · have hF := ite_t hc1 hF
    refine g_seg hK [.iconst (-1)] 10 11 (L1 := [(0, vR 0), (1, vI p1), (2, vI p2)]) (st1 := [vI (-1)]) (h1 := h) (P := True ∧ True) (by decide +kernel) rfl rfl ⟨trivial, trivial⟩ ?_
    cases hF
    exact hR.1 11 _ _ _ (by decide +kernel) rfl ⟨rfl, rfl⟩
  · have hF := ite_f hc1 hF
    refine g_seg hK [.iload_n 2, .bipush 9] 4 7 (L1 := [(0, vR 0), (1, vI p1), (2, vI p2)]) (st1 := [vI 9, vI p2]) (h1 := h) (P := True ∧ True ∧ True) (by decide +kernel) rfl rfl ⟨trivial, trivial, trivial⟩ ?_
    refine g_icmp hK 7 .le (5) 12 (t1 := 12) (t2 := 10) (by decide +kernel) (by decide) rfl rfl (fun (hc2 : p2 ≤ 9) => ?_) (fun (hc2 : ¬ (p2 ≤ 9)) => ?_)
    · have hF := ite_t hc2 hF
      refine g_seg hK [.aload_n 0] 12 13 (L1 := [(0, vR 0), (1, vI p1), (2, vI p2)]) (st1 := [vR 0]) (h1 := h) (P := True ∧ True) (by decide +kernel) rfl rfl ⟨trivial, trivial⟩ ?_
      obtain ⟨h3, e4, hF⟩ := ob1_elim hF
      refine g_callV0 hK 13 118 (d1 := 5) (ci := 6) (i := 0) (vs := []) (rest := []) (h1 := h3) my_yX6_show vw_X6_118 (by decide) (T_X_show (h := h) (hF := e4)) rfl rfl rfl (Nat.le_of_ble_eq_true rfl) (by decide +kernel) ?_
      refine g_seg hK [.aload_n 0, .getfield 52, .iload_n 1] 16 21 (L1 := [(0, vR 0), (1, vI p1), (2, vI p2)]) (st1 := [vI p1, vR 54]) (h1 := h3) (P := True ∧ kd 0 = 8 ∧ True ∧ True) (by decide +kernel) rfl rfl ⟨trivial, rfl, trivial, trivial⟩ ?_
      refine g_callV1 hK 21 164 (d1 := 2) (ci := 5) (i := 54) (vs := [vI p1]) (rest := []) (h1 := h3) (r := vI (F_V_has p1 h3)) my_yX5_has vw_X6_164 (by decide) (T_V_has (p1 := p1) (h := h3) (hF := rfl)) rfl rfl rfl (Nat.le_of_ble_eq_true rfl) (by decide +kernel) ?_
      refine g_ifz hK 24 .ne (5) 29 (t1 := 27) (t2 := 29) (by decide +kernel) (by decide) rfl rfl (fun (hc5 : F_V_has p1 h3 = 0) => ?_) (fun (hc5 : ¬ (F_V_has p1 h3 = 0)) => ?_)
      · have hF := ite_t hc5 hF
        refine g_seg hK [.iconst (-1)] 27 28 (L1 := [(0, vR 0), (1, vI p1), (2, vI p2)]) (st1 := [vI (-1)]) (h1 := h3) (P := True ∧ True) (by decide +kernel) rfl rfl ⟨trivial, trivial⟩ ?_
        cases hF
        exact hR.1 28 _ _ _ (by decide +kernel) rfl ⟨rfl, rfl⟩
      · have hF := ite_f hc5 hF
        refine g_seg hK [.iload_n 2] 29 30 (L1 := [(0, vR 0), (1, vI p1), (2, vI p2)]) (st1 := [vI p2]) (h1 := h3) (P := True ∧ True) (by decide +kernel) rfl rfl ⟨trivial, trivial⟩ ?_
        refine g_sw hK 30 152 0 8 #[50, 59, 69, 79, 96, 106, 116, 125, 134] 50 (by decide +kernel) (by decide) ?_
        by_cases hc6 : p2 = 0
        · have hF := ite_t hc6 hF
          rw [show swT 30 152 0 8 [50, 59, 69, 79, 96, 106, 116, 125, 134] p2 = 80 from by rw [hc6]; decide]
          refine g_seg hK [.aload_n 0, .getfield 52, .iload_n 1] 80 85 (L1 := [(0, vR 0), (1, vI p1), (2, vI p2)]) (st1 := [vI p1, vR 54]) (h1 := h3) (P := True ∧ kd 0 = 8 ∧ True ∧ True) (by decide +kernel) rfl rfl ⟨trivial, rfl, trivial, trivial⟩ ?_
          refine g_callV1 hK 85 167 (d1 := 1) (ci := 5) (i := 54) (vs := [vI p1]) (rest := []) (h1 := h3) (r := vI (F_V_top p1 h3)) my_yX5_top vw_X6_167 (by decide) (T_V_top (p1 := p1) (h := h3) (hF := rfl)) rfl rfl rfl (Nat.le_of_ble_eq_true rfl) (by decide +kernel) ?_
          cases hF
          exact hR.1 88 _ _ _ (by decide +kernel) rfl ⟨rfl, rfl⟩
        · have hF := ite_f hc6 hF
          by_cases hc7 : p2 = 1
          · have hF := ite_t hc7 hF
            rw [show swT 30 152 0 8 [50, 59, 69, 79, 96, 106, 116, 125, 134] p2 = 89 from by rw [hc7]; decide]
            refine g_seg hK [.aload_n 0, .getfield 52, .iload_n 1, .iconst 1] 89 95 (L1 := [(0, vR 0), (1, vI p1), (2, vI p2)]) (st1 := [vI 1, vI p1, vR 54]) (h1 := h3) (P := True ∧ kd 0 = 8 ∧ True ∧ True ∧ True) (by decide +kernel) rfl rfl ⟨trivial, rfl, trivial, trivial, trivial⟩ ?_
            obtain ⟨r8, e9, hF⟩ := ob1_elim hF
            refine g_callV1 hK 95 170 (d1 := 2) (ci := 5) (i := 54) (vs := [vI p1, vI 1]) (rest := []) (h1 := h3) (r := vI r8) my_yX5_linesOf vw_X6_170 (by decide) (T_V_linesOf (p1 := p1) (p2 := 1) (h := h3) (hF := e9)) rfl rfl rfl (Nat.le_of_ble_eq_true rfl) (by decide +kernel) ?_
            cases hF
            exact hR.1 98 _ _ _ (by decide +kernel) rfl ⟨rfl, rfl⟩
          · have hF := ite_f hc7 hF
            by_cases hc10 : p2 = 2
            · have hF := ite_t hc10 hF
              rw [show swT 30 152 0 8 [50, 59, 69, 79, 96, 106, 116, 125, 134] p2 = 99 from by rw [hc10]; decide]
              refine g_seg hK [.aload_n 0, .getfield 52, .iload_n 1, .iconst 2] 99 105 (L1 := [(0, vR 0), (1, vI p1), (2, vI p2)]) (st1 := [vI 2, vI p1, vR 54]) (h1 := h3) (P := True ∧ kd 0 = 8 ∧ True ∧ True ∧ True) (by decide +kernel) rfl rfl ⟨trivial, rfl, trivial, trivial, trivial⟩ ?_
              obtain ⟨r11, e12, hF⟩ := ob1_elim hF
              refine g_callV1 hK 105 170 (d1 := 2) (ci := 5) (i := 54) (vs := [vI p1, vI 2]) (rest := []) (h1 := h3) (r := vI r11) my_yX5_linesOf vw_X6_170 (by decide) (T_V_linesOf (p1 := p1) (p2 := 2) (h := h3) (hF := e12)) rfl rfl rfl (Nat.le_of_ble_eq_true rfl) (by decide +kernel) ?_
              cases hF
              exact hR.1 108 _ _ _ (by decide +kernel) rfl ⟨rfl, rfl⟩
            · have hF := ite_f hc10 hF
              by_cases hc13 : p2 = 3
              · have hF := ite_t hc13 hF
                rw [show swT 30 152 0 8 [50, 59, 69, 79, 96, 106, 116, 125, 134] p2 = 109 from by rw [hc13]; decide]
                refine g_seg hK [.aload_n 0, .getfield 52, .iload_n 1] 109 114 (L1 := [(0, vR 0), (1, vI p1), (2, vI p2)]) (st1 := [vI p1, vR 54]) (h1 := h3) (P := True ∧ kd 0 = 8 ∧ True ∧ True) (by decide +kernel) rfl rfl ⟨trivial, rfl, trivial, trivial⟩ ?_
                refine g_callV1 hK 114 174 (d1 := 1) (ci := 5) (i := 54) (vs := [vI p1]) (rest := []) (h1 := h3) (r := vI (F_V_isPlain p1 h3)) my_yX5_isPlain vw_X6_174 (by decide) (T_V_isPlain (p1 := p1) (h := h3) (hF := rfl)) rfl rfl rfl (Nat.le_of_ble_eq_true rfl) (by decide +kernel) ?_
                refine g_ifz hK 117 .eq (7) 124 (t1 := 124) (t2 := 120) (by decide +kernel) (by decide) rfl rfl (fun (hc14 : F_V_isPlain p1 h3 = 0) => ?_) (fun (hc14 : ¬ (F_V_isPlain p1 h3 = 0)) => ?_)
                · have hF := ite_t hc14 hF
                  refine g_seg hK [.iconst 0] 124 125 (L1 := [(0, vR 0), (1, vI p1), (2, vI p2)]) (st1 := [vI 0]) (h1 := h3) (P := True ∧ True) (by decide +kernel) rfl rfl ⟨trivial, trivial⟩ ?_
                  cases hF
                  exact hR.1 125 _ _ _ (by decide +kernel) rfl ⟨rfl, rfl⟩
                · have hF := ite_f hc14 hF
                  refine g_seg hK [.iconst 1] 120 121 (L1 := [(0, vR 0), (1, vI p1), (2, vI p2)]) (st1 := [vI 1]) (h1 := h3) (P := True ∧ True) (by decide +kernel) rfl rfl ⟨trivial, trivial⟩ ?_
                  refine g_goto hK 121 (4) 125 (by decide +kernel) (by decide) ?_
                  cases hF
                  exact hR.1 125 _ _ _ (by decide +kernel) rfl ⟨rfl, rfl⟩
              · have hF := ite_f hc13 hF
                by_cases hc15 : p2 = 4
                · have hF := ite_t hc15 hF
                  rw [show swT 30 152 0 8 [50, 59, 69, 79, 96, 106, 116, 125, 134] p2 = 126 from by rw [hc15]; decide]
                  refine g_seg hK [.aload_n 0, .getfield 52, .iload_n 1, .iconst 0] 126 132 (L1 := [(0, vR 0), (1, vI p1), (2, vI p2)]) (st1 := [vI 0, vI p1, vR 54]) (h1 := h3) (P := True ∧ kd 0 = 8 ∧ True ∧ True ∧ True) (by decide +kernel) rfl rfl ⟨trivial, rfl, trivial, trivial, trivial⟩ ?_
                  obtain ⟨r16, e17, hF⟩ := ob1_elim hF
                  refine g_callV1 hK 132 177 (d1 := 2) (ci := 5) (i := 54) (vs := [vI p1, vI 0]) (rest := []) (h1 := h3) (r := vI r16) my_yX5_reach vw_X6_177 (by decide) (T_V_reach (p1 := p1) (p2 := 0) (h := h3) (hF := e17)) rfl rfl rfl (Nat.le_of_ble_eq_true rfl) (by decide +kernel) ?_
                  cases hF
                  exact hR.1 135 _ _ _ (by decide +kernel) rfl ⟨rfl, rfl⟩
                · have hF := ite_f hc15 hF
                  by_cases hc18 : p2 = 5
                  · have hF := ite_t hc18 hF
                    rw [show swT 30 152 0 8 [50, 59, 69, 79, 96, 106, 116, 125, 134] p2 = 136 from by rw [hc18]; decide]
                    refine g_seg hK [.aload_n 0, .getfield 52, .iload_n 1, .iconst 1] 136 142 (L1 := [(0, vR 0), (1, vI p1), (2, vI p2)]) (st1 := [vI 1, vI p1, vR 54]) (h1 := h3) (P := True ∧ kd 0 = 8 ∧ True ∧ True ∧ True) (by decide +kernel) rfl rfl ⟨trivial, rfl, trivial, trivial, trivial⟩ ?_
                    obtain ⟨r19, e20, hF⟩ := ob1_elim hF
                    refine g_callV1 hK 142 177 (d1 := 2) (ci := 5) (i := 54) (vs := [vI p1, vI 1]) (rest := []) (h1 := h3) (r := vI r19) my_yX5_reach vw_X6_177 (by decide) (T_V_reach (p1 := p1) (p2 := 1) (h := h3) (hF := e20)) rfl rfl rfl (Nat.le_of_ble_eq_true rfl) (by decide +kernel) ?_
                    cases hF
                    exact hR.1 145 _ _ _ (by decide +kernel) rfl ⟨rfl, rfl⟩
                  · have hF := ite_f hc18 hF
                    by_cases hc21 : p2 = 6
                    · have hF := ite_t hc21 hF
                      rw [show swT 30 152 0 8 [50, 59, 69, 79, 96, 106, 116, 125, 134] p2 = 146 from by rw [hc21]; decide]
                      refine g_seg hK [.aload_n 0, .getfield 52, .iload_n 1] 146 151 (L1 := [(0, vR 0), (1, vI p1), (2, vI p2)]) (st1 := [vI p1, vR 54]) (h1 := h3) (P := True ∧ kd 0 = 8 ∧ True ∧ True) (by decide +kernel) rfl rfl ⟨trivial, rfl, trivial, trivial⟩ ?_
                      refine g_callV1 hK 151 181 (d1 := 2) (ci := 5) (i := 54) (vs := [vI p1]) (rest := []) (h1 := h3) (r := vI (F_V_worth p1 h3)) my_yX5_worth vw_X6_181 (by decide) (T_V_worth (p1 := p1) (h := h3) (hF := rfl)) rfl rfl rfl (Nat.le_of_ble_eq_true rfl) (by decide +kernel) ?_
                      cases hF
                      exact hR.1 154 _ _ _ (by decide +kernel) rfl ⟨rfl, rfl⟩
                    · have hF := ite_f hc21 hF
                      by_cases hc22 : p2 = 7
                      · have hF := ite_t hc22 hF
                        rw [show swT 30 152 0 8 [50, 59, 69, 79, 96, 106, 116, 125, 134] p2 = 155 from by rw [hc22]; decide]
                        refine g_seg hK [.aload_n 0, .getfield 52, .iload_n 1] 155 160 (L1 := [(0, vR 0), (1, vI p1), (2, vI p2)]) (st1 := [vI p1, vR 54]) (h1 := h3) (P := True ∧ kd 0 = 8 ∧ True ∧ True) (by decide +kernel) rfl rfl ⟨trivial, rfl, trivial, trivial⟩ ?_
                        obtain ⟨r23, e24, hF⟩ := ob1_elim hF
                        refine g_callV1 hK 160 184 (d1 := 4) (ci := 5) (i := 54) (vs := [vI p1]) (rest := []) (h1 := h3) (r := vI r23) my_yX5_greatestWorth vw_X6_184 (by decide) (T_V_greatestWorth (p1 := p1) (h := h3) (hF := e24)) rfl rfl rfl (Nat.le_of_ble_eq_true rfl) (by decide +kernel) ?_
                        cases hF
                        exact hR.1 163 _ _ _ (by decide +kernel) rfl ⟨rfl, rfl⟩
                      · have hF := ite_f hc22 hF
                        by_cases hc25 : p2 = 8
                        · have hF := ite_t hc25 hF
                          rw [show swT 30 152 0 8 [50, 59, 69, 79, 96, 106, 116, 125, 134] p2 = 164 from by rw [hc25]; decide]
                          refine g_seg hK [.aload_n 0, .getfield 52, .iload_n 1, .aload_n 0, .getfield 21, .iconst 0] 164 174 (L1 := [(0, vR 0), (1, vI p1), (2, vI p2)]) (st1 := [vI 0, vR 3, vI p1, vR 54]) (h1 := h3) (P := True ∧ kd 0 = 8 ∧ True ∧ True ∧ kd 0 = 8 ∧ True ∧ True) (by decide +kernel) rfl rfl ⟨trivial, rfl, trivial, trivial, rfl, trivial, trivial⟩ ?_
                          refine g_callV1 hK 174 112 (d1 := 0) (ci := 4) (i := 3) (vs := [vI 0]) (rest := [vI p1, vR 54]) (h1 := h3) (r := vI (F_St_setting 3 0 h3)) my_yX4_setting vw_X6_112 (by decide) (T_St_setting (o := 3) (p1 := 0) (h := h3) (ks := rfl) (hF := rfl)) rfl rfl rfl (Nat.le_of_ble_eq_true rfl) (by decide +kernel) ?_
                          refine g_seg hK [.iconst 0] 177 178 (L1 := [(0, vR 0), (1, vI p1), (2, vI p2)]) (st1 := [vI 0, vI (F_St_setting 3 0 h3), vI p1, vR 54]) (h1 := h3) (P := True ∧ True) (by decide +kernel) rfl rfl ⟨trivial, trivial⟩ ?_
                          refine g_callV1 hK 178 187 (d1 := 3) (ci := 5) (i := 54) (vs := [vI p1, vI (F_St_setting 3 0 h3), vI 0]) (rest := []) (h1 := h3) (r := vI (F_V_around p1 (F_St_setting 3 0 h3) 0 h3)) my_yX5_around vw_X6_187 (by decide) (T_V_around (p1 := p1) (p2 := (F_St_setting 3 0 h3)) (p3 := 0) (h := h3) (hF := rfl)) rfl rfl rfl (Nat.le_of_ble_eq_true rfl) (by decide +kernel) ?_
                          cases hF
                          exact hR.1 181 _ _ _ (by decide +kernel) rfl ⟨rfl, rfl⟩
                        · have hF := ite_f hc25 hF
                          rw [show swT 30 152 0 8 [50, 59, 69, 79, 96, 106, 116, 125, 134] p2 = 182 from by unfold swT; rw [if_pos (by omega)]; decide]
                          refine g_seg hK [.aload_n 0, .getfield 52, .iload_n 1, .aload_n 0, .getfield 21, .iconst 0] 182 192 (L1 := [(0, vR 0), (1, vI p1), (2, vI p2)]) (st1 := [vI 0, vR 3, vI p1, vR 54]) (h1 := h3) (P := True ∧ kd 0 = 8 ∧ True ∧ True ∧ kd 0 = 8 ∧ True ∧ True) (by decide +kernel) rfl rfl ⟨trivial, rfl, trivial, trivial, rfl, trivial, trivial⟩ ?_
                          refine g_callV1 hK 192 112 (d1 := 0) (ci := 4) (i := 3) (vs := [vI 0]) (rest := [vI p1, vR 54]) (h1 := h3) (r := vI (F_St_setting 3 0 h3)) my_yX4_setting vw_X6_112 (by decide) (T_St_setting (o := 3) (p1 := 0) (h := h3) (ks := rfl) (hF := rfl)) rfl rfl rfl (Nat.le_of_ble_eq_true rfl) (by decide +kernel) ?_
                          refine g_seg hK [.iconst 1] 195 196 (L1 := [(0, vR 0), (1, vI p1), (2, vI p2)]) (st1 := [vI 1, vI (F_St_setting 3 0 h3), vI p1, vR 54]) (h1 := h3) (P := True ∧ True) (by decide +kernel) rfl rfl ⟨trivial, trivial⟩ ?_
                          refine g_callV1 hK 196 187 (d1 := 3) (ci := 5) (i := 54) (vs := [vI p1, vI (F_St_setting 3 0 h3), vI 1]) (rest := []) (h1 := h3) (r := vI (F_V_around p1 (F_St_setting 3 0 h3) 1 h3)) my_yX5_around vw_X6_187 (by decide) (T_V_around (p1 := p1) (p2 := (F_St_setting 3 0 h3)) (p3 := 1) (h := h3) (hF := rfl)) rfl rfl rfl (Nat.le_of_ble_eq_true rfl) (by decide +kernel) ?_
                          cases hF
                          exact hR.1 199 _ _ _ (by decide +kernel) rfl ⟨rfl, rfl⟩
    · have hF := ite_f hc2 hF
      refine g_seg hK [.iconst (-1)] 10 11 (L1 := [(0, vR 0), (1, vI p1), (2, vI p2)]) (st1 := [vI (-1)]) (h1 := h) (P := True ∧ True) (by decide +kernel) rfl rfl ⟨trivial, trivial⟩ ?_
      cases hF
      exact hR.1 11 _ _ _ (by decide +kernel) rfl ⟨rfl, rfl⟩
set_option maxHeartbeats 4000000 in
set_option maxRecDepth 100000 in
theorem T_V_hindrance {p1 : Int} {p2 : Int} {h : MH} {r : Int} (hF : F_V_hindrance p1 p2 h = r) : CON 2 yX5_hindrance cX5_hindrance 3 (Option.some Jvm.ClassFile.FieldType.int) [vR 54, vI p1, vI p2] h (some (vI r)) h := by
  refine con_of (own := RX5) (fl := flX5) (by decide +kernel) rfl flok_X5 rfl (Nat.le_of_ble_eq_true rfl) ?_
  intro K hK hR
  show K 0 [(0, vR 54), (1, vI p1), (2, vI p2)] [] h
  unfold F_V_hindrance at hF
  refine g_seg hK [.aload_n 0, .iload_n 1] 0 2 (L1 := [(0, vR 54), (1, vI p1), (2, vI p2)]) (st1 := [vI p1, vR 54]) (h1 := h) (P := True ∧ True ∧ True) (by decide +kernel) rfl rfl ⟨trivial, trivial, trivial⟩ ?_
  refine g_callV1 hK 2 71 (d1 := 1) (ci := 5) (i := 54) (vs := [vI p1]) (rest := []) (h1 := h) (r := vI (F_V_isPlain p1 h)) my_yX5_isPlain vw_X5_71 (by decide) (T_V_isPlain (p1 := p1) (h := h) (hF := rfl)) rfl rfl rfl (Nat.le_of_ble_eq_true rfl) (by decide +kernel) ?_
  refine g_ifz hK 5 .eq (21) 26 (t1 := 26) (t2 := 8) (by decide +kernel) (by decide) rfl rfl (fun (hc1 : F_V_isPlain p1 h = 0) => ?_) (fun (hc1 : ¬ (F_V_isPlain p1 h = 0)) => ?_)
  · have hF := ite_t hc1 hF
    refine g_seg hK [.iconst 1] 26 27 (L1 := [(0, vR 54), (1, vI p1), (2, vI p2)]) (st1 := [vI 1]) (h1 := h) (P := True ∧ True) (by decide +kernel) rfl rfl ⟨trivial, trivial⟩ ?_
    cases hF
    exact hR.1 27 _ _ _ (by decide +kernel) rfl ⟨rfl, rfl⟩
  · have hF := ite_f hc1 hF
    refine g_seg hK [.aload_n 0, .aload_n 0, .iload_n 1] 8 11 (L1 := [(0, vR 54), (1, vI p1), (2, vI p2)]) (st1 := [vI p1, vR 54, vR 54]) (h1 := h) (P := True ∧ True ∧ True ∧ True) (by decide +kernel) rfl rfl ⟨trivial, trivial, trivial, trivial⟩ ?_
    refine g_callV1 hK 11 81 (d1 := 1) (ci := 5) (i := 54) (vs := [vI p1]) (rest := [vR 54]) (h1 := h) (r := vI (F_V_top p1 h)) my_yX5_top vw_X5_81 (by decide) (T_V_top (p1 := p1) (h := h) (hF := rfl)) rfl rfl rfl (Nat.le_of_ble_eq_true rfl) (by decide +kernel) ?_
    refine g_seg hK [.aload_n 0, .iload_n 1] 14 16 (L1 := [(0, vR 54), (1, vI p1), (2, vI p2)]) (st1 := [vI p1, vR 54, vI (F_V_top p1 h), vR 54]) (h1 := h) (P := True ∧ True ∧ True) (by decide +kernel) rfl rfl ⟨trivial, trivial, trivial⟩ ?_
    refine g_callV1 hK 16 84 (d1 := 1) (ci := 5) (i := 54) (vs := [vI p1]) (rest := [vI (F_V_top p1 h), vR 54]) (h1 := h) (r := vI (F_V_end p1 h)) my_yX5_end vw_X5_84 (by decide) (T_V_end (p1 := p1) (h := h) (hF := rfl)) rfl rfl rfl (Nat.le_of_ble_eq_true rfl) (by decide +kernel) ?_
    refine g_seg hK [.iload_n 2] 19 20 (L1 := [(0, vR 54), (1, vI p1), (2, vI p2)]) (st1 := [vI p2, vI (F_V_end p1 h), vI (F_V_top p1 h), vR 54]) (h1 := h) (P := True ∧ True) (by decide +kernel) rfl rfl ⟨trivial, trivial⟩ ?_
    refine g_callV1 hK 20 109 (d1 := 1) (ci := 5) (i := 54) (vs := [vI (F_V_top p1 h), vI (F_V_end p1 h), vI p2]) (rest := []) (h1 := h) (r := vI (F_V_barAt (F_V_top p1 h) (F_V_end p1 h) p2 h)) my_yX5_barAt vw_X5_109 (by decide) (T_V_barAt (p1 := (F_V_top p1 h)) (p2 := (F_V_end p1 h)) (p3 := p2) (h := h) (hF := rfl)) rfl rfl rfl (Nat.le_of_ble_eq_true rfl) (by decide +kernel) ?_
    refine g_goto hK 23 (4) 27 (by decide +kernel) (by decide) ?_
    cases hF
    exact hR.1 27 _ _ _ (by decide +kernel) rfl ⟨rfl, rfl⟩
set_option maxHeartbeats 4000000 in
set_option maxRecDepth 100000 in
theorem T_X_whyNot {p1 : Int} {p2 : Int} {h : MH} {r : Int} {h' : MH} (hF : F_X_whyNot p1 p2 h = some (r, h')) : CON 6 yX6_whyNot cX6_whyNot 3 (Option.some Jvm.ClassFile.FieldType.int) [vR 0, vI p1, vI p2] h (some (vI r)) h' := by
  refine con_of (own := RX6) (fl := flX6) (by decide +kernel) rfl flok_X6 rfl (Nat.le_of_ble_eq_true rfl) ?_
  intro K hK hR
  show K 0 [(0, vR 0), (1, vI p1), (2, vI p2)] [] h
  unfold F_X_whyNot at hF
  refine g_seg hK [.aload_n 0] 0 1 (L1 := [(0, vR 0), (1, vI p1), (2, vI p2)]) (st1 := [vR 0]) (h1 := h) (P := True ∧ True) (by decide +kernel) rfl rfl ⟨trivial, trivial⟩ ?_
  obtain ⟨h1, e2, hF⟩ := ob1_elim hF
  refine g_callV0 hK 1 118 (d1 := 5) (ci := 6) (i := 0) (vs := []) (rest := []) (h1 := h1) my_yX6_show vw_X6_118 (by decide) (T_X_show (h := h) (hF := e2)) rfl rfl rfl (Nat.le_of_ble_eq_true rfl) (by decide +kernel) ?_
  refine g_seg hK [.aload_n 0, .getfield 52, .iload_n 1] 4 9 (L1 := [(0, vR 0), (1, vI p1), (2, vI p2)]) (st1 := [vI p1, vR 54]) (h1 := h1) (P := True ∧ kd 0 = 8 ∧ True ∧ True) (by decide +kernel) rfl rfl ⟨trivial, rfl, trivial, trivial⟩ ?_
  refine g_callV1 hK 9 164 (d1 := 2) (ci := 5) (i := 54) (vs := [vI p1]) (rest := []) (h1 := h1) (r := vI (F_V_has p1 h1)) my_yX5_has vw_X6_164 (by decide) (T_V_has (p1 := p1) (h := h1) (hF := rfl)) rfl rfl rfl (Nat.le_of_ble_eq_true rfl) (by decide +kernel) ?_
  refine g_ifz hK 12 .eq (15) 27 (t1 := 27) (t2 := 15) (by decide +kernel) (by decide) rfl rfl (fun (hc3 : F_V_has p1 h1 = 0) => ?_) (fun (hc3 : ¬ (F_V_has p1 h1 = 0)) => ?_)
  · have hF := ite_t hc3 hF
    refine g_seg hK [.iconst (-1)] 27 28 (L1 := [(0, vR 0), (1, vI p1), (2, vI p2)]) (st1 := [vI (-1)]) (h1 := h1) (P := True ∧ True) (by decide +kernel) rfl rfl ⟨trivial, trivial⟩ ?_
    cases hF
    exact hR.1 28 _ _ _ (by decide +kernel) rfl ⟨rfl, rfl⟩
  · have hF := ite_f hc3 hF
    refine g_seg hK [.aload_n 0, .getfield 52, .iload_n 1, .iload_n 2] 15 21 (L1 := [(0, vR 0), (1, vI p1), (2, vI p2)]) (st1 := [vI p2, vI p1, vR 54]) (h1 := h1) (P := True ∧ kd 0 = 8 ∧ True ∧ True ∧ True) (by decide +kernel) rfl rfl ⟨trivial, rfl, trivial, trivial, trivial⟩ ?_
    refine g_callV1 hK 21 191 (d1 := 2) (ci := 5) (i := 54) (vs := [vI p1, vI p2]) (rest := []) (h1 := h1) (r := vI (F_V_hindrance p1 p2 h1)) my_yX5_hindrance vw_X6_191 (by decide) (T_V_hindrance (p1 := p1) (p2 := p2) (h := h1) (hF := rfl)) rfl rfl rfl (Nat.le_of_ble_eq_true rfl) (by decide +kernel) ?_
    refine g_goto hK 24 (4) 28 (by decide +kernel) (by decide) ?_
    cases hF
    exact hR.1 28 _ _ _ (by decide +kernel) rfl ⟨rfl, rfl⟩
set_option maxHeartbeats 4000000 in
set_option maxRecDepth 100000 in
theorem T_St_laid {o : Nat} {h : MH} {r : Int} (ks : kd o = 6) (hF : F_St_laid o h = r) : CON 0 yX4_laid cX4_laid 1 (Option.some Jvm.ClassFile.FieldType.int) [vR o] h (some (vI r)) h := by
  refine con_of (own := RX4) (fl := flX4) (by decide +kernel) rfl flok_X4 rfl (Nat.le_of_ble_eq_true rfl) ?_
  intro K hK hR
  show K 0 [(0, vR o)] [] h
  unfold F_St_laid at hF
  refine g_seg hK [.aload_n 0, .getfield 33] 0 4 (L1 := [(0, vR o)]) (st1 := [vI (h o 5)]) (h1 := h) (P := True ∧ kd o = 6 ∧ True) (by decide +kernel) rfl rfl ⟨trivial, ks, trivial⟩ ?_
  cases hF
  exact hR.1 4 _ _ _ (by decide +kernel) rfl ⟨rfl, rfl⟩
set_option maxHeartbeats 4000000 in
set_option maxRecDepth 100000 in
theorem T_St_leftOut {o : Nat} {h : MH} {r : Int} (ks : kd o = 6) (hF : F_St_leftOut o h = r) : CON 0 yX4_leftOut cX4_leftOut 1 (Option.some Jvm.ClassFile.FieldType.int) [vR o] h (some (vI r)) h := by
  refine con_of (own := RX4) (fl := flX4) (by decide +kernel) rfl flok_X4 rfl (Nat.le_of_ble_eq_true rfl) ?_
  intro K hK hR
  show K 0 [(0, vR o)] [] h
  unfold F_St_leftOut at hF
  refine g_seg hK [.aload_n 0, .getfield 36] 0 4 (L1 := [(0, vR o)]) (st1 := [vI (h o 6)]) (h1 := h) (P := True ∧ kd o = 6 ∧ True) (by decide +kernel) rfl rfl ⟨trivial, ks, trivial⟩ ?_
  cases hF
  exact hR.1 4 _ _ _ (by decide +kernel) rfl ⟨rfl, rfl⟩
set_option maxHeartbeats 4000000 in
set_option maxRecDepth 100000 in
theorem T_Hi_size {h : MH} {r : Int} (hF : F_Hi_size h = r) : CON 0 yX1_size cX1_size 1 (Option.some Jvm.ClassFile.FieldType.int) [vR 17] h (some (vI r)) h := by
  refine con_of (own := RX1) (fl := flX1) (by decide +kernel) rfl flok_X1 rfl (Nat.le_of_ble_eq_true rfl) ?_
  intro K hK hR
  show K 0 [(0, vR 17)] [] h
  unfold F_Hi_size at hF
  refine g_seg hK [.aload_n 0, .getfield 17] 0 4 (L1 := [(0, vR 17)]) (st1 := [vI (h 17 1)]) (h1 := h) (P := True ∧ kd 17 = 3 ∧ True) (by decide +kernel) rfl rfl ⟨trivial, rfl, trivial⟩ ?_
  cases hF
  exact hR.1 4 _ _ _ (by decide +kernel) rfl ⟨rfl, rfl⟩
set_option maxHeartbeats 4000000 in
set_option maxRecDepth 100000 in
theorem T_X_heldNumber {p1 : Int} {h : MH} {r : Int} (hF : F_X_heldNumber p1 h = r) : CON 1 yX6_heldNumber cX6_heldNumber 2 (Option.some Jvm.ClassFile.FieldType.int) [vR 0, vI p1] h (some (vI r)) h := by
  refine con_of (own := RX6) (fl := flX6) (by decide +kernel) rfl flok_X6 rfl (Nat.le_of_ble_eq_true rfl) ?_
  intro K hK hR
  show K 0 [(0, vR 0), (1, vI p1)] [] h
  unfold F_X_heldNumber at hF
  refine g_seg hK [.iload_n 1] 0 1 (L1 := [(0, vR 0), (1, vI p1)]) (st1 := [vI p1]) (h1 := h) (P := True ∧ True) (by decide +kernel) rfl rfl ⟨trivial, trivial⟩ ?_
  refine g_sw hK 1 77 12 16 #[35, 43, 51, 60, 69] 35 (by decide +kernel) (by decide) ?_
  by_cases hc1 : p1 = 12
  · have hF := ite_t hc1 hF
    rw [show swT 1 77 12 16 [35, 43, 51, 60, 69] p1 = 36 from by rw [hc1]; decide]
    refine g_seg hK [.aload_n 0, .getfield 21] 36 40 (L1 := [(0, vR 0), (1, vI p1)]) (st1 := [vR 3]) (h1 := h) (P := True ∧ kd 0 = 8 ∧ True) (by decide +kernel) rfl rfl ⟨trivial, rfl, trivial⟩ ?_
    refine g_callV1 hK 40 255 (d1 := 0) (ci := 4) (i := 3) (vs := []) (rest := []) (h1 := h) (r := vI (F_St_laid 3 h)) my_yX4_laid vw_X6_255 (by decide) (T_St_laid (o := 3) (h := h) (ks := rfl) (hF := rfl)) rfl rfl rfl (Nat.le_of_ble_eq_true rfl) (by decide +kernel) ?_
    cases hF
    exact hR.1 43 _ _ _ (by decide +kernel) rfl ⟨rfl, rfl⟩
  · have hF := ite_f hc1 hF
    by_cases hc2 : p1 = 13
    · have hF := ite_t hc2 hF
      rw [show swT 1 77 12 16 [35, 43, 51, 60, 69] p1 = 44 from by rw [hc2]; decide]
      refine g_seg hK [.aload_n 0, .getfield 21] 44 48 (L1 := [(0, vR 0), (1, vI p1)]) (st1 := [vR 3]) (h1 := h) (P := True ∧ kd 0 = 8 ∧ True) (by decide +kernel) rfl rfl ⟨trivial, rfl, trivial⟩ ?_
      refine g_callV1 hK 48 256 (d1 := 0) (ci := 4) (i := 3) (vs := []) (rest := []) (h1 := h) (r := vI (F_St_leftOut 3 h)) my_yX4_leftOut vw_X6_256 (by decide) (T_St_leftOut (o := 3) (h := h) (ks := rfl) (hF := rfl)) rfl rfl rfl (Nat.le_of_ble_eq_true rfl) (by decide +kernel) ?_
      cases hF
      exact hR.1 51 _ _ _ (by decide +kernel) rfl ⟨rfl, rfl⟩
    · have hF := ite_f hc2 hF
      by_cases hc3 : p1 = 14
      · have hF := ite_t hc3 hF
        rw [show swT 1 77 12 16 [35, 43, 51, 60, 69] p1 = 52 from by rw [hc3]; decide]
        refine g_seg hK [.aload_n 0, .getfield 21, .iconst 0] 52 57 (L1 := [(0, vR 0), (1, vI p1)]) (st1 := [vI 0, vR 3]) (h1 := h) (P := True ∧ kd 0 = 8 ∧ True ∧ True) (by decide +kernel) rfl rfl ⟨trivial, rfl, trivial, trivial⟩ ?_
        refine g_callV1 hK 57 112 (d1 := 0) (ci := 4) (i := 3) (vs := [vI 0]) (rest := []) (h1 := h) (r := vI (F_St_setting 3 0 h)) my_yX4_setting vw_X6_112 (by decide) (T_St_setting (o := 3) (p1 := 0) (h := h) (ks := rfl) (hF := rfl)) rfl rfl rfl (Nat.le_of_ble_eq_true rfl) (by decide +kernel) ?_
        cases hF
        exact hR.1 60 _ _ _ (by decide +kernel) rfl ⟨rfl, rfl⟩
      · have hF := ite_f hc3 hF
        by_cases hc4 : p1 = 15
        · have hF := ite_t hc4 hF
          rw [show swT 1 77 12 16 [35, 43, 51, 60, 69] p1 = 61 from by rw [hc4]; decide]
          refine g_seg hK [.aload_n 0, .getfield 21, .iconst 1] 61 66 (L1 := [(0, vR 0), (1, vI p1)]) (st1 := [vI 1, vR 3]) (h1 := h) (P := True ∧ kd 0 = 8 ∧ True ∧ True) (by decide +kernel) rfl rfl ⟨trivial, rfl, trivial, trivial⟩ ?_
          refine g_callV1 hK 66 112 (d1 := 0) (ci := 4) (i := 3) (vs := [vI 1]) (rest := []) (h1 := h) (r := vI (F_St_setting 3 1 h)) my_yX4_setting vw_X6_112 (by decide) (T_St_setting (o := 3) (p1 := 1) (h := h) (ks := rfl) (hF := rfl)) rfl rfl rfl (Nat.le_of_ble_eq_true rfl) (by decide +kernel) ?_
          cases hF
          exact hR.1 69 _ _ _ (by decide +kernel) rfl ⟨rfl, rfl⟩
        · have hF := ite_f hc4 hF
          by_cases hc5 : p1 = 16
          · have hF := ite_t hc5 hF
            rw [show swT 1 77 12 16 [35, 43, 51, 60, 69] p1 = 70 from by rw [hc5]; decide]
            refine g_seg hK [.aload_n 0, .getfield 14] 70 74 (L1 := [(0, vR 0), (1, vI p1)]) (st1 := [vR 1]) (h1 := h) (P := True ∧ kd 0 = 8 ∧ True) (by decide +kernel) rfl rfl ⟨trivial, rfl, trivial⟩ ?_
            refine g_callV1 hK 74 63 (d1 := 0) (ci := 3) (i := 1) (vs := []) (rest := []) (h1 := h) (r := vI (F_Ro_size 1 h)) my_yX3_size vw_X6_63 (by decide) (T_Ro_size (o := 1) (h := h) (ko := rfl) (hF := rfl)) rfl rfl rfl (Nat.le_of_ble_eq_true rfl) (by decide +kernel) ?_
            cases hF
            exact hR.1 77 _ _ _ (by decide +kernel) rfl ⟨rfl, rfl⟩
          · have hF := ite_f hc5 hF
            rw [show swT 1 77 12 16 [35, 43, 51, 60, 69] p1 = 78 from by unfold swT; rw [if_pos (by omega)]; decide]
            refine g_seg hK [.aload_n 0, .getfield 35] 78 82 (L1 := [(0, vR 0), (1, vI p1)]) (st1 := [vR 17]) (h1 := h) (P := True ∧ kd 0 = 8 ∧ True) (by decide +kernel) rfl rfl ⟨trivial, rfl, trivial⟩ ?_
            refine g_callV1 hK 82 220 (d1 := 0) (ci := 1) (i := 17) (vs := []) (rest := []) (h1 := h) (r := vI (F_Hi_size h)) my_yX1_size vw_X6_220 (by decide) (T_Hi_size (h := h) (hF := rfl)) rfl rfl rfl (Nat.le_of_ble_eq_true rfl) (by decide +kernel) ?_
            cases hF
            exact hR.1 85 _ _ _ (by decide +kernel) rfl ⟨rfl, rfl⟩
set_option maxHeartbeats 4000000 in
set_option maxRecDepth 100000 in
theorem T_V_linesOfKind {p1 : Int} {h : MH} {r : Int} (hF : F_V_linesOfKind p1 h = some r) : CON 2 yX5_linesOfKind cX5_linesOfKind 2 (Option.some Jvm.ClassFile.FieldType.int) [vR 54, vI p1] h (some (vI r)) h := by
  refine con_of (own := RX5) (fl := flX5) (by decide +kernel) rfl flok_X5 rfl (Nat.le_of_ble_eq_true rfl) ?_
  intro K hK hR
  show K 0 [(0, vR 54), (1, vI p1)] [] h
  unfold F_V_linesOfKind at hF
  refine g_seg hK [.aload_n 0, .iconst 0, .aload_n 0] 0 3 (L1 := [(0, vR 54), (1, vI p1)]) (st1 := [vR 54, vI 0, vR 54]) (h1 := h) (P := True ∧ True ∧ True ∧ True) (by decide +kernel) rfl rfl ⟨trivial, trivial, trivial, trivial⟩ ?_
  refine g_callV1 hK 3 59 (d1 := 1) (ci := 5) (i := 54) (vs := []) (rest := [vI 0, vR 54]) (h1 := h) (r := vI (F_V_size h)) my_yX5_size vw_X5_59 (by decide) (T_V_size (h := h) (hF := rfl)) rfl rfl rfl (Nat.le_of_ble_eq_true rfl) (by decide +kernel) ?_
  refine g_seg hK [.iload_n 1] 6 7 (L1 := [(0, vR 54), (1, vI p1)]) (st1 := [vI p1, vI (F_V_size h), vI 0, vR 54]) (h1 := h) (P := True ∧ True) (by decide +kernel) rfl rfl ⟨trivial, trivial⟩ ?_
  obtain ⟨r1, e2, hF⟩ := ob1_elim hF
  refine g_callV1 hK 7 97 (d1 := 1) (ci := 5) (i := 54) (vs := [vI 0, vI (F_V_size h), vI p1]) (rest := []) (h1 := h) (r := vI r1) my_yX5_linesWithin vw_X5_97 (by decide) (T_V_linesWithin (p1 := 0) (p2 := (F_V_size h)) (p3 := p1) (h := h) (hF := e2)) rfl rfl rfl (Nat.le_of_ble_eq_true rfl) (by decide +kernel) ?_
  cases hF
  exact hR.1 10 _ _ _ (by decide +kernel) rfl ⟨rfl, rfl⟩
set_option maxHeartbeats 4000000 in
set_option maxRecDepth 100000 in
theorem LT_V_plainHunks_L4 {K : KT} (hK : Rules RX5 cX5_plainHunks 3 (Option.some Jvm.ClassFile.FieldType.int) flX5 2 K) {h : MH} : ∀ (n : Nat) (x1 : Int) (x2 : Int) (x1' : Int) (x2' : Int), F_V_plainHunks_L4 h n x1 x2 = some (x1', x2') → K 34 [(0, vR 54), (1, vI x1'), (2, vI x2')] [] h → K 4 [(0, vR 54), (1, vI x1), (2, vI x2)] [] h := by
  intro n
  induction n with
  | zero =>
    intro x1 x2 x1' x2' hF
    cases hF
  | succ n ih =>
    intro x1 x2 x1' x2' hF hE
    unfold F_V_plainHunks_L4 at hF
    refine g_seg hK [.iload_n 2, .aload_n 0] 4 6 (L1 := [(0, vR 54), (1, vI x1), (2, vI x2)]) (st1 := [vR 54, vI x2]) (h1 := h) (P := True ∧ True ∧ True) (by decide +kernel) rfl rfl ⟨trivial, trivial, trivial⟩ ?_
    refine g_callV1 hK 6 64 (d1 := 1) (ci := 5) (i := 54) (vs := []) (rest := [vI x2]) (h1 := h) (r := vI (F_V_hunks h)) my_yX5_hunks vw_X5_64 (by decide) (T_V_hunks (h := h) (hF := rfl)) rfl rfl rfl (Nat.le_of_ble_eq_true rfl) (by decide +kernel) ?_
    refine g_icmp hK 9 .ge (25) 34 (t1 := 12) (t2 := 34) (by decide +kernel) (by decide) rfl rfl (fun (hc1 : x2 < F_V_hunks h) => ?_) (fun (hc1 : ¬ (x2 < F_V_hunks h)) => ?_)
    · have hF := ite_t hc1 hF
      refine g_seg hK [.iload_n 1, .aload_n 0, .iload_n 2] 12 15 (L1 := [(0, vR 54), (1, vI x1), (2, vI x2)]) (st1 := [vI x2, vR 54, vI x1]) (h1 := h) (P := True ∧ True ∧ True ∧ True) (by decide +kernel) rfl rfl ⟨trivial, trivial, trivial, trivial⟩ ?_
      refine g_callV1 hK 15 71 (d1 := 1) (ci := 5) (i := 54) (vs := [vI x2]) (rest := [vI x1]) (h1 := h) (r := vI (F_V_isPlain x2 h)) my_yX5_isPlain vw_X5_71 (by decide) (T_V_isPlain (p1 := x2) (h := h) (hF := rfl)) rfl rfl rfl (Nat.le_of_ble_eq_true rfl) (by decide +kernel) ?_
      obtain ⟨s2, e5, hF⟩ := jn1_elim hF
      have j3 : K 26 [(0, vR 54), (2, vI x2)] [vI s2, vI x1] h := by
        refine g_seg hK [.iadd, .istore_n 1, .iinc 2 1] 26 31 (L1 := [(2, vI (wr (x2 + 1))), (1, vI (wr (x1 + s2))), (0, vR 54)]) (st1 := []) (h1 := h) (P := True ∧ True ∧ True ∧ True) (by decide +kernel) rfl rfl ⟨trivial, trivial, trivial, trivial⟩ ?_
        refine g_goto hK 31 (-27) 4 (by decide +kernel) (by decide) ?_
        refine hK.2.1 _ _ ([(0, vR 54), (1, vI (wr (x1 + s2))), (2, vI (wr (x2 + 1)))]) _ _ (sub_of [2, 1, 0] rfl) ?_
        exact ih _ _ _ _ hF hE
      clear hF
      have hF := e5
      refine g_ifz hK 18 .eq (7) 25 (t1 := 25) (t2 := 21) (by decide +kernel) (by decide) rfl rfl (fun (hc4 : F_V_isPlain x2 h = 0) => ?_) (fun (hc4 : ¬ (F_V_isPlain x2 h = 0)) => ?_)
      · have hF := ite_t hc4 hF
        refine g_seg hK [.iconst 0] 25 26 (L1 := [(0, vR 54), (1, vI x1), (2, vI x2)]) (st1 := [vI 0, vI x1]) (h1 := h) (P := True ∧ True) (by decide +kernel) rfl rfl ⟨trivial, trivial⟩ ?_
        refine hK.2.1 _ _ ([(0, vR 54), (2, vI x2)]) _ _ (sub_of [0, 2] rfl) ?_
        cases hF
        exact j3
      · have hF := ite_f hc4 hF
        refine g_seg hK [.iconst 1] 21 22 (L1 := [(0, vR 54), (1, vI x1), (2, vI x2)]) (st1 := [vI 1, vI x1]) (h1 := h) (P := True ∧ True) (by decide +kernel) rfl rfl ⟨trivial, trivial⟩ ?_
        refine g_goto hK 22 (4) 26 (by decide +kernel) (by decide) ?_
        refine hK.2.1 _ _ ([(0, vR 54), (2, vI x2)]) _ _ (sub_of [0, 2] rfl) ?_
        cases hF
        exact j3
    · have hF := ite_f hc1 hF
      cases hF
      exact hE
set_option maxHeartbeats 4000000 in
set_option maxRecDepth 100000 in
theorem T_V_plainHunks {h : MH} {r : Int} (hF : F_V_plainHunks h = some r) : CON 2 yX5_plainHunks cX5_plainHunks 3 (Option.some Jvm.ClassFile.FieldType.int) [vR 54] h (some (vI r)) h := by
  refine con_of (own := RX5) (fl := flX5) (by decide +kernel) rfl flok_X5 rfl (Nat.le_of_ble_eq_true rfl) ?_
  intro K hK hR
  show K 0 [(0, vR 54)] [] h
  unfold F_V_plainHunks at hF
  refine g_seg hK [.iconst 0, .istore_n 1, .iconst 0, .istore_n 2] 0 4 (L1 := [(2, vI 0), (1, vI 0), (0, vR 54)]) (st1 := []) (h1 := h) (P := True ∧ True ∧ True ∧ True ∧ True) (by decide +kernel) rfl rfl ⟨trivial, trivial, trivial, trivial, trivial⟩ ?_
  refine hK.2.1 _ _ ([(0, vR 54), (1, vI 0), (2, vI 0)]) _ _ (sub_of [2, 1, 0] rfl) ?_
  obtain ⟨x1_1, x2_2, e3, hF⟩ := ob2_elim hF
  refine LT_V_plainHunks_L4 hK _ _ _ _ _ e3 ?_
  refine g_seg hK [.iload_n 1] 34 35 (L1 := [(0, vR 54), (1, vI x1_1), (2, vI x2_2)]) (st1 := [vI x1_1]) (h1 := h) (P := True ∧ True) (by decide +kernel) rfl rfl ⟨trivial, trivial⟩ ?_
  cases hF
  exact hR.1 35 _ _ _ (by decide +kernel) rfl ⟨rfl, rfl⟩
set_option maxHeartbeats 4000000 in
set_option maxRecDepth 100000 in
theorem LT_V_slidingHunks_L4 {K : KT} (hK : Rules RX5 cX5_slidingHunks 3 (Option.some Jvm.ClassFile.FieldType.int) flX5 3 K) {h : MH} : ∀ (n : Nat) (x1 : Int) (x2 : Int) (x1' : Int) (x2' : Int), F_V_slidingHunks_L4 h n x1 x2 = some (x1', x2') → K 42 [(0, vR 54), (1, vI x1'), (2, vI x2')] [] h → K 4 [(0, vR 54), (1, vI x1), (2, vI x2)] [] h := by
  intro n
  induction n with
  | zero =>
    intro x1 x2 x1' x2' hF
    cases hF
  | succ n ih =>
    intro x1 x2 x1' x2' hF hE
    unfold F_V_slidingHunks_L4 at hF
    refine g_seg hK [.iload_n 2, .aload_n 0] 4 6 (L1 := [(0, vR 54), (1, vI x1), (2, vI x2)]) (st1 := [vR 54, vI x2]) (h1 := h) (P := True ∧ True ∧ True) (by decide +kernel) rfl rfl ⟨trivial, trivial, trivial⟩ ?_
    refine g_callV1 hK 6 64 (d1 := 1) (ci := 5) (i := 54) (vs := []) (rest := [vI x2]) (h1 := h) (r := vI (F_V_hunks h)) my_yX5_hunks vw_X5_64 (by decide) (T_V_hunks (h := h) (hF := rfl)) rfl rfl rfl (Nat.le_of_ble_eq_true rfl) (by decide +kernel) ?_
    refine g_icmp hK 9 .ge (33) 42 (t1 := 12) (t2 := 42) (by decide +kernel) (by decide) rfl rfl (fun (hc1 : x2 < F_V_hunks h) => ?_) (fun (hc1 : ¬ (x2 < F_V_hunks h)) => ?_)
    · have hF := ite_t hc1 hF
      refine g_seg hK [.iload_n 1, .aload_n 0, .iload_n 2, .iconst 0] 12 16 (L1 := [(0, vR 54), (1, vI x1), (2, vI x2)]) (st1 := [vI 0, vI x2, vR 54, vI x1]) (h1 := h) (P := True ∧ True ∧ True ∧ True ∧ True) (by decide +kernel) rfl rfl ⟨trivial, trivial, trivial, trivial, trivial⟩ ?_
      obtain ⟨r2, e3, hF⟩ := ob1_elim hF
      refine g_callV1 hK 16 90 (d1 := 2) (ci := 5) (i := 54) (vs := [vI x2, vI 0]) (rest := [vI x1]) (h1 := h) (r := vI r2) my_yX5_reach vw_X5_90 (by decide) (T_V_reach (p1 := x2) (p2 := 0) (h := h) (hF := e3)) rfl rfl rfl (Nat.le_of_ble_eq_true rfl) (by decide +kernel) ?_
      refine g_seg hK [.aload_n 0, .iload_n 2, .iconst 1] 19 22 (L1 := [(0, vR 54), (1, vI x1), (2, vI x2)]) (st1 := [vI 1, vI x2, vR 54, vI r2, vI x1]) (h1 := h) (P := True ∧ True ∧ True ∧ True) (by decide +kernel) rfl rfl ⟨trivial, trivial, trivial, trivial⟩ ?_
      obtain ⟨r4, e5, hF⟩ := ob1_elim hF
      refine g_callV1 hK 22 90 (d1 := 2) (ci := 5) (i := 54) (vs := [vI x2, vI 1]) (rest := [vI r2, vI x1]) (h1 := h) (r := vI r4) my_yX5_reach vw_X5_90 (by decide) (T_V_reach (p1 := x2) (p2 := 1) (h := h) (hF := e5)) rfl rfl rfl (Nat.le_of_ble_eq_true rfl) (by decide +kernel) ?_
      refine g_seg hK [.iadd] 25 26 (L1 := [(0, vR 54), (1, vI x1), (2, vI x2)]) (st1 := [vI (wr (r2 + r4)), vI x1]) (h1 := h) (P := True ∧ True) (by decide +kernel) rfl rfl ⟨trivial, trivial⟩ ?_
      obtain ⟨s6, e9, hF⟩ := jn1_elim hF
      have j7 : K 34 [(0, vR 54), (2, vI x2)] [vI s6, vI x1] h := by
        refine g_seg hK [.iadd, .istore_n 1, .iinc 2 1] 34 39 (L1 := [(2, vI (wr (x2 + 1))), (1, vI (wr (x1 + s6))), (0, vR 54)]) (st1 := []) (h1 := h) (P := True ∧ True ∧ True ∧ True) (by decide +kernel) rfl rfl ⟨trivial, trivial, trivial, trivial⟩ ?_
        refine g_goto hK 39 (-35) 4 (by decide +kernel) (by decide) ?_
        refine hK.2.1 _ _ ([(0, vR 54), (1, vI (wr (x1 + s6))), (2, vI (wr (x2 + 1)))]) _ _ (sub_of [2, 1, 0] rfl) ?_
        exact ih _ _ _ _ hF hE
      clear hF
      have hF := e9
      refine g_ifz hK 26 .le (7) 33 (t1 := 33) (t2 := 29) (by decide +kernel) (by decide) rfl rfl (fun (hc8 : wr (r2 + r4) ≤ 0) => ?_) (fun (hc8 : ¬ (wr (r2 + r4) ≤ 0)) => ?_)
      · have hF := ite_t hc8 hF
        refine g_seg hK [.iconst 0] 33 34 (L1 := [(0, vR 54), (1, vI x1), (2, vI x2)]) (st1 := [vI 0, vI x1]) (h1 := h) (P := True ∧ True) (by decide +kernel) rfl rfl ⟨trivial, trivial⟩ ?_
        refine hK.2.1 _ _ ([(0, vR 54), (2, vI x2)]) _ _ (sub_of [0, 2] rfl) ?_
        cases hF
        exact j7
      · have hF := ite_f hc8 hF
        refine g_seg hK [.iconst 1] 29 30 (L1 := [(0, vR 54), (1, vI x1), (2, vI x2)]) (st1 := [vI 1, vI x1]) (h1 := h) (P := True ∧ True) (by decide +kernel) rfl rfl ⟨trivial, trivial⟩ ?_
        refine g_goto hK 30 (4) 34 (by decide +kernel) (by decide) ?_
        refine hK.2.1 _ _ ([(0, vR 54), (2, vI x2)]) _ _ (sub_of [0, 2] rfl) ?_
        cases hF
        exact j7
    · have hF := ite_f hc1 hF
      cases hF
      exact hE
set_option maxHeartbeats 4000000 in
set_option maxRecDepth 100000 in
theorem T_V_slidingHunks {h : MH} {r : Int} (hF : F_V_slidingHunks h = some r) : CON 3 yX5_slidingHunks cX5_slidingHunks 3 (Option.some Jvm.ClassFile.FieldType.int) [vR 54] h (some (vI r)) h := by
  refine con_of (own := RX5) (fl := flX5) (by decide +kernel) rfl flok_X5 rfl (Nat.le_of_ble_eq_true rfl) ?_
  intro K hK hR
  show K 0 [(0, vR 54)] [] h
  unfold F_V_slidingHunks at hF
  refine g_seg hK [.iconst 0, .istore_n 1, .iconst 0, .istore_n 2] 0 4 (L1 := [(2, vI 0), (1, vI 0), (0, vR 54)]) (st1 := []) (h1 := h) (P := True ∧ True ∧ True ∧ True ∧ True) (by decide +kernel) rfl rfl ⟨trivial, trivial, trivial, trivial, trivial⟩ ?_
  refine hK.2.1 _ _ ([(0, vR 54), (1, vI 0), (2, vI 0)]) _ _ (sub_of [2, 1, 0] rfl) ?_
  obtain ⟨x1_1, x2_2, e3, hF⟩ := ob2_elim hF
  refine LT_V_slidingHunks_L4 hK _ _ _ _ _ e3 ?_
  refine g_seg hK [.iload_n 1] 42 43 (L1 := [(0, vR 54), (1, vI x1_1), (2, vI x2_2)]) (st1 := [vI x1_1]) (h1 := h) (P := True ∧ True) (by decide +kernel) rfl rfl ⟨trivial, trivial⟩ ?_
  cases hF
  exact hR.1 43 _ _ _ (by decide +kernel) rfl ⟨rfl, rfl⟩
set_option maxHeartbeats 4000000 in
set_option maxRecDepth 100000 in
theorem LT_V_worthOfAll_L4 {K : KT} (hK : Rules RX5 cX5_worthOfAll 3 (Option.some Jvm.ClassFile.FieldType.int) flX5 3 K) {h : MH} : ∀ (n : Nat) (x1 : Int) (x2 : Int) (x1' : Int) (x2' : Int), F_V_worthOfAll_L4 h n x1 x2 = some (x1', x2') → K 26 [(0, vR 54), (1, vI x1'), (2, vI x2')] [] h → K 4 [(0, vR 54), (1, vI x1), (2, vI x2)] [] h := by
  intro n
  induction n with
  | zero =>
    intro x1 x2 x1' x2' hF
    cases hF
  | succ n ih =>
    intro x1 x2 x1' x2' hF hE
    unfold F_V_worthOfAll_L4 at hF
    refine g_seg hK [.iload_n 2, .aload_n 0] 4 6 (L1 := [(0, vR 54), (1, vI x1), (2, vI x2)]) (st1 := [vR 54, vI x2]) (h1 := h) (P := True ∧ True ∧ True) (by decide +kernel) rfl rfl ⟨trivial, trivial, trivial⟩ ?_
    refine g_callV1 hK 6 64 (d1 := 1) (ci := 5) (i := 54) (vs := []) (rest := [vI x2]) (h1 := h) (r := vI (F_V_hunks h)) my_yX5_hunks vw_X5_64 (by decide) (T_V_hunks (h := h) (hF := rfl)) rfl rfl rfl (Nat.le_of_ble_eq_true rfl) (by decide +kernel) ?_
    refine g_icmp hK 9 .ge (17) 26 (t1 := 12) (t2 := 26) (by decide +kernel) (by decide) rfl rfl (fun (hc1 : x2 < F_V_hunks h) => ?_) (fun (hc1 : ¬ (x2 < F_V_hunks h)) => ?_)
    · have hF := ite_t hc1 hF
      refine g_seg hK [.iload_n 1, .aload_n 0, .iload_n 2] 12 15 (L1 := [(0, vR 54), (1, vI x1), (2, vI x2)]) (st1 := [vI x2, vR 54, vI x1]) (h1 := h) (P := True ∧ True ∧ True ∧ True) (by decide +kernel) rfl rfl ⟨trivial, trivial, trivial, trivial⟩ ?_
      refine g_callV1 hK 15 106 (d1 := 2) (ci := 5) (i := 54) (vs := [vI x2]) (rest := [vI x1]) (h1 := h) (r := vI (F_V_worth x2 h)) my_yX5_worth vw_X5_106 (by decide) (T_V_worth (p1 := x2) (h := h) (hF := rfl)) rfl rfl rfl (Nat.le_of_ble_eq_true rfl) (by decide +kernel) ?_
      refine g_seg hK [.iadd, .istore_n 1, .iinc 2 1] 18 23 (L1 := [(2, vI (wr (x2 + 1))), (1, vI (wr (x1 + (F_V_worth x2 h)))), (0, vR 54)]) (st1 := []) (h1 := h) (P := True ∧ True ∧ True ∧ True) (by decide +kernel) rfl rfl ⟨trivial, trivial, trivial, trivial⟩ ?_
      refine g_goto hK 23 (-19) 4 (by decide +kernel) (by decide) ?_
      refine hK.2.1 _ _ ([(0, vR 54), (1, vI (wr (x1 + (F_V_worth x2 h)))), (2, vI (wr (x2 + 1)))]) _ _ (sub_of [2, 1, 0] rfl) ?_
      exact ih _ _ _ _ hF hE
    · have hF := ite_f hc1 hF
      cases hF
      exact hE
set_option maxHeartbeats 4000000 in
set_option maxRecDepth 100000 in
theorem T_V_worthOfAll {h : MH} {r : Int} (hF : F_V_worthOfAll h = some r) : CON 3 yX5_worthOfAll cX5_worthOfAll 3 (Option.some Jvm.ClassFile.FieldType.int) [vR 54] h (some (vI r)) h := by
  refine con_of (own := RX5) (fl := flX5) (by decide +kernel) rfl flok_X5 rfl (Nat.le_of_ble_eq_true rfl) ?_
  intro K hK hR
  show K 0 [(0, vR 54)] [] h
  unfold F_V_worthOfAll at hF
  refine g_seg hK [.iconst 0, .istore_n 1, .iconst 0, .istore_n 2] 0 4 (L1 := [(2, vI 0), (1, vI 0), (0, vR 54)]) (st1 := []) (h1 := h) (P := True ∧ True ∧ True ∧ True ∧ True) (by decide +kernel) rfl rfl ⟨trivial, trivial, trivial, trivial, trivial⟩ ?_
  refine hK.2.1 _ _ ([(0, vR 54), (1, vI 0), (2, vI 0)]) _ _ (sub_of [2, 1, 0] rfl) ?_
  obtain ⟨x1_1, x2_2, e3, hF⟩ := ob2_elim hF
  refine LT_V_worthOfAll_L4 hK _ _ _ _ _ e3 ?_
  refine g_seg hK [.iload_n 1] 26 27 (L1 := [(0, vR 54), (1, vI x1_1), (2, vI x2_2)]) (st1 := [vI x1_1]) (h1 := h) (P := True ∧ True) (by decide +kernel) rfl rfl ⟨trivial, trivial⟩ ?_
  cases hF
  exact hR.1 27 _ _ _ (by decide +kernel) rfl ⟨rfl, rfl⟩
set_option maxHeartbeats 4000000 in
set_option maxRecDepth 100000 in
theorem LT_V_longestKept_L6 {K : KT} (hK : Rules RX5 cX5_longestKept 4 (Option.some Jvm.ClassFile.FieldType.int) flX5 2 K) {h : MH} : ∀ (n : Nat) (x1 : Int) (x2 : Int) (x3 : Int) (x1' : Int) (x2' : Int) (x3' : Int), F_V_longestKept_L6 h n x1 x2 x3 = some (x1', x2', x3') → K 42 [(0, vR 54), (1, vI x1'), (2, vI x2'), (3, vI x3')] [] h → K 6 [(0, vR 54), (1, vI x1), (2, vI x2), (3, vI x3)] [] h := by
  intro n
  induction n with
  | zero =>
    intro x1 x2 x3 x1' x2' x3' hF
    cases hF
  | succ n ih =>
    intro x1 x2 x3 x1' x2' x3' hF hE
    unfold F_V_longestKept_L6 at hF
    refine g_seg hK [.iload_n 3, .aload_n 0] 6 8 (L1 := [(0, vR 54), (1, vI x1), (2, vI x2), (3, vI x3)]) (st1 := [vR 54, vI x3]) (h1 := h) (P := True ∧ True ∧ True) (by decide +kernel) rfl rfl ⟨trivial, trivial, trivial⟩ ?_
    refine g_callV1 hK 8 59 (d1 := 1) (ci := 5) (i := 54) (vs := []) (rest := [vI x3]) (h1 := h) (r := vI (F_V_size h)) my_yX5_size vw_X5_59 (by decide) (T_V_size (h := h) (hF := rfl)) rfl rfl rfl (Nat.le_of_ble_eq_true rfl) (by decide +kernel) ?_
    refine g_icmp hK 11 .ge (31) 42 (t1 := 14) (t2 := 42) (by decide +kernel) (by decide) rfl rfl (fun (hc1 : x3 < F_V_size h) => ?_) (fun (hc1 : ¬ (x3 < F_V_size h)) => ?_)
    · have hF := ite_t hc1 hF
      refine g_seg hK [.aload_n 0, .iload_n 3] 14 16 (L1 := [(0, vR 54), (1, vI x1), (2, vI x2), (3, vI x3)]) (st1 := [vI x3, vR 54]) (h1 := h) (P := True ∧ True ∧ True) (by decide +kernel) rfl rfl ⟨trivial, trivial, trivial⟩ ?_
      refine g_callV1 hK 16 60 (d1 := 1) (ci := 5) (i := 54) (vs := [vI x3]) (rest := []) (h1 := h) (r := vI (F_V_inHunk x3 h)) my_yX5_inHunk vw_X5_60 (by decide) (T_V_inHunk (p1 := x3) (h := h) (hF := rfl)) rfl rfl rfl (Nat.le_of_ble_eq_true rfl) (by decide +kernel) ?_
      obtain ⟨s2, e5, hF⟩ := jn1_elim hF
      have j3 : K 29 [(0, vR 54), (1, vI x1), (3, vI x3)] [vI s2] h := by
        refine g_seg hK [.istore_n 2, .iload_n 1, .iload_n 2] 29 32 (L1 := [(2, vI s2), (0, vR 54), (1, vI x1), (3, vI x3)]) (st1 := [vI s2, vI x1]) (h1 := h) (P := True ∧ True ∧ True ∧ True) (by decide +kernel) rfl rfl ⟨trivial, trivial, trivial, trivial⟩ ?_
        refine g_mmax hK 32 101 (by decide) mw_X5_101 (Nat.le_of_ble_eq_true rfl) (by decide +kernel) ?_
        refine g_seg hK [.istore_n 1, .iinc 3 1] 35 39 (L1 := [(3, vI (wr (x3 + 1))), (1, vI (imax x1 s2)), (2, vI s2), (0, vR 54)]) (st1 := []) (h1 := h) (P := True ∧ True ∧ True) (by decide +kernel) rfl rfl ⟨trivial, trivial, trivial⟩ ?_
        refine g_goto hK 39 (-33) 6 (by decide +kernel) (by decide) ?_
        refine hK.2.1 _ _ ([(0, vR 54), (1, vI (imax x1 s2)), (2, vI s2), (3, vI (wr (x3 + 1)))]) _ _ (sub_of [3, 1, 2, 0] rfl) ?_
        exact ih _ _ _ _ _ _ hF hE
      clear hF
      have hF := e5
      refine g_ifz hK 19 .eq (7) 26 (t1 := 26) (t2 := 22) (by decide +kernel) (by decide) rfl rfl (fun (hc4 : F_V_inHunk x3 h = 0) => ?_) (fun (hc4 : ¬ (F_V_inHunk x3 h = 0)) => ?_)
      · have hF := ite_t hc4 hF
        refine g_seg hK [.iload_n 2, .iconst 1, .iadd] 26 29 (L1 := [(0, vR 54), (1, vI x1), (2, vI x2), (3, vI x3)]) (st1 := [vI (wr (x2 + 1))]) (h1 := h) (P := True ∧ True ∧ True ∧ True) (by decide +kernel) rfl rfl ⟨trivial, trivial, trivial, trivial⟩ ?_
        refine hK.2.1 _ _ ([(0, vR 54), (1, vI x1), (3, vI x3)]) _ _ (sub_of [0, 1, 3] rfl) ?_
        cases hF
        exact j3
      · have hF := ite_f hc4 hF
        refine g_seg hK [.iconst 0] 22 23 (L1 := [(0, vR 54), (1, vI x1), (2, vI x2), (3, vI x3)]) (st1 := [vI 0]) (h1 := h) (P := True ∧ True) (by decide +kernel) rfl rfl ⟨trivial, trivial⟩ ?_
        refine g_goto hK 23 (6) 29 (by decide +kernel) (by decide) ?_
        refine hK.2.1 _ _ ([(0, vR 54), (1, vI x1), (3, vI x3)]) _ _ (sub_of [0, 1, 3] rfl) ?_
        cases hF
        exact j3
    · have hF := ite_f hc1 hF
      cases hF
      exact hE
set_option maxHeartbeats 4000000 in
set_option maxRecDepth 100000 in
theorem T_V_longestKept {h : MH} {r : Int} (hF : F_V_longestKept h = some r) : CON 2 yX5_longestKept cX5_longestKept 4 (Option.some Jvm.ClassFile.FieldType.int) [vR 54] h (some (vI r)) h := by
  refine con_of (own := RX5) (fl := flX5) (by decide +kernel) rfl flok_X5 rfl (Nat.le_of_ble_eq_true rfl) ?_
  intro K hK hR
  show K 0 [(0, vR 54)] [] h
  unfold F_V_longestKept at hF
  refine g_seg hK [.iconst 0, .istore_n 1, .iconst 0, .istore_n 2, .iconst 0, .istore_n 3] 0 6 (L1 := [(3, vI 0), (2, vI 0), (1, vI 0), (0, vR 54)]) (st1 := []) (h1 := h) (P := True ∧ True ∧ True ∧ True ∧ True ∧ True ∧ True) (by decide +kernel) rfl rfl ⟨trivial, trivial, trivial, trivial, trivial, trivial, trivial⟩ ?_
  refine hK.2.1 _ _ ([(0, vR 54), (1, vI 0), (2, vI 0), (3, vI 0)]) _ _ (sub_of [3, 2, 1, 0] rfl) ?_
  obtain ⟨x1_1, x2_2, x3_3, e4, hF⟩ := ob3_elim hF
  refine LT_V_longestKept_L6 hK _ _ _ _ _ _ _ e4 ?_
  refine g_seg hK [.iload_n 1] 42 43 (L1 := [(0, vR 54), (1, vI x1_1), (2, vI x2_2), (3, vI x3_3)]) (st1 := [vI x1_1]) (h1 := h) (P := True ∧ True) (by decide +kernel) rfl rfl ⟨trivial, trivial⟩ ?_
  cases hF
  exact hR.1 43 _ _ _ (by decide +kernel) rfl ⟨rfl, rfl⟩
set_option maxHeartbeats 4000000 in
set_option maxRecDepth 100000 in
theorem T_X_shownNumber {p1 : Int} {h : MH} {r : Int} (hF : F_X_shownNumber p1 h = some r) : CON 4 yX6_shownNumber cX6_shownNumber 2 (Option.some Jvm.ClassFile.FieldType.int) [vR 0, vI p1] h (some (vI r)) h := by
  refine con_of (own := RX6) (fl := flX6) (by decide +kernel) rfl flok_X6 rfl (Nat.le_of_ble_eq_true rfl) ?_
  intro K hK hR
  show K 0 [(0, vR 0), (1, vI p1)] [] h
  unfold F_X_shownNumber at hF
  refine g_seg hK [.iload_n 1] 0 1 (L1 := [(0, vR 0), (1, vI p1)]) (st1 := [vI p1]) (h1 := h) (P := True ∧ True) (by decide +kernel) rfl rfl ⟨trivial, trivial⟩ ?_
  refine g_sw hK 1 114 3 10 #[47, 55, 64, 73, 82, 90, 98, 106] 47 (by decide +kernel) (by decide) ?_
  by_cases hc1 : p1 = 3
  · have hF := ite_t hc1 hF
    rw [show swT 1 114 3 10 [47, 55, 64, 73, 82, 90, 98, 106] p1 = 48 from by rw [hc1]; decide]
    refine g_seg hK [.aload_n 0, .getfield 52] 48 52 (L1 := [(0, vR 0), (1, vI p1)]) (st1 := [vR 54]) (h1 := h) (P := True ∧ kd 0 = 8 ∧ True) (by decide +kernel) rfl rfl ⟨trivial, rfl, trivial⟩ ?_
    refine g_callV1 hK 52 148 (d1 := 1) (ci := 5) (i := 54) (vs := []) (rest := []) (h1 := h) (r := vI (F_V_size h)) my_yX5_size vw_X6_148 (by decide) (T_V_size (h := h) (hF := rfl)) rfl rfl rfl (Nat.le_of_ble_eq_true rfl) (by decide +kernel) ?_
    cases hF
    exact hR.1 55 _ _ _ (by decide +kernel) rfl ⟨rfl, rfl⟩
  · have hF := ite_f hc1 hF
    by_cases hc2 : p1 = 4
    · have hF := ite_t hc2 hF
      rw [show swT 1 114 3 10 [47, 55, 64, 73, 82, 90, 98, 106] p1 = 56 from by rw [hc2]; decide]
      refine g_seg hK [.aload_n 0, .getfield 52, .iconst 0] 56 61 (L1 := [(0, vR 0), (1, vI p1)]) (st1 := [vI 0, vR 54]) (h1 := h) (P := True ∧ kd 0 = 8 ∧ True ∧ True) (by decide +kernel) rfl rfl ⟨trivial, rfl, trivial, trivial⟩ ?_
      obtain ⟨r3, e4, hF⟩ := ob1_elim hF
      refine g_callV1 hK 61 240 (d1 := 2) (ci := 5) (i := 54) (vs := [vI 0]) (rest := []) (h1 := h) (r := vI r3) my_yX5_linesOfKind vw_X6_240 (by decide) (T_V_linesOfKind (p1 := 0) (h := h) (hF := e4)) rfl rfl rfl (Nat.le_of_ble_eq_true rfl) (by decide +kernel) ?_
      cases hF
      exact hR.1 64 _ _ _ (by decide +kernel) rfl ⟨rfl, rfl⟩
    · have hF := ite_f hc2 hF
      by_cases hc5 : p1 = 5
      · have hF := ite_t hc5 hF
        rw [show swT 1 114 3 10 [47, 55, 64, 73, 82, 90, 98, 106] p1 = 65 from by rw [hc5]; decide]
        refine g_seg hK [.aload_n 0, .getfield 52, .iconst 1] 65 70 (L1 := [(0, vR 0), (1, vI p1)]) (st1 := [vI 1, vR 54]) (h1 := h) (P := True ∧ kd 0 = 8 ∧ True ∧ True) (by decide +kernel) rfl rfl ⟨trivial, rfl, trivial, trivial⟩ ?_
        obtain ⟨r6, e7, hF⟩ := ob1_elim hF
        refine g_callV1 hK 70 240 (d1 := 2) (ci := 5) (i := 54) (vs := [vI 1]) (rest := []) (h1 := h) (r := vI r6) my_yX5_linesOfKind vw_X6_240 (by decide) (T_V_linesOfKind (p1 := 1) (h := h) (hF := e7)) rfl rfl rfl (Nat.le_of_ble_eq_true rfl) (by decide +kernel) ?_
        cases hF
        exact hR.1 73 _ _ _ (by decide +kernel) rfl ⟨rfl, rfl⟩
      · have hF := ite_f hc5 hF
        by_cases hc8 : p1 = 6
        · have hF := ite_t hc8 hF
          rw [show swT 1 114 3 10 [47, 55, 64, 73, 82, 90, 98, 106] p1 = 74 from by rw [hc8]; decide]
          refine g_seg hK [.aload_n 0, .getfield 52, .iconst 2] 74 79 (L1 := [(0, vR 0), (1, vI p1)]) (st1 := [vI 2, vR 54]) (h1 := h) (P := True ∧ kd 0 = 8 ∧ True ∧ True) (by decide +kernel) rfl rfl ⟨trivial, rfl, trivial, trivial⟩ ?_
          obtain ⟨r9, e10, hF⟩ := ob1_elim hF
          refine g_callV1 hK 79 240 (d1 := 2) (ci := 5) (i := 54) (vs := [vI 2]) (rest := []) (h1 := h) (r := vI r9) my_yX5_linesOfKind vw_X6_240 (by decide) (T_V_linesOfKind (p1 := 2) (h := h) (hF := e10)) rfl rfl rfl (Nat.le_of_ble_eq_true rfl) (by decide +kernel) ?_
          cases hF
          exact hR.1 82 _ _ _ (by decide +kernel) rfl ⟨rfl, rfl⟩
        · have hF := ite_f hc8 hF
          by_cases hc11 : p1 = 7
          · have hF := ite_t hc11 hF
            rw [show swT 1 114 3 10 [47, 55, 64, 73, 82, 90, 98, 106] p1 = 83 from by rw [hc11]; decide]
            refine g_seg hK [.aload_n 0, .getfield 52] 83 87 (L1 := [(0, vR 0), (1, vI p1)]) (st1 := [vR 54]) (h1 := h) (P := True ∧ kd 0 = 8 ∧ True) (by decide +kernel) rfl rfl ⟨trivial, rfl, trivial⟩ ?_
            refine g_callV1 hK 87 135 (d1 := 1) (ci := 5) (i := 54) (vs := []) (rest := []) (h1 := h) (r := vI (F_V_hunks h)) my_yX5_hunks vw_X6_135 (by decide) (T_V_hunks (h := h) (hF := rfl)) rfl rfl rfl (Nat.le_of_ble_eq_true rfl) (by decide +kernel) ?_
            cases hF
            exact hR.1 90 _ _ _ (by decide +kernel) rfl ⟨rfl, rfl⟩
          · have hF := ite_f hc11 hF
            by_cases hc12 : p1 = 8
            · have hF := ite_t hc12 hF
              rw [show swT 1 114 3 10 [47, 55, 64, 73, 82, 90, 98, 106] p1 = 91 from by rw [hc12]; decide]
              refine g_seg hK [.aload_n 0, .getfield 52] 91 95 (L1 := [(0, vR 0), (1, vI p1)]) (st1 := [vR 54]) (h1 := h) (P := True ∧ kd 0 = 8 ∧ True) (by decide +kernel) rfl rfl ⟨trivial, rfl, trivial⟩ ?_
              obtain ⟨r13, e14, hF⟩ := ob1_elim hF
              refine g_callV1 hK 95 243 (d1 := 2) (ci := 5) (i := 54) (vs := []) (rest := []) (h1 := h) (r := vI r13) my_yX5_plainHunks vw_X6_243 (by decide) (T_V_plainHunks (h := h) (hF := e14)) rfl rfl rfl (Nat.le_of_ble_eq_true rfl) (by decide +kernel) ?_
              cases hF
              exact hR.1 98 _ _ _ (by decide +kernel) rfl ⟨rfl, rfl⟩
            · have hF := ite_f hc12 hF
              by_cases hc15 : p1 = 9
              · have hF := ite_t hc15 hF
                rw [show swT 1 114 3 10 [47, 55, 64, 73, 82, 90, 98, 106] p1 = 99 from by rw [hc15]; decide]
                refine g_seg hK [.aload_n 0, .getfield 52] 99 103 (L1 := [(0, vR 0), (1, vI p1)]) (st1 := [vR 54]) (h1 := h) (P := True ∧ kd 0 = 8 ∧ True) (by decide +kernel) rfl rfl ⟨trivial, rfl, trivial⟩ ?_
                obtain ⟨r16, e17, hF⟩ := ob1_elim hF
                refine g_callV1 hK 103 246 (d1 := 3) (ci := 5) (i := 54) (vs := []) (rest := []) (h1 := h) (r := vI r16) my_yX5_slidingHunks vw_X6_246 (by decide) (T_V_slidingHunks (h := h) (hF := e17)) rfl rfl rfl (Nat.le_of_ble_eq_true rfl) (by decide +kernel) ?_
                cases hF
                exact hR.1 106 _ _ _ (by decide +kernel) rfl ⟨rfl, rfl⟩
              · have hF := ite_f hc15 hF
                by_cases hc18 : p1 = 10
                · have hF := ite_t hc18 hF
                  rw [show swT 1 114 3 10 [47, 55, 64, 73, 82, 90, 98, 106] p1 = 107 from by rw [hc18]; decide]
                  refine g_seg hK [.aload_n 0, .getfield 52] 107 111 (L1 := [(0, vR 0), (1, vI p1)]) (st1 := [vR 54]) (h1 := h) (P := True ∧ kd 0 = 8 ∧ True) (by decide +kernel) rfl rfl ⟨trivial, rfl, trivial⟩ ?_
                  obtain ⟨r19, e20, hF⟩ := ob1_elim hF
                  refine g_callV1 hK 111 249 (d1 := 3) (ci := 5) (i := 54) (vs := []) (rest := []) (h1 := h) (r := vI r19) my_yX5_worthOfAll vw_X6_249 (by decide) (T_V_worthOfAll (h := h) (hF := e20)) rfl rfl rfl (Nat.le_of_ble_eq_true rfl) (by decide +kernel) ?_
                  cases hF
                  exact hR.1 114 _ _ _ (by decide +kernel) rfl ⟨rfl, rfl⟩
                · have hF := ite_f hc18 hF
                  rw [show swT 1 114 3 10 [47, 55, 64, 73, 82, 90, 98, 106] p1 = 115 from by unfold swT; rw [if_pos (by omega)]; decide]
                  refine g_seg hK [.aload_n 0, .getfield 52] 115 119 (L1 := [(0, vR 0), (1, vI p1)]) (st1 := [vR 54]) (h1 := h) (P := True ∧ kd 0 = 8 ∧ True) (by decide +kernel) rfl rfl ⟨trivial, rfl, trivial⟩ ?_
                  obtain ⟨r21, e22, hF⟩ := ob1_elim hF
                  refine g_callV1 hK 119 252 (d1 := 2) (ci := 5) (i := 54) (vs := []) (rest := []) (h1 := h) (r := vI r21) my_yX5_longestKept vw_X6_252 (by decide) (T_V_longestKept (h := h) (hF := e22)) rfl rfl rfl (Nat.le_of_ble_eq_true rfl) (by decide +kernel) ?_
                  cases hF
                  exact hR.1 122 _ _ _ (by decide +kernel) rfl ⟨rfl, rfl⟩
set_option maxHeartbeats 4000000 in
set_option maxRecDepth 100000 in
theorem T_X_count {p1 : Int} {h : MH} {r : Int} {h' : MH} (hF : F_X_count p1 h = some (r, h')) : CON 6 yX6_count cX6_count 2 (Option.some Jvm.ClassFile.FieldType.int) [vR 0, vI p1] h (some (vI r)) h' := by
  refine con_of (own := RX6) (fl := flX6) (by decide +kernel) rfl flok_X6 rfl (Nat.le_of_ble_eq_true rfl) ?_
  intro K hK hR
  show K 0 [(0, vR 0), (1, vI p1)] [] h
  unfold F_X_count at hF
  refine g_seg hK [.iload_n 1] 0 1 (L1 := [(0, vR 0), (1, vI p1)]) (st1 := [vI p1]) (h1 := h) (P := True ∧ True) (by decide +kernel) rfl rfl ⟨trivial, trivial⟩ ?_
  refine g_ifz hK 1 .lt (9) 10 (t1 := 10) (t2 := 4) (by decide +kernel) (by decide) rfl rfl (fun (hc1 : p1 < 0) => ?_) (fun (hc1 : ¬ (p1 < 0)) => ?_)
  · have hF := ite_t hc1 hF
    refine g_seg hK [.iconst (-1)] 10 11 (L1 := [(0, vR 0), (1, vI p1)]) (st1 := [vI (-1)]) (h1 := h) (P := True ∧ True) (by decide +kernel) rfl rfl ⟨trivial, trivial⟩ ?_
    cases hF
    exact hR.1 11 _ _ _ (by decide +kernel) rfl ⟨rfl, rfl⟩
  · have hF := ite_f hc1 hF
    refine g_seg hK [.iload_n 1, .bipush 17] 4 7 (L1 := [(0, vR 0), (1, vI p1)]) (st1 := [vI 17, vI p1]) (h1 := h) (P := True ∧ True ∧ True) (by decide +kernel) rfl rfl ⟨trivial, trivial, trivial⟩ ?_
    refine g_icmp hK 7 .le (5) 12 (t1 := 12) (t2 := 10) (by decide +kernel) (by decide) rfl rfl (fun (hc2 : p1 ≤ 17) => ?_) (fun (hc2 : ¬ (p1 ≤ 17)) => ?_)
    · have hF := ite_t hc2 hF
      refine g_seg hK [.iload_n 1] 12 13 (L1 := [(0, vR 0), (1, vI p1)]) (st1 := [vI p1]) (h1 := h) (P := True ∧ True) (by decide +kernel) rfl rfl ⟨trivial, trivial⟩ ?_
      refine g_callS1 hK 13 77 (d1 := 0) (vs := [vI p1]) (rest := []) (h1 := h) (r := vI (F_X_isText p1)) my_yX6_isText sw_X6_77 (by decide) (T_X_isText (p1 := p1) (h := h) (hF := rfl)) rfl (Nat.le_of_ble_eq_true rfl) (by decide +kernel) ?_
      refine g_ifz hK 16 .eq (15) 31 (t1 := 31) (t2 := 19) (by decide +kernel) (by decide) rfl rfl (fun (hc3 : F_X_isText p1 = 0) => ?_) (fun (hc3 : ¬ (F_X_isText p1 = 0)) => ?_)
      · have hF := ite_t hc3 hF
        refine g_seg hK [.iload_n 1, .bipush 11] 31 34 (L1 := [(0, vR 0), (1, vI p1)]) (st1 := [vI 11, vI p1]) (h1 := h) (P := True ∧ True ∧ True) (by decide +kernel) rfl rfl ⟨trivial, trivial, trivial⟩ ?_
        refine g_icmp hK 34 .le (9) 43 (t1 := 43) (t2 := 37) (by decide +kernel) (by decide) rfl rfl (fun (hc4 : p1 ≤ 11) => ?_) (fun (hc4 : ¬ (p1 ≤ 11)) => ?_)
        · have hF := ite_t hc4 hF
          refine g_seg hK [.aload_n 0] 43 44 (L1 := [(0, vR 0), (1, vI p1)]) (st1 := [vR 0]) (h1 := h) (P := True ∧ True) (by decide +kernel) rfl rfl ⟨trivial, trivial⟩ ?_
          obtain ⟨h5, e6, hF⟩ := ob1_elim hF
          refine g_callV0 hK 44 118 (d1 := 5) (ci := 6) (i := 0) (vs := []) (rest := []) (h1 := h5) my_yX6_show vw_X6_118 (by decide) (T_X_show (h := h) (hF := e6)) rfl rfl rfl (Nat.le_of_ble_eq_true rfl) (by decide +kernel) ?_
          refine g_seg hK [.aload_n 0, .iload_n 1] 47 49 (L1 := [(0, vR 0), (1, vI p1)]) (st1 := [vI p1, vR 0]) (h1 := h5) (P := True ∧ True ∧ True) (by decide +kernel) rfl rfl ⟨trivial, trivial, trivial⟩ ?_
          obtain ⟨r7, e8, hF⟩ := ob1_elim hF
          refine g_callV1 hK 49 197 (d1 := 4) (ci := 6) (i := 0) (vs := [vI p1]) (rest := []) (h1 := h5) (r := vI r7) my_yX6_shownNumber vw_X6_197 (by decide) (T_X_shownNumber (p1 := p1) (h := h5) (hF := e8)) rfl rfl rfl (Nat.le_of_ble_eq_true rfl) (by decide +kernel) ?_
          cases hF
          exact hR.1 52 _ _ _ (by decide +kernel) rfl ⟨rfl, rfl⟩
        · have hF := ite_f hc4 hF
          refine g_seg hK [.aload_n 0, .iload_n 1] 37 39 (L1 := [(0, vR 0), (1, vI p1)]) (st1 := [vI p1, vR 0]) (h1 := h) (P := True ∧ True ∧ True) (by decide +kernel) rfl rfl ⟨trivial, trivial, trivial⟩ ?_
          refine g_callV1 hK 39 194 (d1 := 1) (ci := 6) (i := 0) (vs := [vI p1]) (rest := []) (h1 := h) (r := vI (F_X_heldNumber p1 h)) my_yX6_heldNumber vw_X6_194 (by decide) (T_X_heldNumber (p1 := p1) (h := h) (hF := rfl)) rfl rfl rfl (Nat.le_of_ble_eq_true rfl) (by decide +kernel) ?_
          cases hF
          exact hR.1 42 _ _ _ (by decide +kernel) rfl ⟨rfl, rfl⟩
      · have hF := ite_f hc3 hF
        refine g_seg hK [.aload_n 0, .getfield 21, .iload_n 1] 19 24 (L1 := [(0, vR 0), (1, vI p1)]) (st1 := [vI p1, vR 3]) (h1 := h) (P := True ∧ kd 0 = 8 ∧ True ∧ True) (by decide +kernel) rfl rfl ⟨trivial, rfl, trivial, trivial⟩ ?_
        refine g_callV1 hK 24 88 (d1 := 0) (ci := 4) (i := 3) (vs := [vI p1]) (rest := []) (h1 := h) (r := vR (F_St_text 3 p1)) my_yX4_text vw_X6_88 (by decide) (T_St_text (o := 3) (p1 := p1) (h := h) (ks := rfl) (hF := rfl)) rfl rfl rfl (Nat.le_of_ble_eq_true rfl) (by decide +kernel) ?_
        refine g_callV1 hK 27 63 (d1 := 0) (ci := 3) (i := F_St_text 3 p1) (vs := []) (rest := []) (h1 := h) (r := vI (F_Ro_size (F_St_text 3 p1) h)) my_yX3_size vw_X6_63 (by decide) (T_Ro_size (o := (F_St_text 3 p1)) (h := h) (ko := (kd_St_text rfl)) (hF := rfl)) (kd_St_text rfl) rfl rfl (Nat.le_of_ble_eq_true rfl) (by decide +kernel) ?_
        cases hF
        exact hR.1 30 _ _ _ (by decide +kernel) rfl ⟨rfl, rfl⟩
    · have hF := ite_f hc2 hF
      refine g_seg hK [.iconst (-1)] 10 11 (L1 := [(0, vR 0), (1, vI p1)]) (st1 := [vI (-1)]) (h1 := h) (P := True ∧ True) (by decide +kernel) rfl rfl ⟨trivial, trivial⟩ ?_
      cases hF
      exact hR.1 11 _ _ _ (by decide +kernel) rfl ⟨rfl, rfl⟩
set_option maxHeartbeats 4000000 in
set_option maxRecDepth 100000 in
theorem T_X_alike {h : MH} {r : UInt64} {h' : MH} (hF : F_X_alike h = some (r, h')) : CON 4 yX6_alike cX6_alike 3 (Option.some Jvm.ClassFile.FieldType.double) [vR 0] h (some (vD r)) h' := by
  refine con_of (own := RX6) (fl := flX6) (by decide +kernel) rfl flok_X6 rfl (Nat.le_of_ble_eq_true rfl) ?_
  intro K hK hR
  show K 0 [(0, vR 0)] [] h
  unfold F_X_alike at hF
  refine g_seg hK [.aload_n 0, .getfield 21, .iconst 0] 0 5 (L1 := [(0, vR 0)]) (st1 := [vI 0, vR 3]) (h1 := h) (P := True ∧ kd 0 = 8 ∧ True ∧ True) (by decide +kernel) rfl rfl ⟨trivial, rfl, trivial, trivial⟩ ?_
  refine g_callV1 hK 5 88 (d1 := 0) (ci := 4) (i := 3) (vs := [vI 0]) (rest := []) (h1 := h) (r := vR (F_St_text 3 0)) my_yX4_text vw_X6_88 (by decide) (T_St_text (o := 3) (p1 := 0) (h := h) (ks := rfl) (hF := rfl)) rfl rfl rfl (Nat.le_of_ble_eq_true rfl) (by decide +kernel) ?_
  refine g_callV1 hK 8 63 (d1 := 0) (ci := 3) (i := F_St_text 3 0) (vs := []) (rest := []) (h1 := h) (r := vI (F_Ro_size (F_St_text 3 0) h)) my_yX3_size vw_X6_63 (by decide) (T_Ro_size (o := (F_St_text 3 0)) (h := h) (ko := (kd_St_text rfl)) (hF := rfl)) (kd_St_text rfl) rfl rfl (Nat.le_of_ble_eq_true rfl) (by decide +kernel) ?_
  refine g_seg hK [.aload_n 0, .getfield 21, .iconst 1] 11 16 (L1 := [(0, vR 0)]) (st1 := [vI 1, vR 3, vI (F_Ro_size (F_St_text 3 0) h)]) (h1 := h) (P := True ∧ kd 0 = 8 ∧ True ∧ True) (by decide +kernel) rfl rfl ⟨trivial, rfl, trivial, trivial⟩ ?_
  refine g_callV1 hK 16 88 (d1 := 0) (ci := 4) (i := 3) (vs := [vI 1]) (rest := [vI (F_Ro_size (F_St_text 3 0) h)]) (h1 := h) (r := vR (F_St_text 3 1)) my_yX4_text vw_X6_88 (by decide) (T_St_text (o := 3) (p1 := 1) (h := h) (ks := rfl) (hF := rfl)) rfl rfl rfl (Nat.le_of_ble_eq_true rfl) (by decide +kernel) ?_
  refine g_callV1 hK 19 63 (d1 := 0) (ci := 3) (i := F_St_text 3 1) (vs := []) (rest := [vI (F_Ro_size (F_St_text 3 0) h)]) (h1 := h) (r := vI (F_Ro_size (F_St_text 3 1) h)) my_yX3_size vw_X6_63 (by decide) (T_Ro_size (o := (F_St_text 3 1)) (h := h) (ko := (kd_St_text rfl)) (hF := rfl)) (kd_St_text rfl) rfl rfl (Nat.le_of_ble_eq_true rfl) (by decide +kernel) ?_
  refine g_seg hK [.iadd, .istore_n 1, .iload_n 1] 22 25 (L1 := [(1, vI (wr ((F_Ro_size (F_St_text 3 0) h) + (F_Ro_size (F_St_text 3 1) h)))), (0, vR 0)]) (st1 := [vI (wr ((F_Ro_size (F_St_text 3 0) h) + (F_Ro_size (F_St_text 3 1) h)))]) (h1 := h) (P := True ∧ True ∧ True ∧ True) (by decide +kernel) rfl rfl ⟨trivial, trivial, trivial, trivial⟩ ?_
  refine g_ifz hK 25 .ne (5) 30 (t1 := 28) (t2 := 30) (by decide +kernel) (by decide) rfl rfl (fun (hc1 : wr ((F_Ro_size (F_St_text 3 0) h) + (F_Ro_size (F_St_text 3 1) h)) = 0) => ?_) (fun (hc1 : ¬ (wr ((F_Ro_size (F_St_text 3 0) h) + (F_Ro_size (F_St_text 3 1) h)) = 0)) => ?_)
  · have hF := ite_t hc1 hF
    refine g_seg hK [.dconst 1] 28 29 (L1 := [(1, vI (wr ((F_Ro_size (F_St_text 3 0) h) + (F_Ro_size (F_St_text 3 1) h)))), (0, vR 0)]) (st1 := [vD FP.dconst1]) (h1 := h) (P := True ∧ True) (by decide +kernel) rfl rfl ⟨trivial, trivial⟩ ?_
    cases hF
    exact hR.2.2.2.1 29 _ _ _ (by decide +kernel) rfl ⟨rfl, rfl⟩
  · have hF := ite_f hc1 hF
    refine g_seg hK [.aload_n 0, .getfield 45, .aload_n 0, .getfield 21, .iconst 0] 30 39 (L1 := [(1, vI (wr ((F_Ro_size (F_St_text 3 0) h) + (F_Ro_size (F_St_text 3 1) h)))), (0, vR 0)]) (st1 := [vI 0, vR 3, vR 49]) (h1 := h) (P := True ∧ kd 0 = 8 ∧ True ∧ kd 0 = 8 ∧ True ∧ True) (by decide +kernel) rfl rfl ⟨trivial, rfl, trivial, rfl, trivial, trivial⟩ ?_
    refine g_callV1 hK 39 88 (d1 := 0) (ci := 4) (i := 3) (vs := [vI 0]) (rest := [vR 49]) (h1 := h) (r := vR (F_St_text 3 0)) my_yX4_text vw_X6_88 (by decide) (T_St_text (o := 3) (p1 := 0) (h := h) (ks := rfl) (hF := rfl)) rfl rfl rfl (Nat.le_of_ble_eq_true rfl) (by decide +kernel) ?_
    refine g_seg hK [.aload_n 0, .getfield 21, .iconst 1] 42 47 (L1 := [(1, vI (wr ((F_Ro_size (F_St_text 3 0) h) + (F_Ro_size (F_St_text 3 1) h)))), (0, vR 0)]) (st1 := [vI 1, vR 3, vR (F_St_text 3 0), vR 49]) (h1 := h) (P := True ∧ kd 0 = 8 ∧ True ∧ True) (by decide +kernel) rfl rfl ⟨trivial, rfl, trivial, trivial⟩ ?_
    refine g_callV1 hK 47 88 (d1 := 0) (ci := 4) (i := 3) (vs := [vI 1]) (rest := [vR (F_St_text 3 0), vR 49]) (h1 := h) (r := vR (F_St_text 3 1)) my_yX4_text vw_X6_88 (by decide) (T_St_text (o := 3) (p1 := 1) (h := h) (ks := rfl) (hF := rfl)) rfl rfl rfl (Nat.le_of_ble_eq_true rfl) (by decide +kernel) ?_
    obtain ⟨r2, h3, e4, hF⟩ := ob2_elim hF
    refine g_callV1 hK 50 200 (d1 := 3) (ci := 0) (i := 49) (vs := [vR (F_St_text 3 0), vR (F_St_text 3 1)]) (rest := []) (h1 := h3) (r := vI r2) my_yX0_keptOf vw_X6_200 (by decide) (T_C_keptOf (p1 := (F_St_text 3 0)) (p2 := (F_St_text 3 1)) (h := h) (kp1 := (kd_St_text rfl)) (kp2 := (kd_St_text rfl)) (hF := e4)) rfl rfl rfl (Nat.le_of_ble_eq_true rfl) (by decide +kernel) ?_
    refine g_seg hK [.istore_n 2, .iconst 2, .iload_n 2, .imul, .i2d, .iload_n 1, .i2d] 53 60 (L1 := [(2, vI r2), (1, vI (wr ((F_Ro_size (F_St_text 3 0) h) + (F_Ro_size (F_St_text 3 1) h)))), (0, vR 0)]) (st1 := [vD (FP.i2d (Int32.ofInt (wr ((F_Ro_size (F_St_text 3 0) h) + (F_Ro_size (F_St_text 3 1) h))))), vD (FP.i2d (Int32.ofInt (wr (2 * r2))))]) (h1 := h3) (P := True ∧ True ∧ True ∧ True ∧ True ∧ True ∧ True ∧ True) (by decide +kernel) rfl rfl ⟨trivial, trivial, trivial, trivial, trivial, trivial, trivial, trivial⟩ ?_
    obtain ⟨hg5, hF⟩ := gd_elim hF
    refine g_seg hK [.ddiv] 60 61 (L1 := [(2, vI r2), (1, vI (wr ((F_Ro_size (F_St_text 3 0) h) + (F_Ro_size (F_St_text 3 1) h)))), (0, vR 0)]) (st1 := [vD (FP.ddiv (FP.i2d (Int32.ofInt (wr (2 * r2)))) (FP.i2d (Int32.ofInt (wr ((F_Ro_size (F_St_text 3 0) h) + (F_Ro_size (F_St_text 3 1) h))))))]) (h1 := h3) (P := vf_n64 (FP.ddiv (FP.i2d (Int32.ofInt (wr (2 * r2)))) (FP.i2d (Int32.ofInt (wr ((F_Ro_size (F_St_text 3 0) h) + (F_Ro_size (F_St_text 3 1) h)))))) ∧ True) (by decide +kernel) rfl rfl ⟨hg5, trivial⟩ ?_
    cases hF
    exact hR.2.2.2.1 61 _ _ _ (by decide +kernel) rfl ⟨rfl, rfl⟩
set_option maxHeartbeats 4000000 in
set_option maxRecDepth 100000 in
theorem T_La_placeOf {p1 : Int} {h : MH} {r : Int} (hF : F_La_placeOf p1 h = r) : CON 1 yX2_placeOf cX2_placeOf 2 (Option.some Jvm.ClassFile.FieldType.int) [vR 65, vI p1] h (some (vI r)) h := by
  refine con_of (own := RX2) (fl := flX2) (by decide +kernel) rfl flok_X2 rfl (Nat.le_of_ble_eq_true rfl) ?_
  intro K hK hR
  show K 0 [(0, vR 65), (1, vI p1)] [] h
  unfold F_La_placeOf at hF
  refine g_seg hK [.aload_n 0, .getfield 26, .iload_n 1] 0 5 (L1 := [(0, vR 65), (1, vI p1)]) (st1 := [vI p1, vR 72]) (h1 := h) (P := True ∧ kd 65 = 4 ∧ True ∧ True) (by decide +kernel) rfl rfl ⟨trivial, rfl, trivial, trivial⟩ ?_
  refine g_callV1 hK 5 65 (d1 := 0) (ci := 3) (i := 72) (vs := [vI p1]) (rest := []) (h1 := h) (r := vI (F_Ro_at 72 p1 h)) my_yX3_at vw_X2_65 (by decide) (T_Ro_at (o := 72) (p1 := p1) (h := h) (ko := rfl) (hF := rfl)) rfl rfl rfl (Nat.le_of_ble_eq_true rfl) (by decide +kernel) ?_
  cases hF
  exact hR.1 8 _ _ _ (by decide +kernel) rfl ⟨rfl, rfl⟩
set_option maxHeartbeats 4000000 in
set_option maxRecDepth 100000 in
theorem T_La_lowerOf {p1 : Int} {h : MH} {r : Int} (hF : F_La_lowerOf p1 h = r) : CON 1 yX2_lowerOf cX2_lowerOf 2 (Option.some Jvm.ClassFile.FieldType.int) [vR 65, vI p1] h (some (vI r)) h := by
  refine con_of (own := RX2) (fl := flX2) (by decide +kernel) rfl flok_X2 rfl (Nat.le_of_ble_eq_true rfl) ?_
  intro K hK hR
  show K 0 [(0, vR 65), (1, vI p1)] [] h
  unfold F_La_lowerOf at hF
  refine g_seg hK [.aload_n 0, .getfield 29, .iload_n 1] 0 5 (L1 := [(0, vR 65), (1, vI p1)]) (st1 := [vI p1, vR 74]) (h1 := h) (P := True ∧ kd 65 = 4 ∧ True ∧ True) (by decide +kernel) rfl rfl ⟨trivial, rfl, trivial, trivial⟩ ?_
  refine g_callV1 hK 5 65 (d1 := 0) (ci := 3) (i := 74) (vs := [vI p1]) (rest := []) (h1 := h) (r := vI (F_Ro_at 74 p1 h)) my_yX3_at vw_X2_65 (by decide) (T_Ro_at (o := 74) (p1 := p1) (h := h) (ko := rfl) (hF := rfl)) rfl rfl rfl (Nat.le_of_ble_eq_true rfl) (by decide +kernel) ?_
  cases hF
  exact hR.1 8 _ _ _ (by decide +kernel) rfl ⟨rfl, rfl⟩
set_option maxHeartbeats 4000000 in
set_option maxRecDepth 100000 in
theorem T_X_ifLaid {p1 : Int} {p2 : Int} {p3 : Int} {h : MH} {r : Int} {h' : MH} (hF : F_X_ifLaid p1 p2 p3 h = some (r, h')) : CON 6 yX6_ifLaid cX6_ifLaid 5 (Option.some Jvm.ClassFile.FieldType.int) [vR 0, vI p1, vI p2, vI p3] h (some (vI r)) h' := by
  refine con_of (own := RX6) (fl := flX6) (by decide +kernel) rfl flok_X6 rfl (Nat.le_of_ble_eq_true rfl) ?_
  intro K hK hR
  show K 0 [(0, vR 0), (1, vI p1), (2, vI p2), (3, vI p3)] [] h
  unfold F_X_ifLaid at hF
  refine g_seg hK [.iload_n 3] 0 1 (L1 := [(0, vR 0), (1, vI p1), (2, vI p2), (3, vI p3)]) (st1 := [vI p3]) (h1 := h) (P := True ∧ True) (by decide +kernel) rfl rfl ⟨trivial, trivial⟩ ?_
  obtain ⟨kj2, e10, hF⟩ := jk1_elim hF
  have j2 : ∀ (u1 : Unit), kj2 u1 = some (r, h') → K 11 [(0, vR 0), (1, vI p1), (2, vI p2), (3, vI p3)] [] h := by
    intro u1 hF
    have hF := (e10 u1).symm.trans hF
    refine g_seg hK [.aload_n 0] 11 12 (L1 := [(0, vR 0), (1, vI p1), (2, vI p2), (3, vI p3)]) (st1 := [vR 0]) (h1 := h) (P := True ∧ True) (by decide +kernel) rfl rfl ⟨trivial, trivial⟩ ?_
    obtain ⟨h3, e4, hF⟩ := ob1_elim hF
    refine g_callV0 hK 12 118 (d1 := 5) (ci := 6) (i := 0) (vs := []) (rest := []) (h1 := h3) my_yX6_show vw_X6_118 (by decide) (T_X_show (h := h) (hF := e4)) rfl rfl rfl (Nat.le_of_ble_eq_true rfl) (by decide +kernel) ?_
    refine g_seg hK [.aload_n 0, .getfield 52, .iload_n 1] 15 20 (L1 := [(0, vR 0), (1, vI p1), (2, vI p2), (3, vI p3)]) (st1 := [vI p1, vR 54]) (h1 := h3) (P := True ∧ kd 0 = 8 ∧ True ∧ True) (by decide +kernel) rfl rfl ⟨trivial, rfl, trivial, trivial⟩ ?_
    refine g_callV1 hK 20 164 (d1 := 2) (ci := 5) (i := 54) (vs := [vI p1]) (rest := []) (h1 := h3) (r := vI (F_V_has p1 h3)) my_yX5_has vw_X6_164 (by decide) (T_V_has (p1 := p1) (h := h3) (hF := rfl)) rfl rfl rfl (Nat.le_of_ble_eq_true rfl) (by decide +kernel) ?_
    refine g_ifz hK 23 .ne (5) 28 (t1 := 26) (t2 := 28) (by decide +kernel) (by decide) rfl rfl (fun (hc5 : F_V_has p1 h3 = 0) => ?_) (fun (hc5 : ¬ (F_V_has p1 h3 = 0)) => ?_)
    · have hF := ite_t hc5 hF
      refine g_seg hK [.iconst (-1)] 26 27 (L1 := [(0, vR 0), (1, vI p1), (2, vI p2), (3, vI p3)]) (st1 := [vI (-1)]) (h1 := h3) (P := True ∧ True) (by decide +kernel) rfl rfl ⟨trivial, trivial⟩ ?_
      cases hF
      exact hR.1 27 _ _ _ (by decide +kernel) rfl ⟨rfl, rfl⟩
    · have hF := ite_f hc5 hF
      refine g_seg hK [.aload_n 0, .getfield 59, .aload_n 0, .getfield 52, .aload_n 0, .getfield 21, .iconst 2] 28 41 (L1 := [(0, vR 0), (1, vI p1), (2, vI p2), (3, vI p3)]) (st1 := [vI 2, vR 3, vR 54, vR 65]) (h1 := h3) (P := True ∧ kd 0 = 8 ∧ True ∧ kd 0 = 8 ∧ True ∧ kd 0 = 8 ∧ True ∧ True) (by decide +kernel) rfl rfl ⟨trivial, rfl, trivial, rfl, trivial, rfl, trivial, trivial⟩ ?_
      refine g_callV1 hK 41 88 (d1 := 0) (ci := 4) (i := 3) (vs := [vI 2]) (rest := [vR 54, vR 65]) (h1 := h3) (r := vR (F_St_text 3 2)) my_yX4_text vw_X6_88 (by decide) (T_St_text (o := 3) (p1 := 2) (h := h3) (ks := rfl) (hF := rfl)) rfl rfl rfl (Nat.le_of_ble_eq_true rfl) (by decide +kernel) ?_
      refine g_seg hK [.aload_n 0, .getfield 21, .iconst 0] 44 49 (L1 := [(0, vR 0), (1, vI p1), (2, vI p2), (3, vI p3)]) (st1 := [vI 0, vR 3, vR (F_St_text 3 2), vR 54, vR 65]) (h1 := h3) (P := True ∧ kd 0 = 8 ∧ True ∧ True) (by decide +kernel) rfl rfl ⟨trivial, rfl, trivial, trivial⟩ ?_
      refine g_callV1 hK 49 112 (d1 := 0) (ci := 4) (i := 3) (vs := [vI 0]) (rest := [vR (F_St_text 3 2), vR 54, vR 65]) (h1 := h3) (r := vI (F_St_setting 3 0 h3)) my_yX4_setting vw_X6_112 (by decide) (T_St_setting (o := 3) (p1 := 0) (h := h3) (ks := rfl) (hF := rfl)) rfl rfl rfl (Nat.le_of_ble_eq_true rfl) (by decide +kernel) ?_
      refine g_seg hK [.iload_n 2] 52 53 (L1 := [(0, vR 0), (1, vI p1), (2, vI p2), (3, vI p3)]) (st1 := [vI p2, vI (F_St_setting 3 0 h3), vR (F_St_text 3 2), vR 54, vR 65]) (h1 := h3) (P := True ∧ True) (by decide +kernel) rfl rfl ⟨trivial, trivial⟩ ?_
      obtain ⟨h6, e7, hF⟩ := ob1_elim hF
      refine g_callV0 hK 53 121 (d1 := 5) (ci := 2) (i := 65) (vs := [vR 54, vR (F_St_text 3 2), vI (F_St_setting 3 0 h3), vI p2]) (rest := []) (h1 := h6) my_yX2_layAll vw_X6_121 (by decide) (T_La_layAll (p2 := (F_St_text 3 2)) (p3 := (F_St_setting 3 0 h3)) (p4 := p2) (h := h3) (kp2 := (kd_St_text rfl)) (hF := e7)) rfl rfl rfl (Nat.le_of_ble_eq_true rfl) (by decide +kernel) ?_
      refine g_seg hK [.aload_n 0, .getfield 59, .iload_n 1] 56 61 (L1 := [(0, vR 0), (1, vI p1), (2, vI p2), (3, vI p3)]) (st1 := [vI p1, vR 65]) (h1 := h6) (P := True ∧ kd 0 = 8 ∧ True ∧ True) (by decide +kernel) rfl rfl ⟨trivial, rfl, trivial, trivial⟩ ?_
      refine g_callV1 hK 61 203 (d1 := 1) (ci := 2) (i := 65) (vs := [vI p1]) (rest := []) (h1 := h6) (r := vI (F_La_placeOf p1 h6)) my_yX2_placeOf vw_X6_203 (by decide) (T_La_placeOf (p1 := p1) (h := h6) (hF := rfl)) rfl rfl rfl (Nat.le_of_ble_eq_true rfl) (by decide +kernel) ?_
      refine g_seg hK [.istore 4, .iload 4, .bipush (-4)] 64 70 (L1 := [(4, vI (F_La_placeOf p1 h6)), (0, vR 0), (1, vI p1), (2, vI p2), (3, vI p3)]) (st1 := [vI (-4), vI (F_La_placeOf p1 h6)]) (h1 := h6) (P := True ∧ True ∧ True ∧ True) (by decide +kernel) rfl rfl ⟨trivial, trivial, trivial, trivial⟩ ?_
      refine g_icmp hK 70 .ne (6) 76 (t1 := 73) (t2 := 76) (by decide +kernel) (by decide) rfl rfl (fun (hc8 : F_La_placeOf p1 h6 = (-4)) => ?_) (fun (hc8 : ¬ (F_La_placeOf p1 h6 = (-4))) => ?_)
      · have hF := ite_t hc8 hF
        refine g_seg hK [.bipush (-4)] 73 75 (L1 := [(4, vI (F_La_placeOf p1 h6)), (0, vR 0), (1, vI p1), (2, vI p2), (3, vI p3)]) (st1 := [vI (-4)]) (h1 := h6) (P := True ∧ True) (by decide +kernel) rfl rfl ⟨trivial, trivial⟩ ?_
        cases hF
        exact hR.1 75 _ _ _ (by decide +kernel) rfl ⟨rfl, rfl⟩
      · have hF := ite_f hc8 hF
        refine g_seg hK [.iload_n 3] 76 77 (L1 := [(4, vI (F_La_placeOf p1 h6)), (0, vR 0), (1, vI p1), (2, vI p2), (3, vI p3)]) (st1 := [vI p3]) (h1 := h6) (P := True ∧ True) (by decide +kernel) rfl rfl ⟨trivial, trivial⟩ ?_
        refine g_ifz hK 77 .ne (8) 85 (t1 := 80) (t2 := 85) (by decide +kernel) (by decide) rfl rfl (fun (hc9 : p3 = 0) => ?_) (fun (hc9 : ¬ (p3 = 0)) => ?_)
        · have hF := ite_t hc9 hF
          refine g_seg hK [.iload 4] 80 82 (L1 := [(4, vI (F_La_placeOf p1 h6)), (0, vR 0), (1, vI p1), (2, vI p2), (3, vI p3)]) (st1 := [vI (F_La_placeOf p1 h6)]) (h1 := h6) (P := True ∧ True) (by decide +kernel) rfl rfl ⟨trivial, trivial⟩ ?_
          refine g_goto hK 82 (14) 96 (by decide +kernel) (by decide) ?_
          cases hF
          exact hR.1 96 _ _ _ (by decide +kernel) rfl ⟨rfl, rfl⟩
        · have hF := ite_f hc9 hF
          refine g_seg hK [.aload_n 0, .getfield 59, .iload_n 1] 85 90 (L1 := [(4, vI (F_La_placeOf p1 h6)), (0, vR 0), (1, vI p1), (2, vI p2), (3, vI p3)]) (st1 := [vI p1, vR 65]) (h1 := h6) (P := True ∧ kd 0 = 8 ∧ True ∧ True) (by decide +kernel) rfl rfl ⟨trivial, rfl, trivial, trivial⟩ ?_
          refine g_callV1 hK 90 206 (d1 := 1) (ci := 2) (i := 65) (vs := [vI p1]) (rest := []) (h1 := h6) (r := vI (F_La_lowerOf p1 h6)) my_yX2_lowerOf vw_X6_206 (by decide) (T_La_lowerOf (p1 := p1) (h := h6) (hF := rfl)) rfl rfl rfl (Nat.le_of_ble_eq_true rfl) (by decide +kernel) ?_
          refine g_seg hK [.bipush 100, .iadd] 93 96 (L1 := [(4, vI (F_La_placeOf p1 h6)), (0, vR 0), (1, vI p1), (2, vI p2), (3, vI p3)]) (st1 := [vI (wr ((F_La_lowerOf p1 h6) + 100))]) (h1 := h6) (P := True ∧ True ∧ True) (by decide +kernel) rfl rfl ⟨trivial, trivial, trivial⟩ ?_
          cases hF
          exact hR.1 96 _ _ _ (by decide +kernel) rfl ⟨rfl, rfl⟩
  refine g_ifz hK 1 .eq (10) 11 (t1 := 11) (t2 := 4) (by decide +kernel) (by decide) rfl rfl (fun (hc11 : p3 = 0) => ?_) (fun (hc11 : ¬ (p3 = 0)) => ?_)
  · have hF := ite_t hc11 hF
    exact j2 _ hF
  · have hF := ite_f hc11 hF
    refine g_seg hK [.iload_n 3, .iconst 1] 4 6 (L1 := [(0, vR 0), (1, vI p1), (2, vI p2), (3, vI p3)]) (st1 := [vI 1, vI p3]) (h1 := h) (P := True ∧ True ∧ True) (by decide +kernel) rfl rfl ⟨trivial, trivial, trivial⟩ ?_
    refine g_icmp hK 6 .eq (5) 11 (t1 := 11) (t2 := 9) (by decide +kernel) (by decide) rfl rfl (fun (hc12 : p3 = 1) => ?_) (fun (hc12 : ¬ (p3 = 1)) => ?_)
    · have hF := ite_t hc12 hF
      exact j2 _ hF
    · have hF := ite_f hc12 hF
      refine g_seg hK [.iconst (-1)] 9 10 (L1 := [(0, vR 0), (1, vI p1), (2, vI p2), (3, vI p3)]) (st1 := [vI (-1)]) (h1 := h) (P := True ∧ True) (by decide +kernel) rfl rfl ⟨trivial, trivial⟩ ?_
      cases hF
      exact hR.1 10 _ _ _ (by decide +kernel) rfl ⟨rfl, rfl⟩
set_option maxHeartbeats 4000000 in
set_option maxRecDepth 100000 in
theorem T_Ro_isEmpty {o : Nat} {h : MH} {r : Int} (ko : kd o = 5) (hF : F_Ro_isEmpty o h = r) : CON 0 yX3_isEmpty cX3_isEmpty 1 (Option.some Jvm.ClassFile.FieldType.boolean) [vR o] h (some (vI r)) h := by
  refine con_of (own := RX3) (fl := flX3) (by decide +kernel) rfl flok_X3 rfl (Nat.le_of_ble_eq_true rfl) ?_
  intro K hK hR
  show K 0 [(0, vR o)] [] h
  unfold F_Ro_isEmpty at hF
  refine g_seg hK [.aload_n 0, .getfield 7] 0 4 (L1 := [(0, vR o)]) (st1 := [vI (h o 1)]) (h1 := h) (P := True ∧ kd o = 5 ∧ True) (by decide +kernel) rfl rfl ⟨trivial, ko, trivial⟩ ?_
  refine g_ifz hK 4 .ne (7) 11 (t1 := 7) (t2 := 11) (by decide +kernel) (by decide) rfl rfl (fun (hc1 : h o 1 = 0) => ?_) (fun (hc1 : ¬ (h o 1 = 0)) => ?_)
  · have hF := ite_t hc1 hF
    refine g_seg hK [.iconst 1] 7 8 (L1 := [(0, vR o)]) (st1 := [vI 1]) (h1 := h) (P := True ∧ True) (by decide +kernel) rfl rfl ⟨trivial, trivial⟩ ?_
    refine g_goto hK 8 (4) 12 (by decide +kernel) (by decide) ?_
    cases hF
    exact hR.2.1 12 _ _ _ (by decide +kernel) rfl (by decide) ⟨rfl, rfl⟩
  · have hF := ite_f hc1 hF
    refine g_seg hK [.iconst 0] 11 12 (L1 := [(0, vR o)]) (st1 := [vI 0]) (h1 := h) (P := True ∧ True) (by decide +kernel) rfl rfl ⟨trivial, trivial⟩ ?_
    cases hF
    exact hR.2.1 12 _ _ _ (by decide +kernel) rfl (by decide) ⟨rfl, rfl⟩
set_option maxHeartbeats 4000000 in
set_option maxRecDepth 100000 in
theorem LT_X_least_L27 {K : KT} (hK : Rules RX6 cX6_least 6 (Option.some Jvm.ClassFile.FieldType.int) flX6 5 K) {x1 : Nat} (kx1 : kd x1 = 5) : ∀ (n : Nat) (x2 : Int) (x3 : Int) (x4 : Int) (h : MH) (x2' : Int) (x3' : Int) (x4' : Int) (h' : MH), F_X_least_L27 x1 n x2 x3 x4 h = some (x2', x3', x4', h') → K 92 [(0, vR 0), (1, vR x1), (2, vI x2'), (3, vI x3'), (4, vI x4')] [] h' → K 27 [(0, vR 0), (1, vR x1), (2, vI x2), (3, vI x3), (4, vI x4)] [] h := by
  intro n
  induction n with
  | zero =>
    intro x2 x3 x4 h x2' x3' x4' h' hF
    cases hF
  | succ n ih =>
    intro x2 x3 x4 h x2' x3' x4' h' hF hE
    unfold F_X_least_L27 at hF
    refine g_seg hK [.iload 4, .aload_n 1] 27 30 (L1 := [(0, vR 0), (1, vR x1), (2, vI x2), (3, vI x3), (4, vI x4)]) (st1 := [vR x1, vI x4]) (h1 := h) (P := True ∧ True ∧ True) (by decide +kernel) rfl rfl ⟨trivial, trivial, trivial⟩ ?_
    refine g_callV1 hK 30 63 (d1 := 0) (ci := 3) (i := x1) (vs := []) (rest := [vI x4]) (h1 := h) (r := vI (F_Ro_size x1 h)) my_yX3_size vw_X6_63 (by decide) (T_Ro_size (o := x1) (h := h) (ko := kx1) (hF := rfl)) kx1 rfl rfl (Nat.le_of_ble_eq_true rfl) (by decide +kernel) ?_
    refine g_icmp hK 33 .ge (59) 92 (t1 := 36) (t2 := 92) (by decide +kernel) (by decide) rfl rfl (fun (hc1 : x4 < F_Ro_size x1 h) => ?_) (fun (hc1 : ¬ (x4 < F_Ro_size x1 h)) => ?_)
    · have hF := ite_t hc1 hF
      refine g_seg hK [.aload_n 0, .getfield 39, .aload_n 1] 36 41 (L1 := [(0, vR 0), (1, vR x1), (2, vI x2), (3, vI x3), (4, vI x4)]) (st1 := [vR x1, vR 47]) (h1 := h) (P := True ∧ kd 0 = 8 ∧ True ∧ True) (by decide +kernel) rfl rfl ⟨trivial, rfl, trivial, trivial⟩ ?_
      obtain ⟨h2, e3, hF⟩ := ob1_elim hF
      refine g_callV0 hK 41 105 (d1 := 1) (ci := 3) (i := 47) (vs := [vR x1]) (rest := []) (h1 := h2) my_yX3_become vw_X6_105 (by decide) (T_Ro_become (o := 47) (p1 := x1) (h := h) (ko := rfl) (kp1 := kx1) (hF := e3)) rfl rfl rfl (Nat.le_of_ble_eq_true rfl) (by decide +kernel) ?_
      refine g_seg hK [.aload_n 0, .getfield 39, .iload 4] 44 50 (L1 := [(0, vR 0), (1, vR x1), (2, vI x2), (3, vI x3), (4, vI x4)]) (st1 := [vI x4, vR 47]) (h1 := h2) (P := True ∧ kd 0 = 8 ∧ True ∧ True) (by decide +kernel) rfl rfl ⟨trivial, rfl, trivial, trivial⟩ ?_
      obtain ⟨h4, e5, hF⟩ := ob1_elim hF
      refine g_callV0 hK 50 102 (d1 := 1) (ci := 3) (i := 47) (vs := [vI x4]) (rest := []) (h1 := h4) my_yX3_putOut vw_X6_102 (by decide) (T_Ro_putOut (o := 47) (p1 := x4) (h := h2) (ko := rfl) (hF := e5)) rfl rfl rfl (Nat.le_of_ble_eq_true rfl) (by decide +kernel) ?_
      refine g_seg hK [.aload_n 0, .getfield 45, .aload_n 0, .getfield 39, .aload_n 0, .getfield 21, .iconst 1] 53 66 (L1 := [(0, vR 0), (1, vR x1), (2, vI x2), (3, vI x3), (4, vI x4)]) (st1 := [vI 1, vR 3, vR 47, vR 49]) (h1 := h4) (P := True ∧ kd 0 = 8 ∧ True ∧ kd 0 = 8 ∧ True ∧ kd 0 = 8 ∧ True ∧ True) (by decide +kernel) rfl rfl ⟨trivial, rfl, trivial, rfl, trivial, rfl, trivial, trivial⟩ ?_
      refine g_callV1 hK 66 88 (d1 := 0) (ci := 4) (i := 3) (vs := [vI 1]) (rest := [vR 47, vR 49]) (h1 := h4) (r := vR (F_St_text 3 1)) my_yX4_text vw_X6_88 (by decide) (T_St_text (o := 3) (p1 := 1) (h := h4) (ks := rfl) (hF := rfl)) rfl rfl rfl (Nat.le_of_ble_eq_true rfl) (by decide +kernel) ?_
      obtain ⟨r6, h7, e8, hF⟩ := ob2_elim hF
      refine g_callV1 hK 69 213 (d1 := 4) (ci := 0) (i := 49) (vs := [vR 47, vR (F_St_text 3 1)]) (rest := []) (h1 := h7) (r := vI r6) my_yX0_apart vw_X6_213 (by decide) (T_C_apart (p1 := 47) (p2 := (F_St_text 3 1)) (h := h4) (kp1 := rfl) (kp2 := (kd_St_text rfl)) (hF := e8)) rfl rfl rfl (Nat.le_of_ble_eq_true rfl) (by decide +kernel) ?_
      refine g_seg hK [.istore 5, .iload 5, .iload_n 3] 72 77 (L1 := [(5, vI r6), (0, vR 0), (1, vR x1), (2, vI x2), (3, vI x3), (4, vI x4)]) (st1 := [vI x3, vI r6]) (h1 := h7) (P := True ∧ True ∧ True ∧ True) (by decide +kernel) rfl rfl ⟨trivial, trivial, trivial, trivial⟩ ?_
      obtain ⟨x2_9, x3_10, e13, hF⟩ := jn2_elim hF
      have j11 : K 86 [(0, vR 0), (1, vR x1), (2, vI x2_9), (3, vI x3_10), (4, vI x4)] [] h7 := by
        refine g_seg hK [.iinc 4 1] 86 89 (L1 := [(4, vI (wr (x4 + 1))), (0, vR 0), (1, vR x1), (2, vI x2_9), (3, vI x3_10)]) (st1 := []) (h1 := h7) (P := True ∧ True) (by decide +kernel) rfl rfl ⟨trivial, trivial⟩ ?_
        refine g_goto hK 89 (-62) 27 (by decide +kernel) (by decide) ?_
        refine hK.2.1 _ _ ([(0, vR 0), (1, vR x1), (2, vI x2_9), (3, vI x3_10), (4, vI (wr (x4 + 1)))]) _ _ (sub_of [1, 2, 3, 4, 0] rfl) ?_
        exact ih _ _ _ _ _ _ _ _ hF hE
      clear hF
      have hF := e13
      refine g_icmp hK 77 .ge (9) 86 (t1 := 80) (t2 := 86) (by decide +kernel) (by decide) rfl rfl (fun (hc12 : r6 < x3) => ?_) (fun (hc12 : ¬ (r6 < x3)) => ?_)
      · have hF := ite_t hc12 hF
        refine g_seg hK [.iload 5, .istore_n 3, .iload 4, .istore_n 2] 80 86 (L1 := [(2, vI x4), (3, vI r6), (5, vI r6), (0, vR 0), (1, vR x1), (4, vI x4)]) (st1 := []) (h1 := h7) (P := True ∧ True ∧ True ∧ True ∧ True) (by decide +kernel) rfl rfl ⟨trivial, trivial, trivial, trivial, trivial⟩ ?_
        refine hK.2.1 _ _ ([(0, vR 0), (1, vR x1), (2, vI x4), (3, vI r6), (4, vI x4)]) _ _ (sub_of [3, 4, 0, 1, 5] rfl) ?_
        cases hF
        exact j11
      · have hF := ite_f hc12 hF
        refine hK.2.1 _ _ ([(0, vR 0), (1, vR x1), (2, vI x2), (3, vI x3), (4, vI x4)]) _ _ (sub_of [1, 2, 3, 4, 5] rfl) ?_
        cases hF
        exact j11
    · have hF := ite_f hc1 hF
      cases hF
      exact hE
set_option maxHeartbeats 4000000 in
set_option maxRecDepth 100000 in
theorem T_X_least {h : MH} {r : Int} {h' : MH} (hF : F_X_least h = some (r, h')) : CON 5 yX6_least cX6_least 6 (Option.some Jvm.ClassFile.FieldType.int) [vR 0] h (some (vI r)) h' := by
  refine con_of (own := RX6) (fl := flX6) (by decide +kernel) rfl flok_X6 rfl (Nat.le_of_ble_eq_true rfl) ?_
  intro K hK hR
  show K 0 [(0, vR 0)] [] h
  unfold F_X_least at hF
  refine g_seg hK [.aload_n 0, .getfield 21, .iconst 0] 0 5 (L1 := [(0, vR 0)]) (st1 := [vI 0, vR 3]) (h1 := h) (P := True ∧ kd 0 = 8 ∧ True ∧ True) (by decide +kernel) rfl rfl ⟨trivial, rfl, trivial, trivial⟩ ?_
  refine g_callV1 hK 5 88 (d1 := 0) (ci := 4) (i := 3) (vs := [vI 0]) (rest := []) (h1 := h) (r := vR (F_St_text 3 0)) my_yX4_text vw_X6_88 (by decide) (T_St_text (o := 3) (p1 := 0) (h := h) (ks := rfl) (hF := rfl)) rfl rfl rfl (Nat.le_of_ble_eq_true rfl) (by decide +kernel) ?_
  refine g_seg hK [.astore_n 1, .aload_n 1] 8 10 (L1 := [(1, vR (F_St_text 3 0)), (0, vR 0)]) (st1 := [vR (F_St_text 3 0)]) (h1 := h) (P := True ∧ True ∧ True) (by decide +kernel) rfl rfl ⟨trivial, trivial, trivial⟩ ?_
  refine g_callV1 hK 10 209 (d1 := 0) (ci := 3) (i := F_St_text 3 0) (vs := []) (rest := []) (h1 := h) (r := vI (F_Ro_isEmpty (F_St_text 3 0) h)) my_yX3_isEmpty vw_X6_209 (by decide) (T_Ro_isEmpty (o := (F_St_text 3 0)) (h := h) (ko := (kd_St_text rfl)) (hF := rfl)) (kd_St_text rfl) rfl rfl (Nat.le_of_ble_eq_true rfl) (by decide +kernel) ?_
  refine g_ifz hK 13 .eq (6) 19 (t1 := 19) (t2 := 16) (by decide +kernel) (by decide) rfl rfl (fun (hc1 : F_Ro_isEmpty (F_St_text 3 0) h = 0) => ?_) (fun (hc1 : ¬ (F_Ro_isEmpty (F_St_text 3 0) h = 0)) => ?_)
  · have hF := ite_t hc1 hF
    refine g_seg hK [.iconst 0, .istore_n 2, .bipush 29, .istore_n 3, .iconst 0, .istore 4] 19 27 (L1 := [(4, vI 0), (3, vI 29), (2, vI 0), (1, vR (F_St_text 3 0)), (0, vR 0)]) (st1 := []) (h1 := h) (P := True ∧ True ∧ True ∧ True ∧ True ∧ True ∧ True) (by decide +kernel) rfl rfl ⟨trivial, trivial, trivial, trivial, trivial, trivial, trivial⟩ ?_
    refine hK.2.1 _ _ ([(0, vR 0), (1, vR (F_St_text 3 0)), (2, vI 0), (3, vI 29), (4, vI 0)]) _ _ (sub_of [4, 3, 2, 1, 0] rfl) ?_
    obtain ⟨x2_2, x3_3, x4_4, h5, e6, hF⟩ := ob4_elim hF
    refine LT_X_least_L27 hK (kx1 := (kd_St_text rfl)) _ _ _ _ _ _ _ _ _ e6 ?_
    refine g_seg hK [.iload_n 2] 92 93 (L1 := [(0, vR 0), (1, vR (F_St_text 3 0)), (2, vI x2_2), (3, vI x3_3), (4, vI x4_4)]) (st1 := [vI x2_2]) (h1 := h5) (P := True ∧ True) (by decide +kernel) rfl rfl ⟨trivial, trivial⟩ ?_
    cases hF
    exact hR.1 93 _ _ _ (by decide +kernel) rfl ⟨rfl, rfl⟩
  · have hF := ite_f hc1 hF
    refine g_seg hK [.bipush (-2)] 16 18 (L1 := [(1, vR (F_St_text 3 0)), (0, vR 0)]) (st1 := [vI (-2)]) (h1 := h) (P := True ∧ True) (by decide +kernel) rfl rfl ⟨trivial, trivial⟩ ?_
    cases hF
    exact hR.1 18 _ _ _ (by decide +kernel) rfl ⟨rfl, rfl⟩
set_option maxHeartbeats 4000000 in
set_option maxRecDepth 100000 in
theorem T_Hi_isEmpty {h : MH} {r : Int} (hF : F_Hi_isEmpty h = r) : CON 0 yX1_isEmpty cX1_isEmpty 1 (Option.some Jvm.ClassFile.FieldType.boolean) [vR 17] h (some (vI r)) h := by
  refine con_of (own := RX1) (fl := flX1) (by decide +kernel) rfl flok_X1 rfl (Nat.le_of_ble_eq_true rfl) ?_
  intro K hK hR
  show K 0 [(0, vR 17)] [] h
  unfold F_Hi_isEmpty at hF
  refine g_seg hK [.aload_n 0, .getfield 17] 0 4 (L1 := [(0, vR 17)]) (st1 := [vI (h 17 1)]) (h1 := h) (P := True ∧ kd 17 = 3 ∧ True) (by decide +kernel) rfl rfl ⟨trivial, rfl, trivial⟩ ?_
  refine g_ifz hK 4 .ne (7) 11 (t1 := 7) (t2 := 11) (by decide +kernel) (by decide) rfl rfl (fun (hc1 : h 17 1 = 0) => ?_) (fun (hc1 : ¬ (h 17 1 = 0)) => ?_)
  · have hF := ite_t hc1 hF
    refine g_seg hK [.iconst 1] 7 8 (L1 := [(0, vR 17)]) (st1 := [vI 1]) (h1 := h) (P := True ∧ True) (by decide +kernel) rfl rfl ⟨trivial, trivial⟩ ?_
    refine g_goto hK 8 (4) 12 (by decide +kernel) (by decide) ?_
    cases hF
    exact hR.2.1 12 _ _ _ (by decide +kernel) rfl (by decide) ⟨rfl, rfl⟩
  · have hF := ite_f hc1 hF
    refine g_seg hK [.iconst 0] 11 12 (L1 := [(0, vR 17)]) (st1 := [vI 0]) (h1 := h) (P := True ∧ True) (by decide +kernel) rfl rfl ⟨trivial, trivial⟩ ?_
    cases hF
    exact hR.2.1 12 _ _ _ (by decide +kernel) rfl (by decide) ⟨rfl, rfl⟩
set_option maxHeartbeats 4000000 in
set_option maxRecDepth 100000 in
theorem T_Hi_takeBack {p1 : Nat} {h : MH} {h' : MH} (kp1 : kd p1 = 6) (hF : F_Hi_takeBack p1 h = some h') : CON 4 yX1_takeBack cX1_takeBack 2 none [vR 17, vR p1] h none h' := by
  refine con_of (own := RX1) (fl := flX1) (by decide +kernel) rfl flok_X1 rfl (Nat.le_of_ble_eq_true rfl) ?_
  intro K hK hR
  show K 0 [(0, vR 17), (1, vR p1)] [] h
  unfold F_Hi_takeBack at hF
  refine g_seg hK [.aload_n 0, .getfield 17] 0 4 (L1 := [(0, vR 17), (1, vR p1)]) (st1 := [vI (h 17 1)]) (h1 := h) (P := True ∧ kd 17 = 3 ∧ True) (by decide +kernel) rfl rfl ⟨trivial, rfl, trivial⟩ ?_
  refine g_ifz hK 4 .le (25) 29 (t1 := 29) (t2 := 7) (by decide +kernel) (by decide) rfl rfl (fun (hc1 : h 17 1 ≤ 0) => ?_) (fun (hc1 : ¬ (h 17 1 ≤ 0)) => ?_)
  · have hF := ite_t hc1 hF
    cases hF
    exact hR.2.2.2.2 29 _ _ (by decide +kernel) rfl ⟨rfl, rfl⟩
  · have hF := ite_f hc1 hF
    refine g_seg hK [.aload_n 0, .dup, .getfield 17, .iconst 1, .isub, .putfield 17, .aload_n 0, .aload_n 0, .getfield 17] 7 22 (L1 := [(0, vR 17), (1, vR p1)]) (st1 := [vI ((up h 17 1 (wr ((h 17 1) - 1))) 17 1), vR 17]) (h1 := (up h 17 1 (wr ((h 17 1) - 1)))) (P := True ∧ True ∧ kd 17 = 3 ∧ True ∧ True ∧ kd 17 = 3 ∧ True ∧ True ∧ kd 17 = 3 ∧ True) (by decide +kernel) rfl rfl ⟨trivial, trivial, rfl, trivial, trivial, rfl, trivial, trivial, rfl, trivial⟩ ?_
    refine g_callV1 hK 22 25 (d1 := 0) (ci := 1) (i := 17) (vs := [vI ((up h 17 1 (wr ((h 17 1) - 1))) 17 1)]) (rest := []) (h1 := (up h 17 1 (wr ((h 17 1) - 1)))) (r := vO (F_Hi_slot ((up h 17 1 (wr ((h 17 1) - 1))) 17 1))) my_yX1_slot vw_X1_25 (by decide) (T_Hi_slot (p1 := ((up h 17 1 (wr ((h 17 1) - 1))) 17 1)) (h := (up h 17 1 (wr ((h 17 1) - 1)))) (hF := rfl)) rfl rfl rfl (Nat.le_of_ble_eq_true rfl) (by decide +kernel) ?_
    refine g_seg hK [.aload_n 1] 25 26 (L1 := [(0, vR 17), (1, vR p1)]) (st1 := [vR p1, vO (F_Hi_slot ((up h 17 1 (wr ((h 17 1) - 1))) 17 1))]) (h1 := (up h 17 1 (wr ((h 17 1) - 1)))) (P := True ∧ True) (by decide +kernel) rfl rfl ⟨trivial, trivial⟩ ?_
    obtain ⟨h2, e3, hF⟩ := ob1_elim hF
    refine g_callS0 hK 26 29 (d1 := 3) (vs := [vO (F_Hi_slot ((up h 17 1 (wr ((h 17 1) - 1))) 17 1)), vR p1]) (rest := []) (h1 := h2) my_yX1_copy sw_X1_29 (by decide) (T_Hi_copy (p1 := (F_Hi_slot ((up h 17 1 (wr ((h 17 1) - 1))) 17 1))) (p2 := (some p1)) (h := (up h 17 1 (wr ((h 17 1) - 1)))) (kp1 := (kd_Hi_slot _)) (kp2 := (fun i e => by cases e; exact kp1)) (hF := e3)) rfl (Nat.le_of_ble_eq_true rfl) (by decide +kernel) ?_
    cases hF
    exact hR.2.2.2.2 29 _ _ (by decide +kernel) rfl ⟨rfl, rfl⟩
set_option maxHeartbeats 4000000 in
set_option maxRecDepth 100000 in
theorem T_X_undo {h : MH} {r : Int} {h' : MH} (hF : F_X_undo h = some (r, h')) : CON 5 yX6_undo cX6_undo 1 (Option.some Jvm.ClassFile.FieldType.int) [vR 0] h (some (vI r)) h' := by
  refine con_of (own := RX6) (fl := flX6) (by decide +kernel) rfl flok_X6 rfl (Nat.le_of_ble_eq_true rfl) ?_
  intro K hK hR
  show K 0 [(0, vR 0)] [] h
  unfold F_X_undo at hF
  refine g_seg hK [.aload_n 0, .getfield 35] 0 4 (L1 := [(0, vR 0)]) (st1 := [vR 17]) (h1 := h) (P := True ∧ kd 0 = 8 ∧ True) (by decide +kernel) rfl rfl ⟨trivial, rfl, trivial⟩ ?_
  refine g_callV1 hK 4 216 (d1 := 0) (ci := 1) (i := 17) (vs := []) (rest := []) (h1 := h) (r := vI (F_Hi_isEmpty h)) my_yX1_isEmpty vw_X6_216 (by decide) (T_Hi_isEmpty (h := h) (hF := rfl)) rfl rfl rfl (Nat.le_of_ble_eq_true rfl) (by decide +kernel) ?_
  refine g_ifz hK 7 .eq (6) 13 (t1 := 13) (t2 := 10) (by decide +kernel) (by decide) rfl rfl (fun (hc1 : F_Hi_isEmpty h = 0) => ?_) (fun (hc1 : ¬ (F_Hi_isEmpty h = 0)) => ?_)
  · have hF := ite_t hc1 hF
    refine g_seg hK [.aload_n 0, .getfield 35, .aload_n 0, .getfield 21] 13 21 (L1 := [(0, vR 0)]) (st1 := [vR 3, vR 17]) (h1 := h) (P := True ∧ kd 0 = 8 ∧ True ∧ kd 0 = 8 ∧ True) (by decide +kernel) rfl rfl ⟨trivial, rfl, trivial, rfl, trivial⟩ ?_
    obtain ⟨h2, e3, hF⟩ := ob1_elim hF
    refine g_callV0 hK 21 217 (d1 := 4) (ci := 1) (i := 17) (vs := [vR 3]) (rest := []) (h1 := h2) my_yX1_takeBack vw_X6_217 (by decide) (T_Hi_takeBack (p1 := 3) (h := h) (kp1 := rfl) (hF := e3)) rfl rfl rfl (Nat.le_of_ble_eq_true rfl) (by decide +kernel) ?_
    refine g_seg hK [.aload_n 0, .getfield 35] 24 28 (L1 := [(0, vR 0)]) (st1 := [vR 17]) (h1 := h2) (P := True ∧ kd 0 = 8 ∧ True) (by decide +kernel) rfl rfl ⟨trivial, rfl, trivial⟩ ?_
    refine g_callV1 hK 28 220 (d1 := 0) (ci := 1) (i := 17) (vs := []) (rest := []) (h1 := h2) (r := vI (F_Hi_size h2)) my_yX1_size vw_X6_220 (by decide) (T_Hi_size (h := h2) (hF := rfl)) rfl rfl rfl (Nat.le_of_ble_eq_true rfl) (by decide +kernel) ?_
    cases hF
    exact hR.1 31 _ _ _ (by decide +kernel) rfl ⟨rfl, rfl⟩
  · have hF := ite_f hc1 hF
    refine g_seg hK [.bipush (-2)] 10 12 (L1 := [(0, vR 0)]) (st1 := [vI (-2)]) (h1 := h) (P := True ∧ True) (by decide +kernel) rfl rfl ⟨trivial, trivial⟩ ?_
    cases hF
    exact hR.1 12 _ _ _ (by decide +kernel) rfl ⟨rfl, rfl⟩
set_option maxHeartbeats 4000000 in
set_option maxRecDepth 100000 in
theorem T_X_save {h : MH} {r : Int} {h' : MH} (hF : F_X_save h = some (r, h')) : CON 6 yX6_save cX6_save 1 (Option.some Jvm.ClassFile.FieldType.int) [vR 0] h (some (vI r)) h' := by
  refine con_of (own := RX6) (fl := flX6) (by decide +kernel) rfl flok_X6 rfl (Nat.le_of_ble_eq_true rfl) ?_
  intro K hK hR
  show K 0 [(0, vR 0)] [] h
  unfold F_X_save at hF
  refine g_seg hK [.aload_n 0, .getfield 25, .aload_n 0, .getfield 21] 0 8 (L1 := [(0, vR 0)]) (st1 := [vR 3, vR 10]) (h1 := h) (P := True ∧ kd 0 = 8 ∧ True ∧ kd 0 = 8 ∧ True) (by decide +kernel) rfl rfl ⟨trivial, rfl, trivial, rfl, trivial⟩ ?_
  obtain ⟨h1, e2, hF⟩ := ob1_elim hF
  refine g_callV0 hK 8 221 (d1 := 2) (ci := 4) (i := 10) (vs := [vR 3]) (rest := []) (h1 := h1) my_yX4_become vw_X6_221 (by decide) (T_St_become (o := 10) (p1 := 3) (h := h) (ks := rfl) (kp1 := rfl) (hF := e2)) rfl rfl rfl (Nat.le_of_ble_eq_true rfl) (by decide +kernel) ?_
  refine g_seg hK [.aload_n 0, .iconst 1, .putfield 28, .aload_n 0] 11 17 (L1 := [(0, vR 0)]) (st1 := [vR 0]) (h1 := (up h1 0 3 1)) (P := True ∧ True ∧ (kd 0 = 8 ∧ (1 = 0 ∨ 1 = 1)) ∧ True ∧ True) (by decide +kernel) rfl rfl ⟨trivial, trivial, ⟨rfl, by decide⟩, trivial, trivial⟩ ?_
  obtain ⟨r3, h4, e5, hF⟩ := ob2_elim hF
  refine g_callV1 hK 17 109 (d1 := 5) (ci := 6) (i := 0) (vs := []) (rest := []) (h1 := h4) (r := vI r3) my_yX6_distanceNow vw_X6_109 (by decide) (T_X_distanceNow (h := (up h1 0 3 1)) (hF := e5)) rfl rfl rfl (Nat.le_of_ble_eq_true rfl) (by decide +kernel) ?_
  cases hF
  exact hR.1 20 _ _ _ (by decide +kernel) rfl ⟨rfl, rfl⟩
set_option maxHeartbeats 4000000 in
set_option maxRecDepth 100000 in
theorem T_X_restore {h : MH} {r : Int} {h' : MH} (hF : F_X_restore h = some (r, h')) : CON 6 yX6_restore cX6_restore 1 (Option.some Jvm.ClassFile.FieldType.int) [vR 0] h (some (vI r)) h' := by
  refine con_of (own := RX6) (fl := flX6) (by decide +kernel) rfl flok_X6 rfl (Nat.le_of_ble_eq_true rfl) ?_
  intro K hK hR
  show K 0 [(0, vR 0)] [] h
  unfold F_X_restore at hF
  refine g_seg hK [.aload_n 0, .getfield 28] 0 4 (L1 := [(0, vR 0)]) (st1 := [vI (h 0 3)]) (h1 := h) (P := True ∧ kd 0 = 8 ∧ True) (by decide +kernel) rfl rfl ⟨trivial, rfl, trivial⟩ ?_
  refine g_ifz hK 4 .ne (6) 10 (t1 := 7) (t2 := 10) (by decide +kernel) (by decide) rfl rfl (fun (hc1 : h 0 3 = 0) => ?_) (fun (hc1 : ¬ (h 0 3 = 0)) => ?_)
  · have hF := ite_t hc1 hF
    refine g_seg hK [.bipush (-2)] 7 9 (L1 := [(0, vR 0)]) (st1 := [vI (-2)]) (h1 := h) (P := True ∧ True) (by decide +kernel) rfl rfl ⟨trivial, trivial⟩ ?_
    cases hF
    exact hR.1 9 _ _ _ (by decide +kernel) rfl ⟨rfl, rfl⟩
  · have hF := ite_f hc1 hF
    refine g_seg hK [.aload_n 0, .getfield 35, .aload_n 0, .getfield 21] 10 18 (L1 := [(0, vR 0)]) (st1 := [vR 3, vR 17]) (h1 := h) (P := True ∧ kd 0 = 8 ∧ True ∧ kd 0 = 8 ∧ True) (by decide +kernel) rfl rfl ⟨trivial, rfl, trivial, rfl, trivial⟩ ?_
    obtain ⟨h2, e3, hF⟩ := ob1_elim hF
    refine g_callV0 hK 18 84 (d1 := 5) (ci := 1) (i := 17) (vs := [vR 3]) (rest := []) (h1 := h2) my_yX1_record vw_X6_84 (by decide) (T_Hi_record (p1 := 3) (h := h) (kp1 := rfl) (hF := e3)) rfl rfl rfl (Nat.le_of_ble_eq_true rfl) (by decide +kernel) ?_
    refine g_seg hK [.aload_n 0, .getfield 21, .aload_n 0, .getfield 25] 21 29 (L1 := [(0, vR 0)]) (st1 := [vR 10, vR 3]) (h1 := h2) (P := True ∧ kd 0 = 8 ∧ True ∧ kd 0 = 8 ∧ True) (by decide +kernel) rfl rfl ⟨trivial, rfl, trivial, rfl, trivial⟩ ?_
    obtain ⟨h4, e5, hF⟩ := ob1_elim hF
    refine g_callV0 hK 29 221 (d1 := 2) (ci := 4) (i := 3) (vs := [vR 10]) (rest := []) (h1 := h4) my_yX4_become vw_X6_221 (by decide) (T_St_become (o := 3) (p1 := 10) (h := h2) (ks := rfl) (kp1 := rfl) (hF := e5)) rfl rfl rfl (Nat.le_of_ble_eq_true rfl) (by decide +kernel) ?_
    refine g_seg hK [.aload_n 0] 32 33 (L1 := [(0, vR 0)]) (st1 := [vR 0]) (h1 := h4) (P := True ∧ True) (by decide +kernel) rfl rfl ⟨trivial, trivial⟩ ?_
    obtain ⟨r6, h7, e8, hF⟩ := ob2_elim hF
    refine g_callV1 hK 33 109 (d1 := 5) (ci := 6) (i := 0) (vs := []) (rest := []) (h1 := h7) (r := vI r6) my_yX6_distanceNow vw_X6_109 (by decide) (T_X_distanceNow (h := h4) (hF := e8)) rfl rfl rfl (Nat.le_of_ble_eq_true rfl) (by decide +kernel) ?_
    cases hF
    exact hR.1 36 _ _ _ (by decide +kernel) rfl ⟨rfl, rfl⟩
set_option maxHeartbeats 4000000 in
set_option maxRecDepth 100000 in
theorem T_L_low {p1 : Int} {p2 : Int} {h : MH} {r : Int} (hF : F_L_low p1 p2 = some r) : CON 0 yL_low cL_low 2 (Option.some Jvm.ClassFile.FieldType.int) [vI p1, vI p2] h (some (vI r)) h := by
  refine con_of (own := RX9) (fl := flX9) (by decide +kernel) rfl flok_X9 rfl (Nat.le_of_ble_eq_true rfl) ?_
  intro K hK hR
  show K 0 [(0, vI p1), (1, vI p2)] [] h
  unfold F_L_low at hF
  refine g_seg hK [.iload_n 0] 0 1 (L1 := [(0, vI p1), (1, vI p2)]) (st1 := [vI p1]) (h1 := h) (P := True ∧ True) (by decide +kernel) rfl rfl ⟨trivial, trivial⟩ ?_
  refine g_ldi hK 1 3 rfl (by decide +kernel) rfl ?_
  refine g_seg hK [.iand, .iload_n 1] 3 5 (L1 := [(0, vI p1), (1, vI p2)]) (st1 := [vI p2, vI (andv p1 2147483647)]) (h1 := h) (P := True ∧ True ∧ True) (by decide +kernel) rfl rfl ⟨trivial, trivial, trivial⟩ ?_
  obtain ⟨hg1, hF⟩ := gd_elim hF
  refine g_seg hK [.irem] 5 6 (L1 := [(0, vI p1), (1, vI p2)]) (st1 := [vI (remv (andv p1 2147483647) p2)]) (h1 := h) (P := (¬ p2 = 0) ∧ True) (by decide +kernel) rfl rfl ⟨hg1, trivial⟩ ?_
  cases hF
  exact hR.1 6 _ _ _ (by decide +kernel) rfl ⟨rfl, rfl⟩
set_option maxHeartbeats 4000000 in
set_option maxRecDepth 100000 in
theorem LT_L_isView_L25 {K : KT} (hK : Rules RX9 cL_isView 13 (Option.some Jvm.ClassFile.FieldType.boolean) flX9 7 K) {Post : Option MV → MH → Prop} (hR : R_ret cL_isView (Option.some Jvm.ClassFile.FieldType.boolean) Post K) {x7 : Int} : ∀ (n : Nat) (x1 : Int) (x2 : Int) (x3 : Int) (x4 : Int) (x5 : Int) (x6 : Int) (x8 : Int) (h : MH) (out : Sum (Int × MH) (Int × Int × Int × Int × Int × Int × Int × MH)), F_L_isView_L25 x7 n x1 x2 x3 x4 x5 x6 x8 h = some out → (∀ a : Int × MH, out = Sum.inl a → Post (some (vI a.1)) a.2) → (∀ q : Int × Int × Int × Int × Int × Int × Int × MH, out = Sum.inr q → K 321 [(0, vR 0), (1, vI q.1), (2, vI q.2.1), (3, vI q.2.2.1), (4, vI q.2.2.2.1), (5, vI q.2.2.2.2.1), (6, vI q.2.2.2.2.2.1), (7, vI x7), (8, vI q.2.2.2.2.2.2.1)] [] q.2.2.2.2.2.2.2) → K 25 [(0, vR 0), (1, vI x1), (2, vI x2), (3, vI x3), (4, vI x4), (5, vI x5), (6, vI x6), (7, vI x7), (8, vI x8)] [] h := by
  intro n
  induction n with
  | zero =>
    intro x1 x2 x3 x4 x5 x6 x8 h out hF
    cases hF
  | succ n ih =>
    intro x1 x2 x3 x4 x5 x6 x8 h out hF hRet hE
    unfold F_L_isView_L25 at hF
    refine g_seg hK [.iload 8, .iload 7] 25 29 (L1 := [(0, vR 0), (1, vI x1), (2, vI x2), (3, vI x3), (4, vI x4), (5, vI x5), (6, vI x6), (7, vI x7), (8, vI x8)]) (st1 := [vI x7, vI x8]) (h1 := h) (P := True ∧ True ∧ True) (by decide +kernel) rfl rfl ⟨trivial, trivial, trivial⟩ ?_
    refine g_icmp hK 29 .ge (292) 321 (t1 := 32) (t2 := 321) (by decide +kernel) (by decide) rfl rfl (fun (hc1 : x8 < x7) => ?_) (fun (hc1 : ¬ (x8 < x7)) => ?_)
    · have hF := ite_t hc1 hF
      refine g_seg hK [.iload 8, .bipush 28] 32 36 (L1 := [(0, vR 0), (1, vI x1), (2, vI x2), (3, vI x3), (4, vI x4), (5, vI x5), (6, vI x6), (7, vI x7), (8, vI x8)]) (st1 := [vI 28, vI x8]) (h1 := h) (P := True ∧ True ∧ True) (by decide +kernel) rfl rfl ⟨trivial, trivial, trivial⟩ ?_
      refine g_icmp hK 36 .ge (285) 321 (t1 := 39) (t2 := 321) (by decide +kernel) (by decide) rfl rfl (fun (hc2 : x8 < 28) => ?_) (fun (hc2 : ¬ (x8 < 28)) => ?_)
      · have hF := ite_t hc2 hF
        refine g_seg hK [.aload_n 0, .iload 8, .iconst 0] 39 43 (L1 := [(0, vR 0), (1, vI x1), (2, vI x2), (3, vI x3), (4, vI x4), (5, vI x5), (6, vI x6), (7, vI x7), (8, vI x8)]) (st1 := [vI 0, vI x8, vR 0]) (h1 := h) (P := True ∧ True ∧ True ∧ True) (by decide +kernel) rfl rfl ⟨trivial, trivial, trivial, trivial⟩ ?_
        obtain ⟨r3, h4, e5, hF⟩ := ob2_elim hF
        refine g_callV1 hK 43 14 (d1 := 6) (ci := 6) (i := 0) (vs := [vI x8, vI 0]) (rest := []) (h1 := h4) (r := vI r3) my_yX6_view vw_X9_14 (by decide) (T_X_view (p1 := x8) (p2 := 0) (h := h) (hF := e5)) rfl rfl rfl (Nat.le_of_ble_eq_true rfl) (by decide +kernel) ?_
        refine g_seg hK [.istore 9, .aload_n 0, .iload 8, .iconst 1] 46 52 (L1 := [(9, vI r3), (0, vR 0), (1, vI x1), (2, vI x2), (3, vI x3), (4, vI x4), (5, vI x5), (6, vI x6), (7, vI x7), (8, vI x8)]) (st1 := [vI 1, vI x8, vR 0]) (h1 := h4) (P := True ∧ True ∧ True ∧ True ∧ True) (by decide +kernel) rfl rfl ⟨trivial, trivial, trivial, trivial, trivial⟩ ?_
        obtain ⟨r6, h7, e8, hF⟩ := ob2_elim hF
        refine g_callV1 hK 52 14 (d1 := 6) (ci := 6) (i := 0) (vs := [vI x8, vI 1]) (rest := []) (h1 := h7) (r := vI r6) my_yX6_view vw_X9_14 (by decide) (T_X_view (p1 := x8) (p2 := 1) (h := h4) (hF := e8)) rfl rfl rfl (Nat.le_of_ble_eq_true rfl) (by decide +kernel) ?_
        refine g_seg hK [.istore 10, .iload 9] 55 59 (L1 := [(10, vI r6), (9, vI r3), (0, vR 0), (1, vI x1), (2, vI x2), (3, vI x3), (4, vI x4), (5, vI x5), (6, vI x6), (7, vI x7), (8, vI x8)]) (st1 := [vI r3]) (h1 := h7) (P := True ∧ True ∧ True) (by decide +kernel) rfl rfl ⟨trivial, trivial, trivial⟩ ?_
        obtain ⟨kj13, e90, hF⟩ := jk2_elim hF
        have j13 : ∀ (s11 : Int) (h12 : MH), kj13 s11 h12 = some out → K 84 [(0, vR 0), (1, vI x1), (2, vI x2), (3, vI x3), (4, vI x4), (5, vI x5), (6, vI x6), (7, vI x7), (8, vI x8), (9, vI r3), (10, vI r6)] [vI s11] h12 := by
          intro s11 h12 hF
          have hF := (e90 s11 h12).symm.trans hF
          refine g_seg hK [.istore 11, .iload 6, .iload 11] 84 90 (L1 := [(11, vI s11), (0, vR 0), (1, vI x1), (2, vI x2), (3, vI x3), (4, vI x4), (5, vI x5), (6, vI x6), (7, vI x7), (8, vI x8), (9, vI r3), (10, vI r6)]) (st1 := [vI s11, vI x6]) (h1 := h12) (P := True ∧ True ∧ True ∧ True) (by decide +kernel) rfl rfl ⟨trivial, trivial, trivial, trivial⟩ ?_
          obtain ⟨s14, e89, hF⟩ := jn1_elim hF
          have j15 : K 98 [(0, vR 0), (1, vI x1), (2, vI x2), (3, vI x3), (4, vI x4), (5, vI x5), (7, vI x7), (8, vI x8), (9, vI r3), (10, vI r6), (11, vI s11)] [vI s14, vI x6] h12 := by
            refine g_seg hK [.iadd, .istore 6, .iload 9] 98 103 (L1 := [(6, vI (wr (x6 + s14))), (0, vR 0), (1, vI x1), (2, vI x2), (3, vI x3), (4, vI x4), (5, vI x5), (7, vI x7), (8, vI x8), (9, vI r3), (10, vI r6), (11, vI s11)]) (st1 := [vI r3]) (h1 := h12) (P := True ∧ True ∧ True ∧ True) (by decide +kernel) rfl rfl ⟨trivial, trivial, trivial, trivial⟩ ?_
            obtain ⟨kj21, e51, hF⟩ := jk2_elim hF
            have j21 : ∀ (s19 : Int) (h20 : MH), kj21 s19 h20 = some out → K 217 [(0, vR 0), (1, vI x1), (2, vI x2), (3, vI x3), (4, vI x4), (5, vI x5), (6, vI (wr (x6 + s14))), (7, vI x7), (8, vI x8), (9, vI r3), (11, vI s11)] [vI s19] h20 := by
              intro s19 h20 hF
              have hF := (e51 s19 h20).symm.trans hF
              refine g_seg hK [.istore 12, .iload 12] 217 221 (L1 := [(12, vI s19), (0, vR 0), (1, vI x1), (2, vI x2), (3, vI x3), (4, vI x4), (5, vI x5), (6, vI (wr (x6 + s14))), (7, vI x7), (8, vI x8), (9, vI r3), (11, vI s11)]) (st1 := [vI s19]) (h1 := h20) (P := True ∧ True ∧ True) (by decide +kernel) rfl rfl ⟨trivial, trivial, trivial⟩ ?_
              refine g_ifz hK 221 .eq (20) 241 (t1 := 241) (t2 := 224) (by decide +kernel) (by decide) rfl rfl (fun (hc22 : s19 = 0) => ?_) (fun (hc22 : ¬ (s19 = 0)) => ?_)
              · have hF := ite_t hc22 hF
                refine g_seg hK [.iconst 0] 241 242 (L1 := [(12, vI s19), (0, vR 0), (1, vI x1), (2, vI x2), (3, vI x3), (4, vI x4), (5, vI x5), (6, vI (wr (x6 + s14))), (7, vI x7), (8, vI x8), (9, vI r3), (11, vI s11)]) (st1 := [vI 0]) (h1 := h20) (P := True ∧ True) (by decide +kernel) rfl rfl ⟨trivial, trivial⟩ ?_
                cases hF
                exact hR.2.1 242 _ _ _ (by decide +kernel) rfl (by decide) (hRet _ rfl)
              · have hF := ite_f hc22 hF
                refine g_seg hK [.iload 11] 224 226 (L1 := [(12, vI s19), (0, vR 0), (1, vI x1), (2, vI x2), (3, vI x3), (4, vI x4), (5, vI x5), (6, vI (wr (x6 + s14))), (7, vI x7), (8, vI x8), (9, vI r3), (11, vI s11)]) (st1 := [vI s11]) (h1 := h20) (P := True ∧ True) (by decide +kernel) rfl rfl ⟨trivial, trivial⟩ ?_
                obtain ⟨kj24, e45, hF⟩ := jk1_elim hF
                have j24 : ∀ (h23 : MH), kj24 h23 = some out → K 243 [(0, vR 0), (1, vI x1), (2, vI x2), (3, vI x3), (4, vI x4), (5, vI x5), (6, vI (wr (x6 + s14))), (7, vI x7), (8, vI x8), (9, vI r3)] [] h23 := by
                  intro h23 hF
                  have hF := (e45 h23).symm.trans hF
                  refine g_seg hK [.iload_n 1, .iload 9, .iconst 2] 243 247 (L1 := [(0, vR 0), (1, vI x1), (2, vI x2), (3, vI x3), (4, vI x4), (5, vI x5), (6, vI (wr (x6 + s14))), (7, vI x7), (8, vI x8), (9, vI r3)]) (st1 := [vI 2, vI r3, vI x1]) (h1 := h23) (P := True ∧ True ∧ True ∧ True) (by decide +kernel) rfl rfl ⟨trivial, trivial, trivial, trivial⟩ ?_
                  obtain ⟨s25, e44, hF⟩ := jn1_elim hF
                  have j26 : K 255 [(0, vR 0), (2, vI x2), (3, vI x3), (4, vI x4), (5, vI x5), (6, vI (wr (x6 + s14))), (7, vI x7), (8, vI x8), (9, vI r3)] [vI s25, vI x1] h23 := by
                    refine g_seg hK [.iadd, .istore_n 1, .iload_n 2, .iload 9, .iconst 1] 255 261 (L1 := [(1, vI (wr (x1 + s25))), (0, vR 0), (2, vI x2), (3, vI x3), (4, vI x4), (5, vI x5), (6, vI (wr (x6 + s14))), (7, vI x7), (8, vI x8), (9, vI r3)]) (st1 := [vI 1, vI r3, vI x2]) (h1 := h23) (P := True ∧ True ∧ True ∧ True ∧ True ∧ True) (by decide +kernel) rfl rfl ⟨trivial, trivial, trivial, trivial, trivial, trivial⟩ ?_
                    obtain ⟨s28, e43, hF⟩ := jn1_elim hF
                    have j29 : K 269 [(0, vR 0), (1, vI (wr (x1 + s25))), (3, vI x3), (4, vI x4), (5, vI x5), (6, vI (wr (x6 + s14))), (7, vI x7), (8, vI x8), (9, vI r3)] [vI s28, vI x2] h23 := by
                      refine g_seg hK [.iadd, .istore_n 2, .iload_n 3, .iload 9] 269 274 (L1 := [(2, vI (wr (x2 + s28))), (0, vR 0), (1, vI (wr (x1 + s25))), (3, vI x3), (4, vI x4), (5, vI x5), (6, vI (wr (x6 + s14))), (7, vI x7), (8, vI x8), (9, vI r3)]) (st1 := [vI r3, vI x3]) (h1 := h23) (P := True ∧ True ∧ True ∧ True ∧ True) (by decide +kernel) rfl rfl ⟨trivial, trivial, trivial, trivial, trivial⟩ ?_
                      obtain ⟨s31, e42, hF⟩ := jn1_elim hF
                      have j32 : K 282 [(0, vR 0), (1, vI (wr (x1 + s25))), (2, vI (wr (x2 + s28))), (4, vI x4), (5, vI x5), (6, vI (wr (x6 + s14))), (7, vI x7), (8, vI x8), (9, vI r3)] [vI s31, vI x3] h23 := by
                        refine g_seg hK [.iadd, .istore_n 3, .iload 9] 282 286 (L1 := [(3, vI (wr (x3 + s31))), (0, vR 0), (1, vI (wr (x1 + s25))), (2, vI (wr (x2 + s28))), (4, vI x4), (5, vI x5), (6, vI (wr (x6 + s14))), (7, vI x7), (8, vI x8), (9, vI r3)]) (st1 := [vI r3]) (h1 := h23) (P := True ∧ True ∧ True ∧ True) (by decide +kernel) rfl rfl ⟨trivial, trivial, trivial, trivial⟩ ?_
                        obtain ⟨s34, e41, hF⟩ := jn1_elim hF
                        have j35 : K 297 [(0, vR 0), (1, vI (wr (x1 + s25))), (2, vI (wr (x2 + s28))), (3, vI (wr (x3 + s31))), (5, vI x5), (6, vI (wr (x6 + s14))), (7, vI x7), (8, vI x8)] [vI s34] h23 := by
                          refine g_seg hK [.istore 4, .iload 4, .iload 5] 297 303 (L1 := [(4, vI s34), (0, vR 0), (1, vI (wr (x1 + s25))), (2, vI (wr (x2 + s28))), (3, vI (wr (x3 + s31))), (5, vI x5), (6, vI (wr (x6 + s14))), (7, vI x7), (8, vI x8)]) (st1 := [vI x5, vI s34]) (h1 := h23) (P := True ∧ True ∧ True ∧ True) (by decide +kernel) rfl rfl ⟨trivial, trivial, trivial, trivial⟩ ?_
                          obtain ⟨s37, e40, hF⟩ := jn1_elim hF
                          have j38 : K 313 [(0, vR 0), (1, vI (wr (x1 + s25))), (2, vI (wr (x2 + s28))), (3, vI (wr (x3 + s31))), (4, vI s34), (6, vI (wr (x6 + s14))), (7, vI x7), (8, vI x8)] [vI s37] h23 := by
                            refine g_seg hK [.istore 5, .iinc 8 1] 313 318 (L1 := [(8, vI (wr (x8 + 1))), (5, vI s37), (0, vR 0), (1, vI (wr (x1 + s25))), (2, vI (wr (x2 + s28))), (3, vI (wr (x3 + s31))), (4, vI s34), (6, vI (wr (x6 + s14))), (7, vI x7)]) (st1 := []) (h1 := h23) (P := True ∧ True ∧ True) (by decide +kernel) rfl rfl ⟨trivial, trivial, trivial⟩ ?_
                            refine g_goto hK 318 (-293) 25 (by decide +kernel) (by decide) ?_
                            refine hK.2.1 _ _ ([(0, vR 0), (1, vI (wr (x1 + s25))), (2, vI (wr (x2 + s28))), (3, vI (wr (x3 + s31))), (4, vI s34), (5, vI s37), (6, vI (wr (x6 + s14))), (7, vI x7), (8, vI (wr (x8 + 1)))]) _ _ (sub_of [2, 3, 4, 5, 6, 1, 7, 8, 0] rfl) ?_
                            exact ih _ _ _ _ _ _ _ _ _ hF hRet hE
                          clear hF
                          have hF := e40
                          refine g_icmp hK 303 .le (8) 311 (t1 := 311) (t2 := 306) (by decide +kernel) (by decide) rfl rfl (fun (hc39 : s34 ≤ x5) => ?_) (fun (hc39 : ¬ (s34 ≤ x5)) => ?_)
                          · have hF := ite_t hc39 hF
                            refine g_seg hK [.iload 5] 311 313 (L1 := [(4, vI s34), (0, vR 0), (1, vI (wr (x1 + s25))), (2, vI (wr (x2 + s28))), (3, vI (wr (x3 + s31))), (5, vI x5), (6, vI (wr (x6 + s14))), (7, vI x7), (8, vI x8)]) (st1 := [vI x5]) (h1 := h23) (P := True ∧ True) (by decide +kernel) rfl rfl ⟨trivial, trivial⟩ ?_
                            refine hK.2.1 _ _ ([(0, vR 0), (1, vI (wr (x1 + s25))), (2, vI (wr (x2 + s28))), (3, vI (wr (x3 + s31))), (4, vI s34), (6, vI (wr (x6 + s14))), (7, vI x7), (8, vI x8)]) _ _ (sub_of [1, 2, 3, 4, 0, 6, 7, 8] rfl) ?_
                            cases hF
                            exact j38
                          · have hF := ite_f hc39 hF
                            refine g_seg hK [.iload 4] 306 308 (L1 := [(4, vI s34), (0, vR 0), (1, vI (wr (x1 + s25))), (2, vI (wr (x2 + s28))), (3, vI (wr (x3 + s31))), (5, vI x5), (6, vI (wr (x6 + s14))), (7, vI x7), (8, vI x8)]) (st1 := [vI s34]) (h1 := h23) (P := True ∧ True) (by decide +kernel) rfl rfl ⟨trivial, trivial⟩ ?_
                            refine g_goto hK 308 (5) 313 (by decide +kernel) (by decide) ?_
                            refine hK.2.1 _ _ ([(0, vR 0), (1, vI (wr (x1 + s25))), (2, vI (wr (x2 + s28))), (3, vI (wr (x3 + s31))), (4, vI s34), (6, vI (wr (x6 + s14))), (7, vI x7), (8, vI x8)]) _ _ (sub_of [1, 2, 3, 4, 0, 6, 7, 8] rfl) ?_
                            cases hF
                            exact j38
                        clear hF
                        have hF := e41
                        refine g_ifz hK 286 .ne (10) 296 (t1 := 289) (t2 := 296) (by decide +kernel) (by decide) rfl rfl (fun (hc36 : r3 = 0) => ?_) (fun (hc36 : ¬ (r3 = 0)) => ?_)
                        · have hF := ite_t hc36 hF
                          refine g_seg hK [.iload 4, .iconst 1, .iadd] 289 293 (L1 := [(3, vI (wr (x3 + s31))), (0, vR 0), (1, vI (wr (x1 + s25))), (2, vI (wr (x2 + s28))), (4, vI x4), (5, vI x5), (6, vI (wr (x6 + s14))), (7, vI x7), (8, vI x8), (9, vI r3)]) (st1 := [vI (wr (x4 + 1))]) (h1 := h23) (P := True ∧ True ∧ True ∧ True) (by decide +kernel) rfl rfl ⟨trivial, trivial, trivial, trivial⟩ ?_
                          refine g_goto hK 293 (4) 297 (by decide +kernel) (by decide) ?_
                          refine hK.2.1 _ _ ([(0, vR 0), (1, vI (wr (x1 + s25))), (2, vI (wr (x2 + s28))), (3, vI (wr (x3 + s31))), (5, vI x5), (6, vI (wr (x6 + s14))), (7, vI x7), (8, vI x8)]) _ _ (sub_of [1, 2, 3, 0, 5, 6, 7, 8] rfl) ?_
                          cases hF
                          exact j35
                        · have hF := ite_f hc36 hF
                          refine g_seg hK [.iconst 0] 296 297 (L1 := [(3, vI (wr (x3 + s31))), (0, vR 0), (1, vI (wr (x1 + s25))), (2, vI (wr (x2 + s28))), (4, vI x4), (5, vI x5), (6, vI (wr (x6 + s14))), (7, vI x7), (8, vI x8), (9, vI r3)]) (st1 := [vI 0]) (h1 := h23) (P := True ∧ True) (by decide +kernel) rfl rfl ⟨trivial, trivial⟩ ?_
                          refine hK.2.1 _ _ ([(0, vR 0), (1, vI (wr (x1 + s25))), (2, vI (wr (x2 + s28))), (3, vI (wr (x3 + s31))), (5, vI x5), (6, vI (wr (x6 + s14))), (7, vI x7), (8, vI x8)]) _ _ (sub_of [1, 2, 3, 0, 5, 6, 7, 8] rfl) ?_
                          cases hF
                          exact j35
                      clear hF
                      have hF := e42
                      refine g_ifz hK 274 .ne (7) 281 (t1 := 277) (t2 := 281) (by decide +kernel) (by decide) rfl rfl (fun (hc33 : r3 = 0) => ?_) (fun (hc33 : ¬ (r3 = 0)) => ?_)
                      · have hF := ite_t hc33 hF
                        refine g_seg hK [.iconst 1] 277 278 (L1 := [(2, vI (wr (x2 + s28))), (0, vR 0), (1, vI (wr (x1 + s25))), (3, vI x3), (4, vI x4), (5, vI x5), (6, vI (wr (x6 + s14))), (7, vI x7), (8, vI x8), (9, vI r3)]) (st1 := [vI 1, vI x3]) (h1 := h23) (P := True ∧ True) (by decide +kernel) rfl rfl ⟨trivial, trivial⟩ ?_
                        refine g_goto hK 278 (4) 282 (by decide +kernel) (by decide) ?_
                        refine hK.2.1 _ _ ([(0, vR 0), (1, vI (wr (x1 + s25))), (2, vI (wr (x2 + s28))), (4, vI x4), (5, vI x5), (6, vI (wr (x6 + s14))), (7, vI x7), (8, vI x8), (9, vI r3)]) _ _ (sub_of [1, 2, 0, 4, 5, 6, 7, 8, 9] rfl) ?_
                        cases hF
                        exact j32
                      · have hF := ite_f hc33 hF
                        refine g_seg hK [.iconst 0] 281 282 (L1 := [(2, vI (wr (x2 + s28))), (0, vR 0), (1, vI (wr (x1 + s25))), (3, vI x3), (4, vI x4), (5, vI x5), (6, vI (wr (x6 + s14))), (7, vI x7), (8, vI x8), (9, vI r3)]) (st1 := [vI 0, vI x3]) (h1 := h23) (P := True ∧ True) (by decide +kernel) rfl rfl ⟨trivial, trivial⟩ ?_
                        refine hK.2.1 _ _ ([(0, vR 0), (1, vI (wr (x1 + s25))), (2, vI (wr (x2 + s28))), (4, vI x4), (5, vI x5), (6, vI (wr (x6 + s14))), (7, vI x7), (8, vI x8), (9, vI r3)]) _ _ (sub_of [1, 2, 0, 4, 5, 6, 7, 8, 9] rfl) ?_
                        cases hF
                        exact j32
                    clear hF
                    have hF := e43
                    refine g_icmp hK 261 .ne (7) 268 (t1 := 264) (t2 := 268) (by decide +kernel) (by decide) rfl rfl (fun (hc30 : r3 = 1) => ?_) (fun (hc30 : ¬ (r3 = 1)) => ?_)
                    · have hF := ite_t hc30 hF
                      refine g_seg hK [.iconst 0] 264 265 (L1 := [(1, vI (wr (x1 + s25))), (0, vR 0), (2, vI x2), (3, vI x3), (4, vI x4), (5, vI x5), (6, vI (wr (x6 + s14))), (7, vI x7), (8, vI x8), (9, vI r3)]) (st1 := [vI 0, vI x2]) (h1 := h23) (P := True ∧ True) (by decide +kernel) rfl rfl ⟨trivial, trivial⟩ ?_
                      refine g_goto hK 265 (4) 269 (by decide +kernel) (by decide) ?_
                      refine hK.2.1 _ _ ([(0, vR 0), (1, vI (wr (x1 + s25))), (3, vI x3), (4, vI x4), (5, vI x5), (6, vI (wr (x6 + s14))), (7, vI x7), (8, vI x8), (9, vI r3)]) _ _ (sub_of [1, 0, 3, 4, 5, 6, 7, 8, 9] rfl) ?_
                      cases hF
                      exact j29
                    · have hF := ite_f hc30 hF
                      refine g_seg hK [.iconst 1] 268 269 (L1 := [(1, vI (wr (x1 + s25))), (0, vR 0), (2, vI x2), (3, vI x3), (4, vI x4), (5, vI x5), (6, vI (wr (x6 + s14))), (7, vI x7), (8, vI x8), (9, vI r3)]) (st1 := [vI 1, vI x2]) (h1 := h23) (P := True ∧ True) (by decide +kernel) rfl rfl ⟨trivial, trivial⟩ ?_
                      refine hK.2.1 _ _ ([(0, vR 0), (1, vI (wr (x1 + s25))), (3, vI x3), (4, vI x4), (5, vI x5), (6, vI (wr (x6 + s14))), (7, vI x7), (8, vI x8), (9, vI r3)]) _ _ (sub_of [1, 0, 3, 4, 5, 6, 7, 8, 9] rfl) ?_
                      cases hF
                      exact j29
                  clear hF
                  have hF := e44
                  refine g_icmp hK 247 .ne (7) 254 (t1 := 250) (t2 := 254) (by decide +kernel) (by decide) rfl rfl (fun (hc27 : r3 = 2) => ?_) (fun (hc27 : ¬ (r3 = 2)) => ?_)
                  · have hF := ite_t hc27 hF
                    refine g_seg hK [.iconst 0] 250 251 (L1 := [(0, vR 0), (1, vI x1), (2, vI x2), (3, vI x3), (4, vI x4), (5, vI x5), (6, vI (wr (x6 + s14))), (7, vI x7), (8, vI x8), (9, vI r3)]) (st1 := [vI 0, vI x1]) (h1 := h23) (P := True ∧ True) (by decide +kernel) rfl rfl ⟨trivial, trivial⟩ ?_
                    refine g_goto hK 251 (4) 255 (by decide +kernel) (by decide) ?_
                    refine hK.2.1 _ _ ([(0, vR 0), (2, vI x2), (3, vI x3), (4, vI x4), (5, vI x5), (6, vI (wr (x6 + s14))), (7, vI x7), (8, vI x8), (9, vI r3)]) _ _ (sub_of [0, 2, 3, 4, 5, 6, 7, 8, 9] rfl) ?_
                    cases hF
                    exact j26
                  · have hF := ite_f hc27 hF
                    refine g_seg hK [.iconst 1] 254 255 (L1 := [(0, vR 0), (1, vI x1), (2, vI x2), (3, vI x3), (4, vI x4), (5, vI x5), (6, vI (wr (x6 + s14))), (7, vI x7), (8, vI x8), (9, vI r3)]) (st1 := [vI 1, vI x1]) (h1 := h23) (P := True ∧ True) (by decide +kernel) rfl rfl ⟨trivial, trivial⟩ ?_
                    refine hK.2.1 _ _ ([(0, vR 0), (2, vI x2), (3, vI x3), (4, vI x4), (5, vI x5), (6, vI (wr (x6 + s14))), (7, vI x7), (8, vI x8), (9, vI r3)]) _ _ (sub_of [0, 2, 3, 4, 5, 6, 7, 8, 9] rfl) ?_
                    cases hF
                    exact j26
                refine g_ifz hK 226 .eq (17) 243 (t1 := 243) (t2 := 229) (by decide +kernel) (by decide) rfl rfl (fun (hc46 : s11 = 0) => ?_) (fun (hc46 : ¬ (s11 = 0)) => ?_)
                · have hF := ite_t hc46 hF
                  refine hK.2.1 _ _ ([(0, vR 0), (1, vI x1), (2, vI x2), (3, vI x3), (4, vI x4), (5, vI x5), (6, vI (wr (x6 + s14))), (7, vI x7), (8, vI x8), (9, vI r3)]) _ _ (sub_of [1, 2, 3, 4, 5, 6, 7, 8, 9, 10] rfl) ?_
                  exact j24 _ hF
                · have hF := ite_f hc46 hF
                  refine g_seg hK [.aload_n 0, .iload 6, .iconst 0] 229 233 (L1 := [(12, vI s19), (0, vR 0), (1, vI x1), (2, vI x2), (3, vI x3), (4, vI x4), (5, vI x5), (6, vI (wr (x6 + s14))), (7, vI x7), (8, vI x8), (9, vI r3), (11, vI s11)]) (st1 := [vI 0, vI (wr (x6 + s14)), vR 0]) (h1 := h20) (P := True ∧ True ∧ True ∧ True) (by decide +kernel) rfl rfl ⟨trivial, trivial, trivial, trivial⟩ ?_
                  obtain ⟨r47, h48, e49, hF⟩ := ob2_elim hF
                  refine g_callV1 hK 233 21 (d1 := 6) (ci := 6) (i := 0) (vs := [vI (wr (x6 + s14)), vI 0]) (rest := []) (h1 := h48) (r := vI r47) my_yX6_hunk vw_X9_21 (by decide) (T_X_hunk (p1 := (wr (x6 + s14))) (p2 := 0) (h := h20) (hF := e49)) rfl rfl rfl (Nat.le_of_ble_eq_true rfl) (by decide +kernel) ?_
                  refine g_seg hK [.iload 8] 236 238 (L1 := [(12, vI s19), (0, vR 0), (1, vI x1), (2, vI x2), (3, vI x3), (4, vI x4), (5, vI x5), (6, vI (wr (x6 + s14))), (7, vI x7), (8, vI x8), (9, vI r3), (11, vI s11)]) (st1 := [vI x8, vI r47]) (h1 := h48) (P := True ∧ True) (by decide +kernel) rfl rfl ⟨trivial, trivial⟩ ?_
                  refine g_icmp hK 238 .eq (5) 243 (t1 := 243) (t2 := 241) (by decide +kernel) (by decide) rfl rfl (fun (hc50 : r47 = x8) => ?_) (fun (hc50 : ¬ (r47 = x8)) => ?_)
                  · have hF := ite_t hc50 hF
                    refine hK.2.1 _ _ ([(0, vR 0), (1, vI x1), (2, vI x2), (3, vI x3), (4, vI x4), (5, vI x5), (6, vI (wr (x6 + s14))), (7, vI x7), (8, vI x8), (9, vI r3)]) _ _ (sub_of [1, 2, 3, 4, 5, 6, 7, 8, 9, 10] rfl) ?_
                    exact j24 _ hF
                  · have hF := ite_f hc50 hF
                    refine g_seg hK [.iconst 0] 241 242 (L1 := [(12, vI s19), (0, vR 0), (1, vI x1), (2, vI x2), (3, vI x3), (4, vI x4), (5, vI x5), (6, vI (wr (x6 + s14))), (7, vI x7), (8, vI x8), (9, vI r3), (11, vI s11)]) (st1 := [vI 0]) (h1 := h48) (P := True ∧ True) (by decide +kernel) rfl rfl ⟨trivial, trivial⟩ ?_
                    cases hF
                    exact hR.2.1 242 _ _ _ (by decide +kernel) rfl (by decide) (hRet _ rfl)
            obtain ⟨kj18, e52, hF⟩ := jk1_elim hF
            have j18 : ∀ (h17 : MH), kj18 h17 = some out → K 216 [(0, vR 0), (1, vI x1), (2, vI x2), (3, vI x3), (4, vI x4), (5, vI x5), (6, vI (wr (x6 + s14))), (7, vI x7), (8, vI x8), (9, vI r3), (11, vI s11)] [] h17 := by
              intro h17 hF
              have hF := (e52 h17).symm.trans hF
              refine g_seg hK [.iconst 0] 216 217 (L1 := [(0, vR 0), (1, vI x1), (2, vI x2), (3, vI x3), (4, vI x4), (5, vI x5), (6, vI (wr (x6 + s14))), (7, vI x7), (8, vI x8), (9, vI r3), (11, vI s11)]) (st1 := [vI 0]) (h1 := h17) (P := True ∧ True) (by decide +kernel) rfl rfl ⟨trivial, trivial⟩ ?_
              exact j21 _ _ hF
            refine g_ifz hK 103 .lt (113) 216 (t1 := 216) (t2 := 106) (by decide +kernel) (by decide) rfl rfl (fun (hc53 : r3 < 0) => ?_) (fun (hc53 : ¬ (r3 < 0)) => ?_)
            · have hF := ite_t hc53 hF
              refine hK.2.1 _ _ ([(0, vR 0), (1, vI x1), (2, vI x2), (3, vI x3), (4, vI x4), (5, vI x5), (6, vI (wr (x6 + s14))), (7, vI x7), (8, vI x8), (9, vI r3), (11, vI s11)]) _ _ (sub_of [1, 2, 3, 4, 5, 6, 0, 7, 8, 9, 11] rfl) ?_
              exact j18 _ hF
            · have hF := ite_f hc53 hF
              refine g_seg hK [.iload 9, .iconst 3] 106 109 (L1 := [(6, vI (wr (x6 + s14))), (0, vR 0), (1, vI x1), (2, vI x2), (3, vI x3), (4, vI x4), (5, vI x5), (7, vI x7), (8, vI x8), (9, vI r3), (10, vI r6), (11, vI s11)]) (st1 := [vI 3, vI r3]) (h1 := h12) (P := True ∧ True ∧ True) (by decide +kernel) rfl rfl ⟨trivial, trivial, trivial⟩ ?_
              refine g_icmp hK 109 .ge (107) 216 (t1 := 112) (t2 := 216) (by decide +kernel) (by decide) rfl rfl (fun (hc54 : r3 < 3) => ?_) (fun (hc54 : ¬ (r3 < 3)) => ?_)
              · have hF := ite_t hc54 hF
                refine g_seg hK [.aload_n 0, .iload 8, .iconst 2] 112 116 (L1 := [(6, vI (wr (x6 + s14))), (0, vR 0), (1, vI x1), (2, vI x2), (3, vI x3), (4, vI x4), (5, vI x5), (7, vI x7), (8, vI x8), (9, vI r3), (10, vI r6), (11, vI s11)]) (st1 := [vI 2, vI x8, vR 0]) (h1 := h12) (P := True ∧ True ∧ True ∧ True) (by decide +kernel) rfl rfl ⟨trivial, trivial, trivial, trivial⟩ ?_
                obtain ⟨r55, h56, e57, hF⟩ := ob2_elim hF
                refine g_callV1 hK 116 14 (d1 := 6) (ci := 6) (i := 0) (vs := [vI x8, vI 2]) (rest := []) (h1 := h56) (r := vI r55) my_yX6_view vw_X9_14 (by decide) (T_X_view (p1 := x8) (p2 := 2) (h := h12) (hF := e57)) rfl rfl rfl (Nat.le_of_ble_eq_true rfl) (by decide +kernel) ?_
                refine g_seg hK [.iload 9, .iconst 2] 119 122 (L1 := [(6, vI (wr (x6 + s14))), (0, vR 0), (1, vI x1), (2, vI x2), (3, vI x3), (4, vI x4), (5, vI x5), (7, vI x7), (8, vI x8), (9, vI r3), (10, vI r6), (11, vI s11)]) (st1 := [vI 2, vI r3, vI r55]) (h1 := h56) (P := True ∧ True ∧ True) (by decide +kernel) rfl rfl ⟨trivial, trivial, trivial⟩ ?_
                obtain ⟨s58, e88, hF⟩ := jn1_elim hF
                have j59 : K 131 [(0, vR 0), (1, vI x1), (2, vI x2), (3, vI x3), (4, vI x4), (5, vI x5), (6, vI (wr (x6 + s14))), (7, vI x7), (8, vI x8), (9, vI r3), (10, vI r6), (11, vI s11)] [vI s58, vI r55] h56 := by
                  refine g_icmp hK 131 .ne (85) 216 (t1 := 134) (t2 := 216) (by decide +kernel) (by decide) rfl rfl (fun (hc61 : r55 = s58) => ?_) (fun (hc61 : ¬ (r55 = s58)) => ?_)
                  · have hF := ite_t hc61 hF
                    refine g_seg hK [.aload_n 0, .iload 8, .iconst 3] 134 138 (L1 := [(0, vR 0), (1, vI x1), (2, vI x2), (3, vI x3), (4, vI x4), (5, vI x5), (6, vI (wr (x6 + s14))), (7, vI x7), (8, vI x8), (9, vI r3), (10, vI r6), (11, vI s11)]) (st1 := [vI 3, vI x8, vR 0]) (h1 := h56) (P := True ∧ True ∧ True ∧ True) (by decide +kernel) rfl rfl ⟨trivial, trivial, trivial, trivial⟩ ?_
                    obtain ⟨r62, h63, e64, hF⟩ := ob2_elim hF
                    refine g_callV1 hK 138 14 (d1 := 6) (ci := 6) (i := 0) (vs := [vI x8, vI 3]) (rest := []) (h1 := h63) (r := vI r62) my_yX6_view vw_X9_14 (by decide) (T_X_view (p1 := x8) (p2 := 3) (h := h56) (hF := e64)) rfl rfl rfl (Nat.le_of_ble_eq_true rfl) (by decide +kernel) ?_
                    refine g_seg hK [.iload 9, .iconst 1] 141 144 (L1 := [(0, vR 0), (1, vI x1), (2, vI x2), (3, vI x3), (4, vI x4), (5, vI x5), (6, vI (wr (x6 + s14))), (7, vI x7), (8, vI x8), (9, vI r3), (10, vI r6), (11, vI s11)]) (st1 := [vI 1, vI r3, vI r62]) (h1 := h63) (P := True ∧ True ∧ True) (by decide +kernel) rfl rfl ⟨trivial, trivial, trivial⟩ ?_
                    obtain ⟨s65, e87, hF⟩ := jn1_elim hF
                    have j66 : K 153 [(0, vR 0), (1, vI x1), (2, vI x2), (3, vI x3), (4, vI x4), (5, vI x5), (6, vI (wr (x6 + s14))), (7, vI x7), (8, vI x8), (9, vI r3), (10, vI r6), (11, vI s11)] [vI s65, vI r62] h63 := by
                      refine g_icmp hK 153 .ne (63) 216 (t1 := 156) (t2 := 216) (by decide +kernel) (by decide) rfl rfl (fun (hc68 : r62 = s65) => ?_) (fun (hc68 : ¬ (r62 = s65)) => ?_)
                      · have hF := ite_t hc68 hF
                        refine g_seg hK [.aload_n 0, .iload 8, .iconst 4] 156 160 (L1 := [(0, vR 0), (1, vI x1), (2, vI x2), (3, vI x3), (4, vI x4), (5, vI x5), (6, vI (wr (x6 + s14))), (7, vI x7), (8, vI x8), (9, vI r3), (10, vI r6), (11, vI s11)]) (st1 := [vI 4, vI x8, vR 0]) (h1 := h63) (P := True ∧ True ∧ True ∧ True) (by decide +kernel) rfl rfl ⟨trivial, trivial, trivial, trivial⟩ ?_
                        obtain ⟨r69, h70, e71, hF⟩ := ob2_elim hF
                        refine g_callV1 hK 160 14 (d1 := 6) (ci := 6) (i := 0) (vs := [vI x8, vI 4]) (rest := []) (h1 := h70) (r := vI r69) my_yX6_view vw_X9_14 (by decide) (T_X_view (p1 := x8) (p2 := 4) (h := h63) (hF := e71)) rfl rfl rfl (Nat.le_of_ble_eq_true rfl) (by decide +kernel) ?_
                        refine g_seg hK [.iload 9] 163 165 (L1 := [(0, vR 0), (1, vI x1), (2, vI x2), (3, vI x3), (4, vI x4), (5, vI x5), (6, vI (wr (x6 + s14))), (7, vI x7), (8, vI x8), (9, vI r3), (10, vI r6), (11, vI s11)]) (st1 := [vI r3, vI r69]) (h1 := h70) (P := True ∧ True) (by decide +kernel) rfl rfl ⟨trivial, trivial⟩ ?_
                        obtain ⟨s72, e86, hF⟩ := jn1_elim hF
                        have j73 : K 175 [(0, vR 0), (1, vI x1), (2, vI x2), (3, vI x3), (4, vI x4), (5, vI x5), (6, vI (wr (x6 + s14))), (7, vI x7), (8, vI x8), (9, vI r3), (10, vI r6), (11, vI s11)] [vI s72, vI r69] h70 := by
                          refine g_icmp hK 175 .ne (41) 216 (t1 := 178) (t2 := 216) (by decide +kernel) (by decide) rfl rfl (fun (hc75 : r69 = s72) => ?_) (fun (hc75 : ¬ (r69 = s72)) => ?_)
                          · have hF := ite_t hc75 hF
                            refine g_seg hK [.iload 9, .iconst 2] 178 181 (L1 := [(0, vR 0), (1, vI x1), (2, vI x2), (3, vI x3), (4, vI x4), (5, vI x5), (6, vI (wr (x6 + s14))), (7, vI x7), (8, vI x8), (9, vI r3), (10, vI r6), (11, vI s11)]) (st1 := [vI 2, vI r3]) (h1 := h70) (P := True ∧ True ∧ True) (by decide +kernel) rfl rfl ⟨trivial, trivial, trivial⟩ ?_
                            obtain ⟨kj77, e83, hF⟩ := jk1_elim hF
                            have j77 : ∀ (u76 : Unit), kj77 u76 = some out → K 195 [(0, vR 0), (1, vI x1), (2, vI x2), (3, vI x3), (4, vI x4), (5, vI x5), (6, vI (wr (x6 + s14))), (7, vI x7), (8, vI x8), (9, vI r3), (10, vI r6), (11, vI s11)] [] h70 := by
                              intro u76 hF
                              have hF := (e83 u76).symm.trans hF
                              refine g_seg hK [.iload 9, .iconst 1] 195 198 (L1 := [(0, vR 0), (1, vI x1), (2, vI x2), (3, vI x3), (4, vI x4), (5, vI x5), (6, vI (wr (x6 + s14))), (7, vI x7), (8, vI x8), (9, vI r3), (10, vI r6), (11, vI s11)]) (st1 := [vI 1, vI r3]) (h1 := h70) (P := True ∧ True ∧ True) (by decide +kernel) rfl rfl ⟨trivial, trivial, trivial⟩ ?_
                              obtain ⟨kj79, e80, hF⟩ := jk1_elim hF
                              have j79 : ∀ (u78 : Unit), kj79 u78 = some out → K 212 [(0, vR 0), (1, vI x1), (2, vI x2), (3, vI x3), (4, vI x4), (5, vI x5), (6, vI (wr (x6 + s14))), (7, vI x7), (8, vI x8), (9, vI r3), (11, vI s11)] [] h70 := by
                                intro u78 hF
                                have hF := (e80 u78).symm.trans hF
                                refine g_seg hK [.iconst 1] 212 213 (L1 := [(0, vR 0), (1, vI x1), (2, vI x2), (3, vI x3), (4, vI x4), (5, vI x5), (6, vI (wr (x6 + s14))), (7, vI x7), (8, vI x8), (9, vI r3), (11, vI s11)]) (st1 := [vI 1]) (h1 := h70) (P := True ∧ True) (by decide +kernel) rfl rfl ⟨trivial, trivial⟩ ?_
                                refine g_goto hK 213 (4) 217 (by decide +kernel) (by decide) ?_
                                exact j21 _ _ hF
                              refine g_icmp hK 198 .eq (14) 212 (t1 := 212) (t2 := 201) (by decide +kernel) (by decide) rfl rfl (fun (hc81 : r3 = 1) => ?_) (fun (hc81 : ¬ (r3 = 1)) => ?_)
                              · have hF := ite_t hc81 hF
                                refine hK.2.1 _ _ ([(0, vR 0), (1, vI x1), (2, vI x2), (3, vI x3), (4, vI x4), (5, vI x5), (6, vI (wr (x6 + s14))), (7, vI x7), (8, vI x8), (9, vI r3), (11, vI s11)]) _ _ (sub_of [0, 1, 2, 3, 4, 5, 6, 7, 8, 9, 11] rfl) ?_
                                exact j79 _ hF
                              · have hF := ite_f hc81 hF
                                refine g_seg hK [.aload_n 0, .iconst 1, .iload_n 2] 201 204 (L1 := [(0, vR 0), (1, vI x1), (2, vI x2), (3, vI x3), (4, vI x4), (5, vI x5), (6, vI (wr (x6 + s14))), (7, vI x7), (8, vI x8), (9, vI r3), (10, vI r6), (11, vI s11)]) (st1 := [vI x2, vI 1, vR 0]) (h1 := h70) (P := True ∧ True ∧ True ∧ True) (by decide +kernel) rfl rfl ⟨trivial, trivial, trivial, trivial⟩ ?_
                                refine g_callV1 hK 204 18 (d1 := 1) (ci := 6) (i := 0) (vs := [vI 1, vI x2]) (rest := []) (h1 := h70) (r := vI (F_X_line 1 x2 h70)) my_yX6_line vw_X9_18 (by decide) (T_X_line (p1 := 1) (p2 := x2) (h := h70) (hF := rfl)) rfl rfl rfl (Nat.le_of_ble_eq_true rfl) (by decide +kernel) ?_
                                refine g_seg hK [.iload 10] 207 209 (L1 := [(0, vR 0), (1, vI x1), (2, vI x2), (3, vI x3), (4, vI x4), (5, vI x5), (6, vI (wr (x6 + s14))), (7, vI x7), (8, vI x8), (9, vI r3), (10, vI r6), (11, vI s11)]) (st1 := [vI r6, vI (F_X_line 1 x2 h70)]) (h1 := h70) (P := True ∧ True) (by decide +kernel) rfl rfl ⟨trivial, trivial⟩ ?_
                                refine g_icmp hK 209 .ne (7) 216 (t1 := 212) (t2 := 216) (by decide +kernel) (by decide) rfl rfl (fun (hc82 : F_X_line 1 x2 h70 = r6) => ?_) (fun (hc82 : ¬ (F_X_line 1 x2 h70 = r6)) => ?_)
                                · have hF := ite_t hc82 hF
                                  refine hK.2.1 _ _ ([(0, vR 0), (1, vI x1), (2, vI x2), (3, vI x3), (4, vI x4), (5, vI x5), (6, vI (wr (x6 + s14))), (7, vI x7), (8, vI x8), (9, vI r3), (11, vI s11)]) _ _ (sub_of [0, 1, 2, 3, 4, 5, 6, 7, 8, 9, 11] rfl) ?_
                                  exact j79 _ hF
                                · have hF := ite_f hc82 hF
                                  refine hK.2.1 _ _ ([(0, vR 0), (1, vI x1), (2, vI x2), (3, vI x3), (4, vI x4), (5, vI x5), (6, vI (wr (x6 + s14))), (7, vI x7), (8, vI x8), (9, vI r3), (11, vI s11)]) _ _ (sub_of [0, 1, 2, 3, 4, 5, 6, 7, 8, 9, 11] rfl) ?_
                                  exact j18 _ hF
                            refine g_icmp hK 181 .eq (14) 195 (t1 := 195) (t2 := 184) (by decide +kernel) (by decide) rfl rfl (fun (hc84 : r3 = 2) => ?_) (fun (hc84 : ¬ (r3 = 2)) => ?_)
                            · have hF := ite_t hc84 hF
                              exact j77 _ hF
                            · have hF := ite_f hc84 hF
                              refine g_seg hK [.aload_n 0, .iconst 0, .iload_n 1] 184 187 (L1 := [(0, vR 0), (1, vI x1), (2, vI x2), (3, vI x3), (4, vI x4), (5, vI x5), (6, vI (wr (x6 + s14))), (7, vI x7), (8, vI x8), (9, vI r3), (10, vI r6), (11, vI s11)]) (st1 := [vI x1, vI 0, vR 0]) (h1 := h70) (P := True ∧ True ∧ True ∧ True) (by decide +kernel) rfl rfl ⟨trivial, trivial, trivial, trivial⟩ ?_
                              refine g_callV1 hK 187 18 (d1 := 1) (ci := 6) (i := 0) (vs := [vI 0, vI x1]) (rest := []) (h1 := h70) (r := vI (F_X_line 0 x1 h70)) my_yX6_line vw_X9_18 (by decide) (T_X_line (p1 := 0) (p2 := x1) (h := h70) (hF := rfl)) rfl rfl rfl (Nat.le_of_ble_eq_true rfl) (by decide +kernel) ?_
                              refine g_seg hK [.iload 10] 190 192 (L1 := [(0, vR 0), (1, vI x1), (2, vI x2), (3, vI x3), (4, vI x4), (5, vI x5), (6, vI (wr (x6 + s14))), (7, vI x7), (8, vI x8), (9, vI r3), (10, vI r6), (11, vI s11)]) (st1 := [vI r6, vI (F_X_line 0 x1 h70)]) (h1 := h70) (P := True ∧ True) (by decide +kernel) rfl rfl ⟨trivial, trivial⟩ ?_
                              refine g_icmp hK 192 .ne (24) 216 (t1 := 195) (t2 := 216) (by decide +kernel) (by decide) rfl rfl (fun (hc85 : F_X_line 0 x1 h70 = r6) => ?_) (fun (hc85 : ¬ (F_X_line 0 x1 h70 = r6)) => ?_)
                              · have hF := ite_t hc85 hF
                                exact j77 _ hF
                              · have hF := ite_f hc85 hF
                                refine hK.2.1 _ _ ([(0, vR 0), (1, vI x1), (2, vI x2), (3, vI x3), (4, vI x4), (5, vI x5), (6, vI (wr (x6 + s14))), (7, vI x7), (8, vI x8), (9, vI r3), (11, vI s11)]) _ _ (sub_of [0, 1, 2, 3, 4, 5, 6, 7, 8, 9, 11] rfl) ?_
                                exact j18 _ hF
                          · have hF := ite_f hc75 hF
                            refine hK.2.1 _ _ ([(0, vR 0), (1, vI x1), (2, vI x2), (3, vI x3), (4, vI x4), (5, vI x5), (6, vI (wr (x6 + s14))), (7, vI x7), (8, vI x8), (9, vI r3), (11, vI s11)]) _ _ (sub_of [0, 1, 2, 3, 4, 5, 6, 7, 8, 9, 11] rfl) ?_
                            exact j18 _ hF
                        clear hF
                        have hF := e86
                        refine g_ifz hK 165 .ne (8) 173 (t1 := 168) (t2 := 173) (by decide +kernel) (by decide) rfl rfl (fun (hc74 : r3 = 0) => ?_) (fun (hc74 : ¬ (r3 = 0)) => ?_)
                        · have hF := ite_t hc74 hF
                          refine g_seg hK [.bipush (-4)] 168 170 (L1 := [(0, vR 0), (1, vI x1), (2, vI x2), (3, vI x3), (4, vI x4), (5, vI x5), (6, vI (wr (x6 + s14))), (7, vI x7), (8, vI x8), (9, vI r3), (10, vI r6), (11, vI s11)]) (st1 := [vI (-4), vI r69]) (h1 := h70) (P := True ∧ True) (by decide +kernel) rfl rfl ⟨trivial, trivial⟩ ?_
                          refine g_goto hK 170 (5) 175 (by decide +kernel) (by decide) ?_
                          cases hF
                          exact j73
                        · have hF := ite_f hc74 hF
                          refine g_seg hK [.iload 6] 173 175 (L1 := [(0, vR 0), (1, vI x1), (2, vI x2), (3, vI x3), (4, vI x4), (5, vI x5), (6, vI (wr (x6 + s14))), (7, vI x7), (8, vI x8), (9, vI r3), (10, vI r6), (11, vI s11)]) (st1 := [vI (wr (x6 + s14)), vI r69]) (h1 := h70) (P := True ∧ True) (by decide +kernel) rfl rfl ⟨trivial, trivial⟩ ?_
                          cases hF
                          exact j73
                      · have hF := ite_f hc68 hF
                        refine hK.2.1 _ _ ([(0, vR 0), (1, vI x1), (2, vI x2), (3, vI x3), (4, vI x4), (5, vI x5), (6, vI (wr (x6 + s14))), (7, vI x7), (8, vI x8), (9, vI r3), (11, vI s11)]) _ _ (sub_of [0, 1, 2, 3, 4, 5, 6, 7, 8, 9, 11] rfl) ?_
                        exact j18 _ hF
                    clear hF
                    have hF := e87
                    refine g_icmp hK 144 .ne (8) 152 (t1 := 147) (t2 := 152) (by decide +kernel) (by decide) rfl rfl (fun (hc67 : r3 = 1) => ?_) (fun (hc67 : ¬ (r3 = 1)) => ?_)
                    · have hF := ite_t hc67 hF
                      refine g_seg hK [.bipush (-4)] 147 149 (L1 := [(0, vR 0), (1, vI x1), (2, vI x2), (3, vI x3), (4, vI x4), (5, vI x5), (6, vI (wr (x6 + s14))), (7, vI x7), (8, vI x8), (9, vI r3), (10, vI r6), (11, vI s11)]) (st1 := [vI (-4), vI r62]) (h1 := h63) (P := True ∧ True) (by decide +kernel) rfl rfl ⟨trivial, trivial⟩ ?_
                      refine g_goto hK 149 (4) 153 (by decide +kernel) (by decide) ?_
                      cases hF
                      exact j66
                    · have hF := ite_f hc67 hF
                      refine g_seg hK [.iload_n 2] 152 153 (L1 := [(0, vR 0), (1, vI x1), (2, vI x2), (3, vI x3), (4, vI x4), (5, vI x5), (6, vI (wr (x6 + s14))), (7, vI x7), (8, vI x8), (9, vI r3), (10, vI r6), (11, vI s11)]) (st1 := [vI x2, vI r62]) (h1 := h63) (P := True ∧ True) (by decide +kernel) rfl rfl ⟨trivial, trivial⟩ ?_
                      cases hF
                      exact j66
                  · have hF := ite_f hc61 hF
                    refine hK.2.1 _ _ ([(0, vR 0), (1, vI x1), (2, vI x2), (3, vI x3), (4, vI x4), (5, vI x5), (6, vI (wr (x6 + s14))), (7, vI x7), (8, vI x8), (9, vI r3), (11, vI s11)]) _ _ (sub_of [0, 1, 2, 3, 4, 5, 6, 7, 8, 9, 11] rfl) ?_
                    exact j18 _ hF
                clear hF
                have hF := e88
                refine g_icmp hK 122 .ne (8) 130 (t1 := 125) (t2 := 130) (by decide +kernel) (by decide) rfl rfl (fun (hc60 : r3 = 2) => ?_) (fun (hc60 : ¬ (r3 = 2)) => ?_)
                · have hF := ite_t hc60 hF
                  refine g_seg hK [.bipush (-4)] 125 127 (L1 := [(6, vI (wr (x6 + s14))), (0, vR 0), (1, vI x1), (2, vI x2), (3, vI x3), (4, vI x4), (5, vI x5), (7, vI x7), (8, vI x8), (9, vI r3), (10, vI r6), (11, vI s11)]) (st1 := [vI (-4), vI r55]) (h1 := h56) (P := True ∧ True) (by decide +kernel) rfl rfl ⟨trivial, trivial⟩ ?_
                  refine g_goto hK 127 (4) 131 (by decide +kernel) (by decide) ?_
                  refine hK.2.1 _ _ ([(0, vR 0), (1, vI x1), (2, vI x2), (3, vI x3), (4, vI x4), (5, vI x5), (6, vI (wr (x6 + s14))), (7, vI x7), (8, vI x8), (9, vI r3), (10, vI r6), (11, vI s11)]) _ _ (sub_of [1, 2, 3, 4, 5, 6, 0, 7, 8, 9, 10, 11] rfl) ?_
                  cases hF
                  exact j59
                · have hF := ite_f hc60 hF
                  refine g_seg hK [.iload_n 1] 130 131 (L1 := [(6, vI (wr (x6 + s14))), (0, vR 0), (1, vI x1), (2, vI x2), (3, vI x3), (4, vI x4), (5, vI x5), (7, vI x7), (8, vI x8), (9, vI r3), (10, vI r6), (11, vI s11)]) (st1 := [vI x1, vI r55]) (h1 := h56) (P := True ∧ True) (by decide +kernel) rfl rfl ⟨trivial, trivial⟩ ?_
                  refine hK.2.1 _ _ ([(0, vR 0), (1, vI x1), (2, vI x2), (3, vI x3), (4, vI x4), (5, vI x5), (6, vI (wr (x6 + s14))), (7, vI x7), (8, vI x8), (9, vI r3), (10, vI r6), (11, vI s11)]) _ _ (sub_of [1, 2, 3, 4, 5, 6, 0, 7, 8, 9, 10, 11] rfl) ?_
                  cases hF
                  exact j59
              · have hF := ite_f hc54 hF
                refine hK.2.1 _ _ ([(0, vR 0), (1, vI x1), (2, vI x2), (3, vI x3), (4, vI x4), (5, vI x5), (6, vI (wr (x6 + s14))), (7, vI x7), (8, vI x8), (9, vI r3), (11, vI s11)]) _ _ (sub_of [1, 2, 3, 4, 5, 6, 0, 7, 8, 9, 11] rfl) ?_
                exact j18 _ hF
          clear hF
          have hF := e89
          refine g_ifz hK 90 .eq (7) 97 (t1 := 97) (t2 := 93) (by decide +kernel) (by decide) rfl rfl (fun (hc16 : s11 = 0) => ?_) (fun (hc16 : ¬ (s11 = 0)) => ?_)
          · have hF := ite_t hc16 hF
            refine g_seg hK [.iconst 0] 97 98 (L1 := [(11, vI s11), (0, vR 0), (1, vI x1), (2, vI x2), (3, vI x3), (4, vI x4), (5, vI x5), (6, vI x6), (7, vI x7), (8, vI x8), (9, vI r3), (10, vI r6)]) (st1 := [vI 0, vI x6]) (h1 := h12) (P := True ∧ True) (by decide +kernel) rfl rfl ⟨trivial, trivial⟩ ?_
            refine hK.2.1 _ _ ([(0, vR 0), (1, vI x1), (2, vI x2), (3, vI x3), (4, vI x4), (5, vI x5), (7, vI x7), (8, vI x8), (9, vI r3), (10, vI r6), (11, vI s11)]) _ _ (sub_of [1, 2, 3, 4, 5, 6, 8, 9, 10, 11, 0] rfl) ?_
            cases hF
            exact j15
          · have hF := ite_f hc16 hF
            refine g_seg hK [.iconst 1] 93 94 (L1 := [(11, vI s11), (0, vR 0), (1, vI x1), (2, vI x2), (3, vI x3), (4, vI x4), (5, vI x5), (6, vI x6), (7, vI x7), (8, vI x8), (9, vI r3), (10, vI r6)]) (st1 := [vI 1, vI x6]) (h1 := h12) (P := True ∧ True) (by decide +kernel) rfl rfl ⟨trivial, trivial⟩ ?_
            refine g_goto hK 94 (4) 98 (by decide +kernel) (by decide) ?_
            refine hK.2.1 _ _ ([(0, vR 0), (1, vI x1), (2, vI x2), (3, vI x3), (4, vI x4), (5, vI x5), (7, vI x7), (8, vI x8), (9, vI r3), (10, vI r6), (11, vI s11)]) _ _ (sub_of [1, 2, 3, 4, 5, 6, 8, 9, 10, 11, 0] rfl) ?_
            cases hF
            exact j15
        obtain ⟨kj10, e91, hF⟩ := jk1_elim hF
        have j10 : ∀ (h9 : MH), kj10 h9 = some out → K 83 [(0, vR 0), (1, vI x1), (2, vI x2), (3, vI x3), (4, vI x4), (5, vI x5), (6, vI x6), (7, vI x7), (8, vI x8), (9, vI r3), (10, vI r6)] [] h9 := by
          intro h9 hF
          have hF := (e91 h9).symm.trans hF
          refine g_seg hK [.iconst 0] 83 84 (L1 := [(0, vR 0), (1, vI x1), (2, vI x2), (3, vI x3), (4, vI x4), (5, vI x5), (6, vI x6), (7, vI x7), (8, vI x8), (9, vI r3), (10, vI r6)]) (st1 := [vI 0]) (h1 := h9) (P := True ∧ True) (by decide +kernel) rfl rfl ⟨trivial, trivial⟩ ?_
          exact j13 _ _ hF
        refine g_ifz hK 59 .le (24) 83 (t1 := 83) (t2 := 62) (by decide +kernel) (by decide) rfl rfl (fun (hc92 : r3 ≤ 0) => ?_) (fun (hc92 : ¬ (r3 ≤ 0)) => ?_)
        · have hF := ite_t hc92 hF
          refine hK.2.1 _ _ ([(0, vR 0), (1, vI x1), (2, vI x2), (3, vI x3), (4, vI x4), (5, vI x5), (6, vI x6), (7, vI x7), (8, vI x8), (9, vI r3), (10, vI r6)]) _ _ (sub_of [2, 3, 4, 5, 6, 7, 8, 9, 10, 1, 0] rfl) ?_
          exact j10 _ hF
        · have hF := ite_f hc92 hF
          refine g_seg hK [.iload 8] 62 64 (L1 := [(10, vI r6), (9, vI r3), (0, vR 0), (1, vI x1), (2, vI x2), (3, vI x3), (4, vI x4), (5, vI x5), (6, vI x6), (7, vI x7), (8, vI x8)]) (st1 := [vI x8]) (h1 := h7) (P := True ∧ True) (by decide +kernel) rfl rfl ⟨trivial, trivial⟩ ?_
          obtain ⟨kj94, e95, hF⟩ := jk1_elim hF
          have j94 : ∀ (h93 : MH), kj94 h93 = some out → K 79 [(0, vR 0), (1, vI x1), (2, vI x2), (3, vI x3), (4, vI x4), (5, vI x5), (6, vI x6), (7, vI x7), (8, vI x8), (9, vI r3), (10, vI r6)] [] h93 := by
            intro h93 hF
            have hF := (e95 h93).symm.trans hF
            refine g_seg hK [.iconst 1] 79 80 (L1 := [(0, vR 0), (1, vI x1), (2, vI x2), (3, vI x3), (4, vI x4), (5, vI x5), (6, vI x6), (7, vI x7), (8, vI x8), (9, vI r3), (10, vI r6)]) (st1 := [vI 1]) (h1 := h93) (P := True ∧ True) (by decide +kernel) rfl rfl ⟨trivial, trivial⟩ ?_
            refine g_goto hK 80 (4) 84 (by decide +kernel) (by decide) ?_
            exact j13 _ _ hF
          refine g_ifz hK 64 .eq (15) 79 (t1 := 79) (t2 := 67) (by decide +kernel) (by decide) rfl rfl (fun (hc96 : x8 = 0) => ?_) (fun (hc96 : ¬ (x8 = 0)) => ?_)
          · have hF := ite_t hc96 hF
            refine hK.2.1 _ _ ([(0, vR 0), (1, vI x1), (2, vI x2), (3, vI x3), (4, vI x4), (5, vI x5), (6, vI x6), (7, vI x7), (8, vI x8), (9, vI r3), (10, vI r6)]) _ _ (sub_of [2, 3, 4, 5, 6, 7, 8, 9, 10, 1, 0] rfl) ?_
            exact j94 _ hF
          · have hF := ite_f hc96 hF
            refine g_seg hK [.aload_n 0, .iload 8, .iconst 1, .isub, .iconst 0] 67 73 (L1 := [(10, vI r6), (9, vI r3), (0, vR 0), (1, vI x1), (2, vI x2), (3, vI x3), (4, vI x4), (5, vI x5), (6, vI x6), (7, vI x7), (8, vI x8)]) (st1 := [vI 0, vI (wr (x8 - 1)), vR 0]) (h1 := h7) (P := True ∧ True ∧ True ∧ True ∧ True ∧ True) (by decide +kernel) rfl rfl ⟨trivial, trivial, trivial, trivial, trivial, trivial⟩ ?_
            obtain ⟨r97, h98, e99, hF⟩ := ob2_elim hF
            refine g_callV1 hK 73 14 (d1 := 6) (ci := 6) (i := 0) (vs := [vI (wr (x8 - 1)), vI 0]) (rest := []) (h1 := h98) (r := vI r97) my_yX6_view vw_X9_14 (by decide) (T_X_view (p1 := (wr (x8 - 1))) (p2 := 0) (h := h7) (hF := e99)) rfl rfl rfl (Nat.le_of_ble_eq_true rfl) (by decide +kernel) ?_
            refine g_ifz hK 76 .ne (7) 83 (t1 := 79) (t2 := 83) (by decide +kernel) (by decide) rfl rfl (fun (hc100 : r97 = 0) => ?_) (fun (hc100 : ¬ (r97 = 0)) => ?_)
            · have hF := ite_t hc100 hF
              refine hK.2.1 _ _ ([(0, vR 0), (1, vI x1), (2, vI x2), (3, vI x3), (4, vI x4), (5, vI x5), (6, vI x6), (7, vI x7), (8, vI x8), (9, vI r3), (10, vI r6)]) _ _ (sub_of [2, 3, 4, 5, 6, 7, 8, 9, 10, 1, 0] rfl) ?_
              exact j94 _ hF
            · have hF := ite_f hc100 hF
              refine hK.2.1 _ _ ([(0, vR 0), (1, vI x1), (2, vI x2), (3, vI x3), (4, vI x4), (5, vI x5), (6, vI x6), (7, vI x7), (8, vI x8), (9, vI r3), (10, vI r6)]) _ _ (sub_of [2, 3, 4, 5, 6, 7, 8, 9, 10, 1, 0] rfl) ?_
              exact j10 _ hF
      · have hF := ite_f hc2 hF
        cases hF
        exact hE _ rfl
    · have hF := ite_f hc1 hF
      cases hF
      exact hE _ rfl
set_option maxHeartbeats 4000000 in
set_option maxRecDepth 100000 in
theorem T_L_isView {h : MH} {r : Int} {h' : MH} (hF : F_L_isView h = some (r, h')) : CON 7 yL_isView cL_isView 13 (Option.some Jvm.ClassFile.FieldType.boolean) [vR 0] h (some (vI r)) h' := by
  refine con_of (own := RX9) (fl := flX9) (by decide +kernel) rfl flok_X9 rfl (Nat.le_of_ble_eq_true rfl) ?_
  intro K hK hR
  show K 0 [(0, vR 0)] [] h
  unfold F_L_isView at hF
  refine g_seg hK [.iconst 0, .istore_n 1, .iconst 0, .istore_n 2, .iconst 0, .istore_n 3, .iconst 0, .istore 4, .iconst 0, .istore 5, .iconst (-1), .istore 6, .aload_n 0, .iconst 3] 0 17 (L1 := [(6, vI (-1)), (5, vI 0), (4, vI 0), (3, vI 0), (2, vI 0), (1, vI 0), (0, vR 0)]) (st1 := [vI 3, vR 0]) (h1 := h) (P := True ∧ True ∧ True ∧ True ∧ True ∧ True ∧ True ∧ True ∧ True ∧ True ∧ True ∧ True ∧ True ∧ True ∧ True) (by decide +kernel) rfl rfl ⟨trivial, trivial, trivial, trivial, trivial, trivial, trivial, trivial, trivial, trivial, trivial, trivial, trivial, trivial, trivial⟩ ?_
  obtain ⟨r1, h2, e3, hF⟩ := ob2_elim hF
  refine g_callV1 hK 17 8 (d1 := 6) (ci := 6) (i := 0) (vs := [vI 3]) (rest := []) (h1 := h2) (r := vI r1) my_yX6_count vw_X9_8 (by decide) (T_X_count (p1 := 3) (h := h) (hF := e3)) rfl rfl rfl (Nat.le_of_ble_eq_true rfl) (by decide +kernel) ?_
  refine g_seg hK [.istore 7, .iconst 0, .istore 8] 20 25 (L1 := [(8, vI 0), (7, vI r1), (6, vI (-1)), (5, vI 0), (4, vI 0), (3, vI 0), (2, vI 0), (1, vI 0), (0, vR 0)]) (st1 := []) (h1 := h2) (P := True ∧ True ∧ True ∧ True) (by decide +kernel) rfl rfl ⟨trivial, trivial, trivial, trivial⟩ ?_
  refine hK.2.1 _ _ ([(0, vR 0), (1, vI 0), (2, vI 0), (3, vI 0), (4, vI 0), (5, vI 0), (6, vI (-1)), (7, vI r1), (8, vI 0)]) _ _ (sub_of [8, 7, 6, 5, 4, 3, 2, 1, 0] rfl) ?_
  obtain ⟨out14, e12, hr15, hx16⟩ := os_elim hF
  refine LT_L_isView_L25 hK hR _ _ _ _ _ _ _ _ _ out14 e12 ?_ ?_
  · intro a ha
    have hF := hr15 a ha
    cases hF
    exact ⟨rfl, rfl⟩
  · intro q13 hq
    have hF := hx16 q13 hq
    refine g_seg hK [.iload 7, .iload_n 3, .isub, .istore 8, .iload_n 1, .aload_n 0, .iconst 0] 321 330 (L1 := [(8, vI (wr (r1 - q13.2.2.1))), (0, vR 0), (1, vI q13.1), (2, vI q13.2.1), (3, vI q13.2.2.1), (4, vI q13.2.2.2.1), (5, vI q13.2.2.2.2.1), (6, vI q13.2.2.2.2.2.1), (7, vI r1)]) (st1 := [vI 0, vR 0, vI q13.1]) (h1 := q13.2.2.2.2.2.2.2) (P := True ∧ True ∧ True ∧ True ∧ True ∧ True ∧ True ∧ True) (by decide +kernel) rfl rfl ⟨trivial, trivial, trivial, trivial, trivial, trivial, trivial, trivial⟩ ?_
    obtain ⟨r17, h18, e19, hF⟩ := ob2_elim hF
    refine g_callV1 hK 330 8 (d1 := 6) (ci := 6) (i := 0) (vs := [vI 0]) (rest := [vI q13.1]) (h1 := h18) (r := vI r17) my_yX6_count vw_X9_8 (by decide) (T_X_count (p1 := 0) (h := q13.2.2.2.2.2.2.2) (hF := e19)) rfl rfl rfl (Nat.le_of_ble_eq_true rfl) (by decide +kernel) ?_
    obtain ⟨kj24, e48, hF⟩ := jk2_elim hF
    have j24 : ∀ (s22 : Int) (h23 : MH), kj24 s22 h23 = some (r, h') → K 408 [(0, vR 0), (1, vI q13.1), (2, vI q13.2.1), (3, vI q13.2.2.1), (7, vI r1), (8, vI (wr (r1 - q13.2.2.1)))] [vI s22] h23 := by
      intro s22 h23 hF
      have hF := (e48 s22 h23).symm.trans hF
      refine g_seg hK [.istore 9, .iload 9] 408 412 (L1 := [(9, vI s22), (0, vR 0), (1, vI q13.1), (2, vI q13.2.1), (3, vI q13.2.2.1), (7, vI r1), (8, vI (wr (r1 - q13.2.2.1)))]) (st1 := [vI s22]) (h1 := h23) (P := True ∧ True ∧ True) (by decide +kernel) rfl rfl ⟨trivial, trivial, trivial⟩ ?_
      refine g_ifz hK 412 .eq (68) 480 (t1 := 480) (t2 := 415) (by decide +kernel) (by decide) rfl rfl (fun (hc25 : s22 = 0) => ?_) (fun (hc25 : ¬ (s22 = 0)) => ?_)
      · have hF := ite_t hc25 hF
        refine g_seg hK [.iconst 0] 480 481 (L1 := [(9, vI s22), (0, vR 0), (1, vI q13.1), (2, vI q13.2.1), (3, vI q13.2.2.1), (7, vI r1), (8, vI (wr (r1 - q13.2.2.1)))]) (st1 := [vI 0]) (h1 := h23) (P := True ∧ True) (by decide +kernel) rfl rfl ⟨trivial, trivial⟩ ?_
        cases hF
        exact hR.2.1 481 _ _ _ (by decide +kernel) rfl (by decide) ⟨rfl, rfl⟩
      · have hF := ite_f hc25 hF
        refine g_seg hK [.aload_n 0, .iconst 0] 415 417 (L1 := [(9, vI s22), (0, vR 0), (1, vI q13.1), (2, vI q13.2.1), (3, vI q13.2.2.1), (7, vI r1), (8, vI (wr (r1 - q13.2.2.1)))]) (st1 := [vI 0, vR 0]) (h1 := h23) (P := True ∧ True ∧ True) (by decide +kernel) rfl rfl ⟨trivial, trivial, trivial⟩ ?_
        obtain ⟨r26, h27, e28, hF⟩ := ob2_elim hF
        refine g_callV1 hK 417 24 (d1 := 6) (ci := 6) (i := 0) (vs := [vI 0]) (rest := []) (h1 := h27) (r := vI r26) my_yX6_distance vw_X9_24 (by decide) (T_X_distance (p1 := 0) (h := h23) (hF := e28)) rfl rfl rfl (Nat.le_of_ble_eq_true rfl) (by decide +kernel) ?_
        refine g_seg hK [.iload 8] 420 422 (L1 := [(9, vI s22), (0, vR 0), (1, vI q13.1), (2, vI q13.2.1), (3, vI q13.2.2.1), (7, vI r1), (8, vI (wr (r1 - q13.2.2.1)))]) (st1 := [vI (wr (r1 - q13.2.2.1)), vI r26]) (h1 := h27) (P := True ∧ True) (by decide +kernel) rfl rfl ⟨trivial, trivial⟩ ?_
        refine g_icmp hK 422 .ne (58) 480 (t1 := 425) (t2 := 480) (by decide +kernel) (by decide) rfl rfl (fun (hc29 : r26 = wr (r1 - q13.2.2.1)) => ?_) (fun (hc29 : ¬ (r26 = wr (r1 - q13.2.2.1))) => ?_)
        · have hF := ite_t hc29 hF
          refine g_seg hK [.aload_n 0, .iconst 1] 425 427 (L1 := [(9, vI s22), (0, vR 0), (1, vI q13.1), (2, vI q13.2.1), (3, vI q13.2.2.1), (7, vI r1), (8, vI (wr (r1 - q13.2.2.1)))]) (st1 := [vI 1, vR 0]) (h1 := h27) (P := True ∧ True ∧ True) (by decide +kernel) rfl rfl ⟨trivial, trivial, trivial⟩ ?_
          obtain ⟨r30, h31, e32, hF⟩ := ob2_elim hF
          refine g_callV1 hK 427 24 (d1 := 6) (ci := 6) (i := 0) (vs := [vI 1]) (rest := []) (h1 := h31) (r := vI r30) my_yX6_distance vw_X9_24 (by decide) (T_X_distance (p1 := 1) (h := h27) (hF := e32)) rfl rfl rfl (Nat.le_of_ble_eq_true rfl) (by decide +kernel) ?_
          refine g_seg hK [.iload 8] 430 432 (L1 := [(9, vI s22), (0, vR 0), (1, vI q13.1), (2, vI q13.2.1), (3, vI q13.2.2.1), (7, vI r1), (8, vI (wr (r1 - q13.2.2.1)))]) (st1 := [vI (wr (r1 - q13.2.2.1)), vI r30]) (h1 := h31) (P := True ∧ True) (by decide +kernel) rfl rfl ⟨trivial, trivial⟩ ?_
          refine g_icmp hK 432 .ne (48) 480 (t1 := 435) (t2 := 480) (by decide +kernel) (by decide) rfl rfl (fun (hc33 : r30 = wr (r1 - q13.2.2.1)) => ?_) (fun (hc33 : ¬ (r30 = wr (r1 - q13.2.2.1))) => ?_)
          · have hF := ite_t hc33 hF
            refine g_seg hK [.aload_n 0, .iload 7, .iconst 0] 435 439 (L1 := [(9, vI s22), (0, vR 0), (1, vI q13.1), (2, vI q13.2.1), (3, vI q13.2.2.1), (7, vI r1), (8, vI (wr (r1 - q13.2.2.1)))]) (st1 := [vI 0, vI r1, vR 0]) (h1 := h31) (P := True ∧ True ∧ True ∧ True) (by decide +kernel) rfl rfl ⟨trivial, trivial, trivial, trivial⟩ ?_
            obtain ⟨r34, h35, e36, hF⟩ := ob2_elim hF
            refine g_callV1 hK 439 14 (d1 := 6) (ci := 6) (i := 0) (vs := [vI r1, vI 0]) (rest := []) (h1 := h35) (r := vI r34) my_yX6_view vw_X9_14 (by decide) (T_X_view (p1 := r1) (p2 := 0) (h := h31) (hF := e36)) rfl rfl rfl (Nat.le_of_ble_eq_true rfl) (by decide +kernel) ?_
            refine g_seg hK [.bipush (-4)] 442 444 (L1 := [(9, vI s22), (0, vR 0), (1, vI q13.1), (2, vI q13.2.1), (3, vI q13.2.2.1), (7, vI r1), (8, vI (wr (r1 - q13.2.2.1)))]) (st1 := [vI (-4), vI r34]) (h1 := h35) (P := True ∧ True) (by decide +kernel) rfl rfl ⟨trivial, trivial⟩ ?_
            refine g_icmp hK 444 .ne (36) 480 (t1 := 447) (t2 := 480) (by decide +kernel) (by decide) rfl rfl (fun (hc37 : r34 = (-4)) => ?_) (fun (hc37 : ¬ (r34 = (-4))) => ?_)
            · have hF := ite_t hc37 hF
              refine g_seg hK [.aload_n 0] 447 448 (L1 := [(9, vI s22), (0, vR 0), (1, vI q13.1), (2, vI q13.2.1), (3, vI q13.2.2.1), (7, vI r1), (8, vI (wr (r1 - q13.2.2.1)))]) (st1 := [vR 0]) (h1 := h35) (P := True ∧ True) (by decide +kernel) rfl rfl ⟨trivial, trivial⟩ ?_
              obtain ⟨r38, h39, e40, hF⟩ := ob2_elim hF
              refine g_callV1 hK 448 27 (d1 := 4) (ci := 6) (i := 0) (vs := []) (rest := []) (h1 := h39) (r := vD r38) my_yX6_alike vw_X9_27 (by decide) (T_X_alike (h := h35) (hF := e40)) rfl rfl rfl (Nat.le_of_ble_eq_true rfl) (by decide +kernel) ?_
              refine g_seg hK [.iload_n 1, .iload_n 2, .iadd] 451 454 (L1 := [(9, vI s22), (0, vR 0), (1, vI q13.1), (2, vI q13.2.1), (3, vI q13.2.2.1), (7, vI r1), (8, vI (wr (r1 - q13.2.2.1)))]) (st1 := [vI (wr (q13.1 + q13.2.1)), vD r38]) (h1 := h39) (P := True ∧ True ∧ True ∧ True) (by decide +kernel) rfl rfl ⟨trivial, trivial, trivial, trivial⟩ ?_
              obtain ⟨kj42, e44, hF⟩ := jk1_elim hF
              have j42 : ∀ (s41 : UInt64), kj42 s41 = some (r, h') → K 472 [] [vD s41, vD r38] h39 := by
                intro s41 hF
                have hF := (e44 s41).symm.trans hF
                refine g_seg hK [.dcmp .l] 472 473 (L1 := []) (st1 := [vI ((Op.cmpValue (FP.dcmp r38 s41) .l).toInt)]) (h1 := h39) (P := True ∧ True) (by decide +kernel) rfl rfl ⟨trivial, trivial⟩ ?_
                refine g_ifz hK 473 .ne (7) 480 (t1 := 476) (t2 := 480) (by decide +kernel) (by decide) rfl rfl (fun (hc43 : (Op.cmpValue (FP.dcmp r38 s41) .l).toInt = 0) => ?_) (fun (hc43 : ¬ ((Op.cmpValue (FP.dcmp r38 s41) .l).toInt = 0)) => ?_)
                · have hF := ite_t hc43 hF
                  refine g_seg hK [.iconst 1] 476 477 (L1 := []) (st1 := [vI 1]) (h1 := h39) (P := True ∧ True) (by decide +kernel) rfl rfl ⟨trivial, trivial⟩ ?_
                  refine g_goto hK 477 (4) 481 (by decide +kernel) (by decide) ?_
                  cases hF
                  exact hR.2.1 481 _ _ _ (by decide +kernel) rfl (by decide) ⟨rfl, rfl⟩
                · have hF := ite_f hc43 hF
                  refine g_seg hK [.iconst 0] 480 481 (L1 := []) (st1 := [vI 0]) (h1 := h39) (P := True ∧ True) (by decide +kernel) rfl rfl ⟨trivial, trivial⟩ ?_
                  cases hF
                  exact hR.2.1 481 _ _ _ (by decide +kernel) rfl (by decide) ⟨rfl, rfl⟩
              refine g_ifz hK 454 .ne (7) 461 (t1 := 457) (t2 := 461) (by decide +kernel) (by decide) rfl rfl (fun (hc45 : wr (q13.1 + q13.2.1) = 0) => ?_) (fun (hc45 : ¬ (wr (q13.1 + q13.2.1) = 0)) => ?_)
              · have hF := ite_t hc45 hF
                refine g_seg hK [.dconst 1] 457 458 (L1 := [(9, vI s22), (0, vR 0), (1, vI q13.1), (2, vI q13.2.1), (3, vI q13.2.2.1), (7, vI r1), (8, vI (wr (r1 - q13.2.2.1)))]) (st1 := [vD FP.dconst1, vD r38]) (h1 := h39) (P := True ∧ True) (by decide +kernel) rfl rfl ⟨trivial, trivial⟩ ?_
                refine g_goto hK 458 (14) 472 (by decide +kernel) (by decide) ?_
                refine hK.2.1 _ _ ([]) _ _ (sub_of [] rfl) ?_
                exact j42 _ hF
              · have hF := ite_f hc45 hF
                refine g_seg hK [.iconst 2, .iload_n 3, .imul, .i2d, .dconst 1] 461 466 (L1 := [(9, vI s22), (0, vR 0), (1, vI q13.1), (2, vI q13.2.1), (3, vI q13.2.2.1), (7, vI r1), (8, vI (wr (r1 - q13.2.2.1)))]) (st1 := [vD FP.dconst1, vD (FP.i2d (Int32.ofInt (wr (2 * q13.2.2.1)))), vD r38]) (h1 := h39) (P := True ∧ True ∧ True ∧ True ∧ True ∧ True) (by decide +kernel) rfl rfl ⟨trivial, trivial, trivial, trivial, trivial, trivial⟩ ?_
                obtain ⟨hg46, hF⟩ := gd_elim hF
                refine g_seg hK [.dmul, .iload_n 1, .iload_n 2, .iadd, .i2d] 466 471 (L1 := [(9, vI s22), (0, vR 0), (1, vI q13.1), (2, vI q13.2.1), (3, vI q13.2.2.1), (7, vI r1), (8, vI (wr (r1 - q13.2.2.1)))]) (st1 := [vD (FP.i2d (Int32.ofInt (wr (q13.1 + q13.2.1)))), vD (FP.dmul (FP.i2d (Int32.ofInt (wr (2 * q13.2.2.1)))) FP.dconst1), vD r38]) (h1 := h39) (P := vf_n64 (FP.dmul (FP.i2d (Int32.ofInt (wr (2 * q13.2.2.1)))) FP.dconst1) ∧ True ∧ True ∧ True ∧ True ∧ True) (by decide +kernel) rfl rfl ⟨hg46, trivial, trivial, trivial, trivial, trivial⟩ ?_
                obtain ⟨hg47, hF⟩ := gd_elim hF
                refine g_seg hK [.ddiv] 471 472 (L1 := [(9, vI s22), (0, vR 0), (1, vI q13.1), (2, vI q13.2.1), (3, vI q13.2.2.1), (7, vI r1), (8, vI (wr (r1 - q13.2.2.1)))]) (st1 := [vD (FP.ddiv (FP.dmul (FP.i2d (Int32.ofInt (wr (2 * q13.2.2.1)))) FP.dconst1) (FP.i2d (Int32.ofInt (wr (q13.1 + q13.2.1))))), vD r38]) (h1 := h39) (P := vf_n64 (FP.ddiv (FP.dmul (FP.i2d (Int32.ofInt (wr (2 * q13.2.2.1)))) FP.dconst1) (FP.i2d (Int32.ofInt (wr (q13.1 + q13.2.1))))) ∧ True) (by decide +kernel) rfl rfl ⟨hg47, trivial⟩ ?_
                refine hK.2.1 _ _ ([]) _ _ (sub_of [] rfl) ?_
                exact j42 _ hF
            · have hF := ite_f hc37 hF
              refine g_seg hK [.iconst 0] 480 481 (L1 := [(9, vI s22), (0, vR 0), (1, vI q13.1), (2, vI q13.2.1), (3, vI q13.2.2.1), (7, vI r1), (8, vI (wr (r1 - q13.2.2.1)))]) (st1 := [vI 0]) (h1 := h35) (P := True ∧ True) (by decide +kernel) rfl rfl ⟨trivial, trivial⟩ ?_
              cases hF
              exact hR.2.1 481 _ _ _ (by decide +kernel) rfl (by decide) ⟨rfl, rfl⟩
          · have hF := ite_f hc33 hF
            refine g_seg hK [.iconst 0] 480 481 (L1 := [(9, vI s22), (0, vR 0), (1, vI q13.1), (2, vI q13.2.1), (3, vI q13.2.2.1), (7, vI r1), (8, vI (wr (r1 - q13.2.2.1)))]) (st1 := [vI 0]) (h1 := h31) (P := True ∧ True) (by decide +kernel) rfl rfl ⟨trivial, trivial⟩ ?_
            cases hF
            exact hR.2.1 481 _ _ _ (by decide +kernel) rfl (by decide) ⟨rfl, rfl⟩
        · have hF := ite_f hc29 hF
          refine g_seg hK [.iconst 0] 480 481 (L1 := [(9, vI s22), (0, vR 0), (1, vI q13.1), (2, vI q13.2.1), (3, vI q13.2.2.1), (7, vI r1), (8, vI (wr (r1 - q13.2.2.1)))]) (st1 := [vI 0]) (h1 := h27) (P := True ∧ True) (by decide +kernel) rfl rfl ⟨trivial, trivial⟩ ?_
          cases hF
          exact hR.2.1 481 _ _ _ (by decide +kernel) rfl (by decide) ⟨rfl, rfl⟩
    obtain ⟨kj21, e49, hF⟩ := jk1_elim hF
    have j21 : ∀ (h20 : MH), kj21 h20 = some (r, h') → K 407 [(0, vR 0), (1, vI q13.1), (2, vI q13.2.1), (3, vI q13.2.2.1), (7, vI r1), (8, vI (wr (r1 - q13.2.2.1)))] [] h20 := by
      intro h20 hF
      have hF := (e49 h20).symm.trans hF
      refine g_seg hK [.iconst 0] 407 408 (L1 := [(0, vR 0), (1, vI q13.1), (2, vI q13.2.1), (3, vI q13.2.2.1), (7, vI r1), (8, vI (wr (r1 - q13.2.2.1)))]) (st1 := [vI 0]) (h1 := h20) (P := True ∧ True) (by decide +kernel) rfl rfl ⟨trivial, trivial⟩ ?_
      exact j24 _ _ hF
    refine g_icmp hK 333 .ne (74) 407 (t1 := 336) (t2 := 407) (by decide +kernel) (by decide) rfl rfl (fun (hc50 : q13.1 = r17) => ?_) (fun (hc50 : ¬ (q13.1 = r17)) => ?_)
    · have hF := ite_t hc50 hF
      refine g_seg hK [.iload_n 2, .aload_n 0, .iconst 1] 336 339 (L1 := [(8, vI (wr (r1 - q13.2.2.1))), (0, vR 0), (1, vI q13.1), (2, vI q13.2.1), (3, vI q13.2.2.1), (4, vI q13.2.2.2.1), (5, vI q13.2.2.2.2.1), (6, vI q13.2.2.2.2.2.1), (7, vI r1)]) (st1 := [vI 1, vR 0, vI q13.2.1]) (h1 := h18) (P := True ∧ True ∧ True ∧ True) (by decide +kernel) rfl rfl ⟨trivial, trivial, trivial, trivial⟩ ?_
      obtain ⟨r51, h52, e53, hF⟩ := ob2_elim hF
      refine g_callV1 hK 339 8 (d1 := 6) (ci := 6) (i := 0) (vs := [vI 1]) (rest := [vI q13.2.1]) (h1 := h52) (r := vI r51) my_yX6_count vw_X9_8 (by decide) (T_X_count (p1 := 1) (h := h18) (hF := e53)) rfl rfl rfl (Nat.le_of_ble_eq_true rfl) (by decide +kernel) ?_
      refine g_icmp hK 342 .ne (65) 407 (t1 := 345) (t2 := 407) (by decide +kernel) (by decide) rfl rfl (fun (hc54 : q13.2.1 = r51) => ?_) (fun (hc54 : ¬ (q13.2.1 = r51)) => ?_)
      · have hF := ite_t hc54 hF
        refine g_seg hK [.iload_n 3, .aload_n 0, .iconst 4] 345 348 (L1 := [(8, vI (wr (r1 - q13.2.2.1))), (0, vR 0), (1, vI q13.1), (2, vI q13.2.1), (3, vI q13.2.2.1), (4, vI q13.2.2.2.1), (5, vI q13.2.2.2.2.1), (6, vI q13.2.2.2.2.2.1), (7, vI r1)]) (st1 := [vI 4, vR 0, vI q13.2.2.1]) (h1 := h52) (P := True ∧ True ∧ True ∧ True) (by decide +kernel) rfl rfl ⟨trivial, trivial, trivial, trivial⟩ ?_
        obtain ⟨r55, h56, e57, hF⟩ := ob2_elim hF
        refine g_callV1 hK 348 8 (d1 := 6) (ci := 6) (i := 0) (vs := [vI 4]) (rest := [vI q13.2.2.1]) (h1 := h56) (r := vI r55) my_yX6_count vw_X9_8 (by decide) (T_X_count (p1 := 4) (h := h52) (hF := e57)) rfl rfl rfl (Nat.le_of_ble_eq_true rfl) (by decide +kernel) ?_
        refine g_icmp hK 351 .ne (56) 407 (t1 := 354) (t2 := 407) (by decide +kernel) (by decide) rfl rfl (fun (hc58 : q13.2.2.1 = r55) => ?_) (fun (hc58 : ¬ (q13.2.2.1 = r55)) => ?_)
        · have hF := ite_t hc58 hF
          refine g_seg hK [.iload 7, .iload_n 2, .isub, .aload_n 0, .iconst 5] 354 360 (L1 := [(8, vI (wr (r1 - q13.2.2.1))), (0, vR 0), (1, vI q13.1), (2, vI q13.2.1), (3, vI q13.2.2.1), (4, vI q13.2.2.2.1), (5, vI q13.2.2.2.2.1), (6, vI q13.2.2.2.2.2.1), (7, vI r1)]) (st1 := [vI 5, vR 0, vI (wr (r1 - q13.2.1))]) (h1 := h56) (P := True ∧ True ∧ True ∧ True ∧ True ∧ True) (by decide +kernel) rfl rfl ⟨trivial, trivial, trivial, trivial, trivial, trivial⟩ ?_
          obtain ⟨r59, h60, e61, hF⟩ := ob2_elim hF
          refine g_callV1 hK 360 8 (d1 := 6) (ci := 6) (i := 0) (vs := [vI 5]) (rest := [vI (wr (r1 - q13.2.1))]) (h1 := h60) (r := vI r59) my_yX6_count vw_X9_8 (by decide) (T_X_count (p1 := 5) (h := h56) (hF := e61)) rfl rfl rfl (Nat.le_of_ble_eq_true rfl) (by decide +kernel) ?_
          refine g_icmp hK 363 .ne (44) 407 (t1 := 366) (t2 := 407) (by decide +kernel) (by decide) rfl rfl (fun (hc62 : wr (r1 - q13.2.1) = r59) => ?_) (fun (hc62 : ¬ (wr (r1 - q13.2.1) = r59)) => ?_)
          · have hF := ite_t hc62 hF
            refine g_seg hK [.iload 7, .iload_n 1, .isub, .aload_n 0, .bipush 6] 366 373 (L1 := [(8, vI (wr (r1 - q13.2.2.1))), (0, vR 0), (1, vI q13.1), (2, vI q13.2.1), (3, vI q13.2.2.1), (4, vI q13.2.2.2.1), (5, vI q13.2.2.2.2.1), (6, vI q13.2.2.2.2.2.1), (7, vI r1)]) (st1 := [vI 6, vR 0, vI (wr (r1 - q13.1))]) (h1 := h60) (P := True ∧ True ∧ True ∧ True ∧ True ∧ True) (by decide +kernel) rfl rfl ⟨trivial, trivial, trivial, trivial, trivial, trivial⟩ ?_
            obtain ⟨r63, h64, e65, hF⟩ := ob2_elim hF
            refine g_callV1 hK 373 8 (d1 := 6) (ci := 6) (i := 0) (vs := [vI 6]) (rest := [vI (wr (r1 - q13.1))]) (h1 := h64) (r := vI r63) my_yX6_count vw_X9_8 (by decide) (T_X_count (p1 := 6) (h := h60) (hF := e65)) rfl rfl rfl (Nat.le_of_ble_eq_true rfl) (by decide +kernel) ?_
            refine g_icmp hK 376 .ne (31) 407 (t1 := 379) (t2 := 407) (by decide +kernel) (by decide) rfl rfl (fun (hc66 : wr (r1 - q13.1) = r63) => ?_) (fun (hc66 : ¬ (wr (r1 - q13.1) = r63)) => ?_)
            · have hF := ite_t hc66 hF
              refine g_seg hK [.iload 6, .iconst 1, .iadd, .aload_n 0, .bipush 7] 379 386 (L1 := [(8, vI (wr (r1 - q13.2.2.1))), (0, vR 0), (1, vI q13.1), (2, vI q13.2.1), (3, vI q13.2.2.1), (4, vI q13.2.2.2.1), (5, vI q13.2.2.2.2.1), (6, vI q13.2.2.2.2.2.1), (7, vI r1)]) (st1 := [vI 7, vR 0, vI (wr (q13.2.2.2.2.2.1 + 1))]) (h1 := h64) (P := True ∧ True ∧ True ∧ True ∧ True ∧ True) (by decide +kernel) rfl rfl ⟨trivial, trivial, trivial, trivial, trivial, trivial⟩ ?_
              obtain ⟨r67, h68, e69, hF⟩ := ob2_elim hF
              refine g_callV1 hK 386 8 (d1 := 6) (ci := 6) (i := 0) (vs := [vI 7]) (rest := [vI (wr (q13.2.2.2.2.2.1 + 1))]) (h1 := h68) (r := vI r67) my_yX6_count vw_X9_8 (by decide) (T_X_count (p1 := 7) (h := h64) (hF := e69)) rfl rfl rfl (Nat.le_of_ble_eq_true rfl) (by decide +kernel) ?_
              refine g_icmp hK 389 .ne (18) 407 (t1 := 392) (t2 := 407) (by decide +kernel) (by decide) rfl rfl (fun (hc70 : wr (q13.2.2.2.2.2.1 + 1) = r67) => ?_) (fun (hc70 : ¬ (wr (q13.2.2.2.2.2.1 + 1) = r67)) => ?_)
              · have hF := ite_t hc70 hF
                refine g_seg hK [.iload 5, .aload_n 0, .bipush 11] 392 397 (L1 := [(8, vI (wr (r1 - q13.2.2.1))), (0, vR 0), (1, vI q13.1), (2, vI q13.2.1), (3, vI q13.2.2.1), (4, vI q13.2.2.2.1), (5, vI q13.2.2.2.2.1), (6, vI q13.2.2.2.2.2.1), (7, vI r1)]) (st1 := [vI 11, vR 0, vI q13.2.2.2.2.1]) (h1 := h68) (P := True ∧ True ∧ True ∧ True) (by decide +kernel) rfl rfl ⟨trivial, trivial, trivial, trivial⟩ ?_
                obtain ⟨r71, h72, e73, hF⟩ := ob2_elim hF
                refine g_callV1 hK 397 8 (d1 := 6) (ci := 6) (i := 0) (vs := [vI 11]) (rest := [vI q13.2.2.2.2.1]) (h1 := h72) (r := vI r71) my_yX6_count vw_X9_8 (by decide) (T_X_count (p1 := 11) (h := h68) (hF := e73)) rfl rfl rfl (Nat.le_of_ble_eq_true rfl) (by decide +kernel) ?_
                refine g_icmp hK 400 .ne (7) 407 (t1 := 403) (t2 := 407) (by decide +kernel) (by decide) rfl rfl (fun (hc74 : q13.2.2.2.2.1 = r71) => ?_) (fun (hc74 : ¬ (q13.2.2.2.2.1 = r71)) => ?_)
                · have hF := ite_t hc74 hF
                  refine g_seg hK [.iconst 1] 403 404 (L1 := [(8, vI (wr (r1 - q13.2.2.1))), (0, vR 0), (1, vI q13.1), (2, vI q13.2.1), (3, vI q13.2.2.1), (4, vI q13.2.2.2.1), (5, vI q13.2.2.2.2.1), (6, vI q13.2.2.2.2.2.1), (7, vI r1)]) (st1 := [vI 1]) (h1 := h72) (P := True ∧ True) (by decide +kernel) rfl rfl ⟨trivial, trivial⟩ ?_
                  refine g_goto hK 404 (4) 408 (by decide +kernel) (by decide) ?_
                  refine hK.2.1 _ _ ([(0, vR 0), (1, vI q13.1), (2, vI q13.2.1), (3, vI q13.2.2.1), (7, vI r1), (8, vI (wr (r1 - q13.2.2.1)))]) _ _ (sub_of [1, 2, 3, 4, 8, 0] rfl) ?_
                  exact j24 _ _ hF
                · have hF := ite_f hc74 hF
                  refine hK.2.1 _ _ ([(0, vR 0), (1, vI q13.1), (2, vI q13.2.1), (3, vI q13.2.2.1), (7, vI r1), (8, vI (wr (r1 - q13.2.2.1)))]) _ _ (sub_of [1, 2, 3, 4, 8, 0] rfl) ?_
                  exact j21 _ hF
              · have hF := ite_f hc70 hF
                refine hK.2.1 _ _ ([(0, vR 0), (1, vI q13.1), (2, vI q13.2.1), (3, vI q13.2.2.1), (7, vI r1), (8, vI (wr (r1 - q13.2.2.1)))]) _ _ (sub_of [1, 2, 3, 4, 8, 0] rfl) ?_
                exact j21 _ hF
            · have hF := ite_f hc66 hF
              refine hK.2.1 _ _ ([(0, vR 0), (1, vI q13.1), (2, vI q13.2.1), (3, vI q13.2.2.1), (7, vI r1), (8, vI (wr (r1 - q13.2.2.1)))]) _ _ (sub_of [1, 2, 3, 4, 8, 0] rfl) ?_
              exact j21 _ hF
          · have hF := ite_f hc62 hF
            refine hK.2.1 _ _ ([(0, vR 0), (1, vI q13.1), (2, vI q13.2.1), (3, vI q13.2.2.1), (7, vI r1), (8, vI (wr (r1 - q13.2.2.1)))]) _ _ (sub_of [1, 2, 3, 4, 8, 0] rfl) ?_
            exact j21 _ hF
        · have hF := ite_f hc58 hF
          refine hK.2.1 _ _ ([(0, vR 0), (1, vI q13.1), (2, vI q13.2.1), (3, vI q13.2.2.1), (7, vI r1), (8, vI (wr (r1 - q13.2.2.1)))]) _ _ (sub_of [1, 2, 3, 4, 8, 0] rfl) ?_
          exact j21 _ hF
      · have hF := ite_f hc54 hF
        refine hK.2.1 _ _ ([(0, vR 0), (1, vI q13.1), (2, vI q13.2.1), (3, vI q13.2.2.1), (7, vI r1), (8, vI (wr (r1 - q13.2.2.1)))]) _ _ (sub_of [1, 2, 3, 4, 8, 0] rfl) ?_
        exact j21 _ hF
    · have hF := ite_f hc50 hF
      refine hK.2.1 _ _ ([(0, vR 0), (1, vI q13.1), (2, vI q13.2.1), (3, vI q13.2.2.1), (7, vI r1), (8, vI (wr (r1 - q13.2.2.1)))]) _ _ (sub_of [1, 2, 3, 4, 8, 0] rfl) ?_
      exact j21 _ hF

set_option maxHeartbeats 4000000 in
set_option maxRecDepth 100000 in
theorem LT_L_isHunk_L184 {K : KT} (hK : Rules RX9 cL_isHunk 14 (Option.some Jvm.ClassFile.FieldType.boolean) flX9 7 K) {Post : Option MV → MH → Prop} (hR : R_ret cL_isHunk (Option.some Jvm.ClassFile.FieldType.boolean) Post K) {x1 : Int} {x2 : Int} {x5 : Int} {x8 : Int} : ∀ (n : Nat) (x9 : Int) (x10 : Int) (h : MH) (out : Sum (Int × MH) (Int × Int × MH)), F_L_isHunk_L184 x1 x2 x5 x8 n x9 x10 h = some out → (∀ a : Int × MH, out = Sum.inl a → Post (some (vI a.1)) a.2) → (∀ q : Int × Int × MH, out = Sum.inr q → K 427 [(0, vR 0), (1, vI x1), (2, vI x2), (5, vI x5), (8, vI x8), (9, vI q.1), (10, vI q.2.1)] [] q.2.2) → K 184 [(0, vR 0), (1, vI x1), (2, vI x2), (5, vI x5), (8, vI x8), (9, vI x9), (10, vI x10)] [] h := by
  intro n
  induction n with
  | zero =>
    intro x9 x10 h out hF
    cases hF
  | succ n ih =>
    intro x9 x10 h out hF hRet hE
    unfold F_L_isHunk_L184 at hF
    refine g_seg hK [.iload 10, .iload_n 2, .iload 8, .iadd] 184 190 (L1 := [(0, vR 0), (1, vI x1), (2, vI x2), (5, vI x5), (8, vI x8), (9, vI x9), (10, vI x10)]) (st1 := [vI (wr (x2 + x8)), vI x10]) (h1 := h) (P := True ∧ True ∧ True ∧ True ∧ True) (by decide +kernel) rfl rfl ⟨trivial, trivial, trivial, trivial, trivial⟩ ?_
    refine g_icmp hK 190 .gt (237) 427 (t1 := 193) (t2 := 427) (by decide +kernel) (by decide) rfl rfl (fun (hc1 : x10 ≤ wr (x2 + x8)) => ?_) (fun (hc1 : ¬ (x10 ≤ wr (x2 + x8))) => ?_)
    · have hF := ite_t hc1 hF
      refine g_seg hK [.iload 10, .bipush 28] 193 197 (L1 := [(0, vR 0), (1, vI x1), (2, vI x2), (5, vI x5), (8, vI x8), (9, vI x9), (10, vI x10)]) (st1 := [vI 28, vI x10]) (h1 := h) (P := True ∧ True ∧ True) (by decide +kernel) rfl rfl ⟨trivial, trivial, trivial⟩ ?_
      refine g_icmp hK 197 .ge (230) 427 (t1 := 200) (t2 := 427) (by decide +kernel) (by decide) rfl rfl (fun (hc2 : x10 < 28) => ?_) (fun (hc2 : ¬ (x10 < 28)) => ?_)
      · have hF := ite_t hc2 hF
        refine g_seg hK [.iload 10, .iload_n 2] 200 203 (L1 := [(0, vR 0), (1, vI x1), (2, vI x2), (5, vI x5), (8, vI x8), (9, vI x9), (10, vI x10)]) (st1 := [vI x2, vI x10]) (h1 := h) (P := True ∧ True ∧ True) (by decide +kernel) rfl rfl ⟨trivial, trivial, trivial⟩ ?_
        obtain ⟨kj5, e49, hF⟩ := jk2_elim hF
        have j5 : ∀ (s3 : Int) (h4 : MH), kj5 s3 h4 = some out → K 294 [(0, vR 0), (1, vI x1), (2, vI x2), (5, vI x5), (8, vI x8), (9, vI x9), (10, vI x10)] [vI s3] h4 := by
          intro s3 h4 hF
          have hF := (e49 s3 h4).symm.trans hF
          refine g_seg hK [.istore 11, .aload_n 0, .iload 10, .iload 5, .iadd, .iconst 1, .isub, .iconst 1] 294 305 (L1 := [(11, vI s3), (0, vR 0), (1, vI x1), (2, vI x2), (5, vI x5), (8, vI x8), (9, vI x9), (10, vI x10)]) (st1 := [vI 1, vI (wr ((wr (x10 + x5)) - 1)), vR 0]) (h1 := h4) (P := True ∧ True ∧ True ∧ True ∧ True ∧ True ∧ True ∧ True ∧ True) (by decide +kernel) rfl rfl ⟨trivial, trivial, trivial, trivial, trivial, trivial, trivial, trivial, trivial⟩ ?_
          obtain ⟨r6, h7, e8, hF⟩ := ob2_elim hF
          refine g_callV1 hK 305 14 (d1 := 6) (ci := 6) (i := 0) (vs := [vI (wr ((wr (x10 + x5)) - 1)), vI 1]) (rest := []) (h1 := h7) (r := vI r6) my_yX6_view vw_X9_14 (by decide) (T_X_view (p1 := (wr ((wr (x10 + x5)) - 1))) (p2 := 1) (h := h4) (hF := e8)) rfl rfl rfl (Nat.le_of_ble_eq_true rfl) (by decide +kernel) ?_
          refine g_seg hK [.istore 12, .iload 10] 308 312 (L1 := [(12, vI r6), (11, vI s3), (0, vR 0), (1, vI x1), (2, vI x2), (5, vI x5), (8, vI x8), (9, vI x9), (10, vI x10)]) (st1 := [vI x10]) (h1 := h7) (P := True ∧ True ∧ True) (by decide +kernel) rfl rfl ⟨trivial, trivial, trivial⟩ ?_
          obtain ⟨kj13, e42, hF⟩ := jk2_elim hF
          have j13 : ∀ (s11 : Int) (h12 : MH), kj13 s11 h12 = some out → K 334 [(0, vR 0), (1, vI x1), (2, vI x2), (5, vI x5), (8, vI x8), (9, vI x9), (10, vI x10), (11, vI s3), (12, vI r6)] [vI s11] h12 := by
            intro s11 h12 hF
            have hF := (e42 s11 h12).symm.trans hF
            refine g_seg hK [.iload 12, .bipush 6] 334 338 (L1 := [(0, vR 0), (1, vI x1), (2, vI x2), (5, vI x5), (8, vI x8), (9, vI x9), (10, vI x10), (11, vI s3), (12, vI r6)]) (st1 := [vI 6, vI r6, vI s11]) (h1 := h12) (P := True ∧ True ∧ True) (by decide +kernel) rfl rfl ⟨trivial, trivial, trivial⟩ ?_
            obtain ⟨s14, e41, hF⟩ := jn1_elim hF
            have j15 : K 346 [(0, vR 0), (1, vI x1), (2, vI x2), (5, vI x5), (8, vI x8), (9, vI x9), (10, vI x10), (11, vI s3), (12, vI r6)] [vI s14, vI s11] h12 := by
              refine g_seg hK [.iadd, .aload_n 0, .iload 10, .iconst 1] 346 351 (L1 := [(0, vR 0), (1, vI x1), (2, vI x2), (5, vI x5), (8, vI x8), (9, vI x9), (10, vI x10), (11, vI s3), (12, vI r6)]) (st1 := [vI 1, vI x10, vR 0, vI (wr (s11 + s14))]) (h1 := h12) (P := True ∧ True ∧ True ∧ True ∧ True) (by decide +kernel) rfl rfl ⟨trivial, trivial, trivial, trivial, trivial⟩ ?_
              obtain ⟨r17, h18, e19, hF⟩ := ob2_elim hF
              refine g_callV1 hK 351 14 (d1 := 6) (ci := 6) (i := 0) (vs := [vI x10, vI 1]) (rest := [vI (wr (s11 + s14))]) (h1 := h18) (r := vI r17) my_yX6_view vw_X9_14 (by decide) (T_X_view (p1 := x10) (p2 := 1) (h := h12) (hF := e19)) rfl rfl rfl (Nat.le_of_ble_eq_true rfl) (by decide +kernel) ?_
              refine g_seg hK [.bipush 7] 354 356 (L1 := [(0, vR 0), (1, vI x1), (2, vI x2), (5, vI x5), (8, vI x8), (9, vI x9), (10, vI x10), (11, vI s3), (12, vI r6)]) (st1 := [vI 7, vI r17, vI (wr (s11 + s14))]) (h1 := h18) (P := True ∧ True) (by decide +kernel) rfl rfl ⟨trivial, trivial⟩ ?_
              obtain ⟨s20, e40, hF⟩ := jn1_elim hF
              have j21 : K 364 [(0, vR 0), (1, vI x1), (2, vI x2), (5, vI x5), (8, vI x8), (9, vI x9), (10, vI x10), (11, vI s3), (12, vI r6)] [vI s20, vI (wr (s11 + s14))] h18 := by
                refine g_seg hK [.iadd, .iload 12, .bipush 8] 364 369 (L1 := [(0, vR 0), (1, vI x1), (2, vI x2), (5, vI x5), (8, vI x8), (9, vI x9), (10, vI x10), (11, vI s3), (12, vI r6)]) (st1 := [vI 8, vI r6, vI (wr ((wr (s11 + s14)) + s20))]) (h1 := h18) (P := True ∧ True ∧ True ∧ True) (by decide +kernel) rfl rfl ⟨trivial, trivial, trivial, trivial⟩ ?_
                obtain ⟨s23, e39, hF⟩ := jn1_elim hF
                have j24 : K 377 [(0, vR 0), (1, vI x1), (2, vI x2), (5, vI x5), (8, vI x8), (9, vI x9), (10, vI x10), (11, vI s3)] [vI s23, vI (wr ((wr (s11 + s14)) + s20))] h18 := by
                  refine g_seg hK [.iadd, .istore 13, .iload 13, .iload 9] 377 384 (L1 := [(13, vI (wr ((wr ((wr (s11 + s14)) + s20)) + s23))), (0, vR 0), (1, vI x1), (2, vI x2), (5, vI x5), (8, vI x8), (9, vI x9), (10, vI x10), (11, vI s3)]) (st1 := [vI x9, vI (wr ((wr ((wr (s11 + s14)) + s20)) + s23))]) (h1 := h18) (P := True ∧ True ∧ True ∧ True ∧ True) (by decide +kernel) rfl rfl ⟨trivial, trivial, trivial, trivial, trivial⟩ ?_
                  obtain ⟨s26, e38, hF⟩ := jn1_elim hF
                  have j27 : K 394 [(0, vR 0), (1, vI x1), (2, vI x2), (5, vI x5), (8, vI x8), (10, vI x10), (11, vI s3), (13, vI (wr ((wr ((wr (s11 + s14)) + s20)) + s23)))] [vI s26] h18 := by
                    refine g_seg hK [.istore 9, .iload 11] 394 398 (L1 := [(9, vI s26), (0, vR 0), (1, vI x1), (2, vI x2), (5, vI x5), (8, vI x8), (10, vI x10), (11, vI s3), (13, vI (wr ((wr ((wr (s11 + s14)) + s20)) + s23)))]) (st1 := [vI s3]) (h1 := h18) (P := True ∧ True ∧ True) (by decide +kernel) rfl rfl ⟨trivial, trivial, trivial⟩ ?_
                    refine g_ifz hK 398 .eq (21) 419 (t1 := 419) (t2 := 401) (by decide +kernel) (by decide) rfl rfl (fun (hc29 : s3 = 0) => ?_) (fun (hc29 : ¬ (s3 = 0)) => ?_)
                    · have hF := ite_t hc29 hF
                      refine g_seg hK [.iconst 0] 419 420 (L1 := [(9, vI s26), (0, vR 0), (1, vI x1), (2, vI x2), (5, vI x5), (8, vI x8), (10, vI x10), (11, vI s3), (13, vI (wr ((wr ((wr (s11 + s14)) + s20)) + s23)))]) (st1 := [vI 0]) (h1 := h18) (P := True ∧ True) (by decide +kernel) rfl rfl ⟨trivial, trivial⟩ ?_
                      cases hF
                      exact hR.2.1 420 _ _ _ (by decide +kernel) rfl (by decide) (hRet _ rfl)
                    · have hF := ite_f hc29 hF
                      refine g_seg hK [.iload 10, .iload_n 2] 401 404 (L1 := [(9, vI s26), (0, vR 0), (1, vI x1), (2, vI x2), (5, vI x5), (8, vI x8), (10, vI x10), (11, vI s3), (13, vI (wr ((wr ((wr (s11 + s14)) + s20)) + s23)))]) (st1 := [vI x2, vI x10]) (h1 := h18) (P := True ∧ True ∧ True) (by decide +kernel) rfl rfl ⟨trivial, trivial, trivial⟩ ?_
                      obtain ⟨kj31, e32, hF⟩ := jk1_elim hF
                      have j31 : ∀ (h30 : MH), kj31 h30 = some out → K 421 [(0, vR 0), (1, vI x1), (2, vI x2), (5, vI x5), (8, vI x8), (9, vI s26), (10, vI x10)] [] h30 := by
                        intro h30 hF
                        have hF := (e32 h30).symm.trans hF
                        refine g_seg hK [.iinc 10 1] 421 424 (L1 := [(10, vI (wr (x10 + 1))), (0, vR 0), (1, vI x1), (2, vI x2), (5, vI x5), (8, vI x8), (9, vI s26)]) (st1 := []) (h1 := h30) (P := True ∧ True) (by decide +kernel) rfl rfl ⟨trivial, trivial⟩ ?_
                        refine g_goto hK 424 (-240) 184 (by decide +kernel) (by decide) ?_
                        refine hK.2.1 _ _ ([(0, vR 0), (1, vI x1), (2, vI x2), (5, vI x5), (8, vI x8), (9, vI s26), (10, vI (wr (x10 + 1)))]) _ _ (sub_of [1, 2, 3, 4, 5, 6, 0] rfl) ?_
                        exact ih _ _ _ _ hF hRet hE
                      refine g_icmp hK 404 .ne (17) 421 (t1 := 407) (t2 := 421) (by decide +kernel) (by decide) rfl rfl (fun (hc33 : x10 = x2) => ?_) (fun (hc33 : ¬ (x10 = x2)) => ?_)
                      · have hF := ite_t hc33 hF
                        refine g_seg hK [.aload_n 0, .iload_n 1, .bipush 6] 407 411 (L1 := [(9, vI s26), (0, vR 0), (1, vI x1), (2, vI x2), (5, vI x5), (8, vI x8), (10, vI x10), (11, vI s3), (13, vI (wr ((wr ((wr (s11 + s14)) + s20)) + s23)))]) (st1 := [vI 6, vI x1, vR 0]) (h1 := h18) (P := True ∧ True ∧ True ∧ True) (by decide +kernel) rfl rfl ⟨trivial, trivial, trivial, trivial⟩ ?_
                        obtain ⟨r34, h35, e36, hF⟩ := ob2_elim hF
                        refine g_callV1 hK 411 21 (d1 := 6) (ci := 6) (i := 0) (vs := [vI x1, vI 6]) (rest := []) (h1 := h35) (r := vI r34) my_yX6_hunk vw_X9_21 (by decide) (T_X_hunk (p1 := x1) (p2 := 6) (h := h18) (hF := e36)) rfl rfl rfl (Nat.le_of_ble_eq_true rfl) (by decide +kernel) ?_
                        refine g_seg hK [.iload 13] 414 416 (L1 := [(9, vI s26), (0, vR 0), (1, vI x1), (2, vI x2), (5, vI x5), (8, vI x8), (10, vI x10), (11, vI s3), (13, vI (wr ((wr ((wr (s11 + s14)) + s20)) + s23)))]) (st1 := [vI (wr ((wr ((wr (s11 + s14)) + s20)) + s23)), vI r34]) (h1 := h35) (P := True ∧ True) (by decide +kernel) rfl rfl ⟨trivial, trivial⟩ ?_
                        refine g_icmp hK 416 .eq (5) 421 (t1 := 421) (t2 := 419) (by decide +kernel) (by decide) rfl rfl (fun (hc37 : r34 = wr ((wr ((wr (s11 + s14)) + s20)) + s23)) => ?_) (fun (hc37 : ¬ (r34 = wr ((wr ((wr (s11 + s14)) + s20)) + s23))) => ?_)
                        · have hF := ite_t hc37 hF
                          refine hK.2.1 _ _ ([(0, vR 0), (1, vI x1), (2, vI x2), (5, vI x5), (8, vI x8), (9, vI s26), (10, vI x10)]) _ _ (sub_of [1, 2, 3, 4, 5, 0, 6] rfl) ?_
                          exact j31 _ hF
                        · have hF := ite_f hc37 hF
                          refine g_seg hK [.iconst 0] 419 420 (L1 := [(9, vI s26), (0, vR 0), (1, vI x1), (2, vI x2), (5, vI x5), (8, vI x8), (10, vI x10), (11, vI s3), (13, vI (wr ((wr ((wr (s11 + s14)) + s20)) + s23)))]) (st1 := [vI 0]) (h1 := h35) (P := True ∧ True) (by decide +kernel) rfl rfl ⟨trivial, trivial⟩ ?_
                          cases hF
                          exact hR.2.1 420 _ _ _ (by decide +kernel) rfl (by decide) (hRet _ rfl)
                      · have hF := ite_f hc33 hF
                        refine hK.2.1 _ _ ([(0, vR 0), (1, vI x1), (2, vI x2), (5, vI x5), (8, vI x8), (9, vI s26), (10, vI x10)]) _ _ (sub_of [1, 2, 3, 4, 5, 0, 6] rfl) ?_
                        exact j31 _ hF
                  clear hF
                  have hF := e38
                  refine g_icmp hK 384 .le (8) 392 (t1 := 392) (t2 := 387) (by decide +kernel) (by decide) rfl rfl (fun (hc28 : wr ((wr ((wr (s11 + s14)) + s20)) + s23) ≤ x9) => ?_) (fun (hc28 : ¬ (wr ((wr ((wr (s11 + s14)) + s20)) + s23) ≤ x9)) => ?_)
                  · have hF := ite_t hc28 hF
                    refine g_seg hK [.iload 9] 392 394 (L1 := [(13, vI (wr ((wr ((wr (s11 + s14)) + s20)) + s23))), (0, vR 0), (1, vI x1), (2, vI x2), (5, vI x5), (8, vI x8), (9, vI x9), (10, vI x10), (11, vI s3)]) (st1 := [vI x9]) (h1 := h18) (P := True ∧ True) (by decide +kernel) rfl rfl ⟨trivial, trivial⟩ ?_
                    refine hK.2.1 _ _ ([(0, vR 0), (1, vI x1), (2, vI x2), (5, vI x5), (8, vI x8), (10, vI x10), (11, vI s3), (13, vI (wr ((wr ((wr (s11 + s14)) + s20)) + s23)))]) _ _ (sub_of [1, 2, 3, 4, 5, 7, 8, 0] rfl) ?_
                    cases hF
                    exact j27
                  · have hF := ite_f hc28 hF
                    refine g_seg hK [.iload 13] 387 389 (L1 := [(13, vI (wr ((wr ((wr (s11 + s14)) + s20)) + s23))), (0, vR 0), (1, vI x1), (2, vI x2), (5, vI x5), (8, vI x8), (9, vI x9), (10, vI x10), (11, vI s3)]) (st1 := [vI (wr ((wr ((wr (s11 + s14)) + s20)) + s23))]) (h1 := h18) (P := True ∧ True) (by decide +kernel) rfl rfl ⟨trivial, trivial⟩ ?_
                    refine g_goto hK 389 (5) 394 (by decide +kernel) (by decide) ?_
                    refine hK.2.1 _ _ ([(0, vR 0), (1, vI x1), (2, vI x2), (5, vI x5), (8, vI x8), (10, vI x10), (11, vI s3), (13, vI (wr ((wr ((wr (s11 + s14)) + s20)) + s23)))]) _ _ (sub_of [1, 2, 3, 4, 5, 7, 8, 0] rfl) ?_
                    cases hF
                    exact j27
                clear hF
                have hF := e39
                refine g_icmp hK 369 .ne (7) 376 (t1 := 372) (t2 := 376) (by decide +kernel) (by decide) rfl rfl (fun (hc25 : r6 = 8) => ?_) (fun (hc25 : ¬ (r6 = 8)) => ?_)
                · have hF := ite_t hc25 hF
                  refine g_seg hK [.iconst 3] 372 373 (L1 := [(0, vR 0), (1, vI x1), (2, vI x2), (5, vI x5), (8, vI x8), (9, vI x9), (10, vI x10), (11, vI s3), (12, vI r6)]) (st1 := [vI 3, vI (wr ((wr (s11 + s14)) + s20))]) (h1 := h18) (P := True ∧ True) (by decide +kernel) rfl rfl ⟨trivial, trivial⟩ ?_
                  refine g_goto hK 373 (4) 377 (by decide +kernel) (by decide) ?_
                  refine hK.2.1 _ _ ([(0, vR 0), (1, vI x1), (2, vI x2), (5, vI x5), (8, vI x8), (9, vI x9), (10, vI x10), (11, vI s3)]) _ _ (sub_of [0, 1, 2, 3, 4, 5, 6, 7] rfl) ?_
                  cases hF
                  exact j24
                · have hF := ite_f hc25 hF
                  refine g_seg hK [.iconst 0] 376 377 (L1 := [(0, vR 0), (1, vI x1), (2, vI x2), (5, vI x5), (8, vI x8), (9, vI x9), (10, vI x10), (11, vI s3), (12, vI r6)]) (st1 := [vI 0, vI (wr ((wr (s11 + s14)) + s20))]) (h1 := h18) (P := True ∧ True) (by decide +kernel) rfl rfl ⟨trivial, trivial⟩ ?_
                  refine hK.2.1 _ _ ([(0, vR 0), (1, vI x1), (2, vI x2), (5, vI x5), (8, vI x8), (9, vI x9), (10, vI x10), (11, vI s3)]) _ _ (sub_of [0, 1, 2, 3, 4, 5, 6, 7] rfl) ?_
                  cases hF
                  exact j24
              clear hF
              have hF := e40
              refine g_icmp hK 356 .ne (7) 363 (t1 := 359) (t2 := 363) (by decide +kernel) (by decide) rfl rfl (fun (hc22 : r17 = 7) => ?_) (fun (hc22 : ¬ (r17 = 7)) => ?_)
              · have hF := ite_t hc22 hF
                refine g_seg hK [.iconst 1] 359 360 (L1 := [(0, vR 0), (1, vI x1), (2, vI x2), (5, vI x5), (8, vI x8), (9, vI x9), (10, vI x10), (11, vI s3), (12, vI r6)]) (st1 := [vI 1, vI (wr (s11 + s14))]) (h1 := h18) (P := True ∧ True) (by decide +kernel) rfl rfl ⟨trivial, trivial⟩ ?_
                refine g_goto hK 360 (4) 364 (by decide +kernel) (by decide) ?_
                cases hF
                exact j21
              · have hF := ite_f hc22 hF
                refine g_seg hK [.iconst 0] 363 364 (L1 := [(0, vR 0), (1, vI x1), (2, vI x2), (5, vI x5), (8, vI x8), (9, vI x9), (10, vI x10), (11, vI s3), (12, vI r6)]) (st1 := [vI 0, vI (wr (s11 + s14))]) (h1 := h18) (P := True ∧ True) (by decide +kernel) rfl rfl ⟨trivial, trivial⟩ ?_
                cases hF
                exact j21
            clear hF
            have hF := e41
            refine g_icmp hK 338 .ne (7) 345 (t1 := 341) (t2 := 345) (by decide +kernel) (by decide) rfl rfl (fun (hc16 : r6 = 6) => ?_) (fun (hc16 : ¬ (r6 = 6)) => ?_)
            · have hF := ite_t hc16 hF
              refine g_seg hK [.iconst 2] 341 342 (L1 := [(0, vR 0), (1, vI x1), (2, vI x2), (5, vI x5), (8, vI x8), (9, vI x9), (10, vI x10), (11, vI s3), (12, vI r6)]) (st1 := [vI 2, vI s11]) (h1 := h12) (P := True ∧ True) (by decide +kernel) rfl rfl ⟨trivial, trivial⟩ ?_
              refine g_goto hK 342 (4) 346 (by decide +kernel) (by decide) ?_
              cases hF
              exact j15
            · have hF := ite_f hc16 hF
              refine g_seg hK [.iconst 0] 345 346 (L1 := [(0, vR 0), (1, vI x1), (2, vI x2), (5, vI x5), (8, vI x8), (9, vI x9), (10, vI x10), (11, vI s3), (12, vI r6)]) (st1 := [vI 0, vI s11]) (h1 := h12) (P := True ∧ True) (by decide +kernel) rfl rfl ⟨trivial, trivial⟩ ?_
              cases hF
              exact j15
          obtain ⟨kj10, e43, hF⟩ := jk1_elim hF
          have j10 : ∀ (h9 : MH), kj10 h9 = some out → K 329 [(0, vR 0), (1, vI x1), (2, vI x2), (5, vI x5), (8, vI x8), (9, vI x9), (10, vI x10), (11, vI s3), (12, vI r6)] [] h9 := by
            intro h9 hF
            have hF := (e43 h9).symm.trans hF
            refine g_seg hK [.iconst 4] 329 330 (L1 := [(0, vR 0), (1, vI x1), (2, vI x2), (5, vI x5), (8, vI x8), (9, vI x9), (10, vI x10), (11, vI s3), (12, vI r6)]) (st1 := [vI 4]) (h1 := h9) (P := True ∧ True) (by decide +kernel) rfl rfl ⟨trivial, trivial⟩ ?_
            refine g_goto hK 330 (4) 334 (by decide +kernel) (by decide) ?_
            exact j13 _ _ hF
          refine g_ifz hK 312 .eq (17) 329 (t1 := 329) (t2 := 315) (by decide +kernel) (by decide) rfl rfl (fun (hc44 : x10 = 0) => ?_) (fun (hc44 : ¬ (x10 = 0)) => ?_)
          · have hF := ite_t hc44 hF
            refine hK.2.1 _ _ ([(0, vR 0), (1, vI x1), (2, vI x2), (5, vI x5), (8, vI x8), (9, vI x9), (10, vI x10), (11, vI s3), (12, vI r6)]) _ _ (sub_of [2, 3, 4, 5, 6, 7, 8, 1, 0] rfl) ?_
            exact j10 _ hF
          · have hF := ite_f hc44 hF
            refine g_seg hK [.aload_n 0, .iload 10, .iconst 1, .isub, .iconst 1] 315 321 (L1 := [(12, vI r6), (11, vI s3), (0, vR 0), (1, vI x1), (2, vI x2), (5, vI x5), (8, vI x8), (9, vI x9), (10, vI x10)]) (st1 := [vI 1, vI (wr (x10 - 1)), vR 0]) (h1 := h7) (P := True ∧ True ∧ True ∧ True ∧ True ∧ True) (by decide +kernel) rfl rfl ⟨trivial, trivial, trivial, trivial, trivial, trivial⟩ ?_
            obtain ⟨r45, h46, e47, hF⟩ := ob2_elim hF
            refine g_callV1 hK 321 14 (d1 := 6) (ci := 6) (i := 0) (vs := [vI (wr (x10 - 1)), vI 1]) (rest := []) (h1 := h46) (r := vI r45) my_yX6_view vw_X9_14 (by decide) (T_X_view (p1 := (wr (x10 - 1))) (p2 := 1) (h := h7) (hF := e47)) rfl rfl rfl (Nat.le_of_ble_eq_true rfl) (by decide +kernel) ?_
            refine g_seg hK [.bipush 6] 324 326 (L1 := [(12, vI r6), (11, vI s3), (0, vR 0), (1, vI x1), (2, vI x2), (5, vI x5), (8, vI x8), (9, vI x9), (10, vI x10)]) (st1 := [vI 6, vI r45]) (h1 := h46) (P := True ∧ True) (by decide +kernel) rfl rfl ⟨trivial, trivial⟩ ?_
            refine g_icmp hK 326 .ne (7) 333 (t1 := 329) (t2 := 333) (by decide +kernel) (by decide) rfl rfl (fun (hc48 : r45 = 6) => ?_) (fun (hc48 : ¬ (r45 = 6)) => ?_)
            · have hF := ite_t hc48 hF
              refine hK.2.1 _ _ ([(0, vR 0), (1, vI x1), (2, vI x2), (5, vI x5), (8, vI x8), (9, vI x9), (10, vI x10), (11, vI s3), (12, vI r6)]) _ _ (sub_of [2, 3, 4, 5, 6, 7, 8, 1, 0] rfl) ?_
              exact j10 _ hF
            · have hF := ite_f hc48 hF
              refine g_seg hK [.iconst 0] 333 334 (L1 := [(12, vI r6), (11, vI s3), (0, vR 0), (1, vI x1), (2, vI x2), (5, vI x5), (8, vI x8), (9, vI x9), (10, vI x10)]) (st1 := [vI 0]) (h1 := h46) (P := True ∧ True) (by decide +kernel) rfl rfl ⟨trivial, trivial⟩ ?_
              refine hK.2.1 _ _ ([(0, vR 0), (1, vI x1), (2, vI x2), (5, vI x5), (8, vI x8), (9, vI x9), (10, vI x10), (11, vI s3), (12, vI r6)]) _ _ (sub_of [2, 3, 4, 5, 6, 7, 8, 1, 0] rfl) ?_
              exact j13 _ _ hF
        refine g_icmp hK 203 .ge (41) 244 (t1 := 206) (t2 := 244) (by decide +kernel) (by decide) rfl rfl (fun (hc50 : x10 < x2) => ?_) (fun (hc50 : ¬ (x10 < x2)) => ?_)
        · have hF := ite_t hc50 hF
          refine g_seg hK [.aload_n 0, .iload 10, .iconst 0] 206 210 (L1 := [(0, vR 0), (1, vI x1), (2, vI x2), (5, vI x5), (8, vI x8), (9, vI x9), (10, vI x10)]) (st1 := [vI 0, vI x10, vR 0]) (h1 := h) (P := True ∧ True ∧ True ∧ True) (by decide +kernel) rfl rfl ⟨trivial, trivial, trivial, trivial⟩ ?_
          obtain ⟨r51, h52, e53, hF⟩ := ob2_elim hF
          refine g_callV1 hK 210 14 (d1 := 6) (ci := 6) (i := 0) (vs := [vI x10, vI 0]) (rest := []) (h1 := h52) (r := vI r51) my_yX6_view vw_X9_14 (by decide) (T_X_view (p1 := x10) (p2 := 0) (h := h) (hF := e53)) rfl rfl rfl (Nat.le_of_ble_eq_true rfl) (by decide +kernel) ?_
          obtain ⟨kj55, e56, hF⟩ := jk1_elim hF
          have j55 : ∀ (h54 : MH), kj55 h54 = some out → K 240 [(0, vR 0), (1, vI x1), (2, vI x2), (5, vI x5), (8, vI x8), (9, vI x9), (10, vI x10)] [] h54 := by
            intro h54 hF
            have hF := (e56 h54).symm.trans hF
            refine g_seg hK [.iconst 0] 240 241 (L1 := [(0, vR 0), (1, vI x1), (2, vI x2), (5, vI x5), (8, vI x8), (9, vI x9), (10, vI x10)]) (st1 := [vI 0]) (h1 := h54) (P := True ∧ True) (by decide +kernel) rfl rfl ⟨trivial, trivial⟩ ?_
            refine g_goto hK 241 (53) 294 (by decide +kernel) (by decide) ?_
            exact j5 _ _ hF
          refine g_ifz hK 213 .ne (27) 240 (t1 := 216) (t2 := 240) (by decide +kernel) (by decide) rfl rfl (fun (hc57 : r51 = 0) => ?_) (fun (hc57 : ¬ (r51 = 0)) => ?_)
          · have hF := ite_t hc57 hF
            refine g_seg hK [.aload_n 0, .iload 10, .iconst 1] 216 220 (L1 := [(0, vR 0), (1, vI x1), (2, vI x2), (5, vI x5), (8, vI x8), (9, vI x9), (10, vI x10)]) (st1 := [vI 1, vI x10, vR 0]) (h1 := h52) (P := True ∧ True ∧ True ∧ True) (by decide +kernel) rfl rfl ⟨trivial, trivial, trivial, trivial⟩ ?_
            obtain ⟨r58, h59, e60, hF⟩ := ob2_elim hF
            refine g_callV1 hK 220 14 (d1 := 6) (ci := 6) (i := 0) (vs := [vI x10, vI 1]) (rest := []) (h1 := h59) (r := vI r58) my_yX6_view vw_X9_14 (by decide) (T_X_view (p1 := x10) (p2 := 1) (h := h52) (hF := e60)) rfl rfl rfl (Nat.le_of_ble_eq_true rfl) (by decide +kernel) ?_
            refine g_seg hK [.aload_n 0, .iload 10, .iload 5, .iadd, .iconst 1] 223 230 (L1 := [(0, vR 0), (1, vI x1), (2, vI x2), (5, vI x5), (8, vI x8), (9, vI x9), (10, vI x10)]) (st1 := [vI 1, vI (wr (x10 + x5)), vR 0, vI r58]) (h1 := h59) (P := True ∧ True ∧ True ∧ True ∧ True ∧ True) (by decide +kernel) rfl rfl ⟨trivial, trivial, trivial, trivial, trivial, trivial⟩ ?_
            obtain ⟨r61, h62, e63, hF⟩ := ob2_elim hF
            refine g_callV1 hK 230 14 (d1 := 6) (ci := 6) (i := 0) (vs := [vI (wr (x10 + x5)), vI 1]) (rest := [vI r58]) (h1 := h62) (r := vI r61) my_yX6_view vw_X9_14 (by decide) (T_X_view (p1 := (wr (x10 + x5))) (p2 := 1) (h := h59) (hF := e63)) rfl rfl rfl (Nat.le_of_ble_eq_true rfl) (by decide +kernel) ?_
            refine g_icmp hK 233 .ne (7) 240 (t1 := 236) (t2 := 240) (by decide +kernel) (by decide) rfl rfl (fun (hc64 : r58 = r61) => ?_) (fun (hc64 : ¬ (r58 = r61)) => ?_)
            · have hF := ite_t hc64 hF
              refine g_seg hK [.iconst 1] 236 237 (L1 := [(0, vR 0), (1, vI x1), (2, vI x2), (5, vI x5), (8, vI x8), (9, vI x9), (10, vI x10)]) (st1 := [vI 1]) (h1 := h62) (P := True ∧ True) (by decide +kernel) rfl rfl ⟨trivial, trivial⟩ ?_
              refine g_goto hK 237 (57) 294 (by decide +kernel) (by decide) ?_
              exact j5 _ _ hF
            · have hF := ite_f hc64 hF
              exact j55 _ hF
          · have hF := ite_f hc57 hF
            exact j55 _ hF
        · have hF := ite_f hc50 hF
          refine g_seg hK [.iload 10, .iload_n 2] 244 247 (L1 := [(0, vR 0), (1, vI x1), (2, vI x2), (5, vI x5), (8, vI x8), (9, vI x9), (10, vI x10)]) (st1 := [vI x2, vI x10]) (h1 := h) (P := True ∧ True ∧ True) (by decide +kernel) rfl rfl ⟨trivial, trivial, trivial⟩ ?_
          obtain ⟨kj66, e67, hF⟩ := jk1_elim hF
          have j66 : ∀ (h65 : MH), kj66 h65 = some out → K 289 [(0, vR 0), (1, vI x1), (2, vI x2), (5, vI x5), (8, vI x8), (9, vI x9), (10, vI x10)] [] h65 := by
            intro h65 hF
            have hF := (e67 h65).symm.trans hF
            refine g_seg hK [.iconst 1] 289 290 (L1 := [(0, vR 0), (1, vI x1), (2, vI x2), (5, vI x5), (8, vI x8), (9, vI x9), (10, vI x10)]) (st1 := [vI 1]) (h1 := h65) (P := True ∧ True) (by decide +kernel) rfl rfl ⟨trivial, trivial⟩ ?_
            refine g_goto hK 290 (4) 294 (by decide +kernel) (by decide) ?_
            exact j5 _ _ hF
          refine g_icmp hK 247 .eq (42) 289 (t1 := 289) (t2 := 250) (by decide +kernel) (by decide) rfl rfl (fun (hc68 : x10 = x2) => ?_) (fun (hc68 : ¬ (x10 = x2)) => ?_)
          · have hF := ite_t hc68 hF
            exact j66 _ hF
          · have hF := ite_f hc68 hF
            refine g_seg hK [.aload_n 0, .iload 10, .iload 5, .iadd, .iconst 1, .isub, .iconst 0] 250 259 (L1 := [(0, vR 0), (1, vI x1), (2, vI x2), (5, vI x5), (8, vI x8), (9, vI x9), (10, vI x10)]) (st1 := [vI 0, vI (wr ((wr (x10 + x5)) - 1)), vR 0]) (h1 := h) (P := True ∧ True ∧ True ∧ True ∧ True ∧ True ∧ True ∧ True) (by decide +kernel) rfl rfl ⟨trivial, trivial, trivial, trivial, trivial, trivial, trivial, trivial⟩ ?_
            obtain ⟨r69, h70, e71, hF⟩ := ob2_elim hF
            refine g_callV1 hK 259 14 (d1 := 6) (ci := 6) (i := 0) (vs := [vI (wr ((wr (x10 + x5)) - 1)), vI 0]) (rest := []) (h1 := h70) (r := vI r69) my_yX6_view vw_X9_14 (by decide) (T_X_view (p1 := (wr ((wr (x10 + x5)) - 1))) (p2 := 0) (h := h) (hF := e71)) rfl rfl rfl (Nat.le_of_ble_eq_true rfl) (by decide +kernel) ?_
            obtain ⟨kj73, e74, hF⟩ := jk1_elim hF
            have j73 : ∀ (h72 : MH), kj73 h72 = some out → K 293 [(0, vR 0), (1, vI x1), (2, vI x2), (5, vI x5), (8, vI x8), (9, vI x9), (10, vI x10)] [] h72 := by
              intro h72 hF
              have hF := (e74 h72).symm.trans hF
              refine g_seg hK [.iconst 0] 293 294 (L1 := [(0, vR 0), (1, vI x1), (2, vI x2), (5, vI x5), (8, vI x8), (9, vI x9), (10, vI x10)]) (st1 := [vI 0]) (h1 := h72) (P := True ∧ True) (by decide +kernel) rfl rfl ⟨trivial, trivial⟩ ?_
              exact j5 _ _ hF
            refine g_ifz hK 262 .ne (31) 293 (t1 := 265) (t2 := 293) (by decide +kernel) (by decide) rfl rfl (fun (hc75 : r69 = 0) => ?_) (fun (hc75 : ¬ (r69 = 0)) => ?_)
            · have hF := ite_t hc75 hF
              refine g_seg hK [.aload_n 0, .iload 10, .iload 5, .iadd, .iconst 1, .isub, .iconst 1] 265 274 (L1 := [(0, vR 0), (1, vI x1), (2, vI x2), (5, vI x5), (8, vI x8), (9, vI x9), (10, vI x10)]) (st1 := [vI 1, vI (wr ((wr (x10 + x5)) - 1)), vR 0]) (h1 := h70) (P := True ∧ True ∧ True ∧ True ∧ True ∧ True ∧ True ∧ True) (by decide +kernel) rfl rfl ⟨trivial, trivial, trivial, trivial, trivial, trivial, trivial, trivial⟩ ?_
              obtain ⟨r76, h77, e78, hF⟩ := ob2_elim hF
              refine g_callV1 hK 274 14 (d1 := 6) (ci := 6) (i := 0) (vs := [vI (wr ((wr (x10 + x5)) - 1)), vI 1]) (rest := []) (h1 := h77) (r := vI r76) my_yX6_view vw_X9_14 (by decide) (T_X_view (p1 := (wr ((wr (x10 + x5)) - 1))) (p2 := 1) (h := h70) (hF := e78)) rfl rfl rfl (Nat.le_of_ble_eq_true rfl) (by decide +kernel) ?_
              refine g_seg hK [.aload_n 0, .iload 10, .iconst 1, .isub, .iconst 1] 277 283 (L1 := [(0, vR 0), (1, vI x1), (2, vI x2), (5, vI x5), (8, vI x8), (9, vI x9), (10, vI x10)]) (st1 := [vI 1, vI (wr (x10 - 1)), vR 0, vI r76]) (h1 := h77) (P := True ∧ True ∧ True ∧ True ∧ True ∧ True) (by decide +kernel) rfl rfl ⟨trivial, trivial, trivial, trivial, trivial, trivial⟩ ?_
              obtain ⟨r79, h80, e81, hF⟩ := ob2_elim hF
              refine g_callV1 hK 283 14 (d1 := 6) (ci := 6) (i := 0) (vs := [vI (wr (x10 - 1)), vI 1]) (rest := [vI r76]) (h1 := h80) (r := vI r79) my_yX6_view vw_X9_14 (by decide) (T_X_view (p1 := (wr (x10 - 1))) (p2 := 1) (h := h77) (hF := e81)) rfl rfl rfl (Nat.le_of_ble_eq_true rfl) (by decide +kernel) ?_
              refine g_icmp hK 286 .ne (7) 293 (t1 := 289) (t2 := 293) (by decide +kernel) (by decide) rfl rfl (fun (hc82 : r76 = r79) => ?_) (fun (hc82 : ¬ (r76 = r79)) => ?_)
              · have hF := ite_t hc82 hF
                exact j66 _ hF
              · have hF := ite_f hc82 hF
                exact j73 _ hF
            · have hF := ite_f hc75 hF
              exact j73 _ hF
      · have hF := ite_f hc2 hF
        cases hF
        exact hE _ rfl
    · have hF := ite_f hc1 hF
      cases hF
      exact hE _ rfl
set_option maxHeartbeats 4000000 in
set_option maxRecDepth 100000 in
theorem LT_L_isHunk_L495 {K : KT} (hK : Rules RX9 cL_isHunk 14 (Option.some Jvm.ClassFile.FieldType.boolean) flX9 7 K) {x2 : Int} {x10 : Int} : ∀ (n : Nat) (x12 : Int) (x13 : Int) (h : MH) (x12' : Int) (x13' : Int) (h' : MH), F_L_isHunk_L495 x2 x10 n x12 x13 h = some (x12', x13', h') → K 583 [(0, vR 0), (2, vI x2), (10, vI x10), (12, vI x12'), (13, vI x13')] [] h' → K 495 [(0, vR 0), (2, vI x2), (10, vI x10), (12, vI x12), (13, vI x13)] [] h := by
  intro n
  induction n with
  | zero =>
    intro x12 x13 h x12' x13' h' hF
    cases hF
  | succ n ih =>
    intro x12 x13 h x12' x13' h' hF hE
    unfold F_L_isHunk_L495 at hF
    refine g_seg hK [.iload 13, .iconst 3] 495 498 (L1 := [(0, vR 0), (2, vI x2), (10, vI x10), (12, vI x12), (13, vI x13)]) (st1 := [vI 3, vI x13]) (h1 := h) (P := True ∧ True ∧ True) (by decide +kernel) rfl rfl ⟨trivial, trivial, trivial⟩ ?_
    refine g_icmp hK 498 .gt (85) 583 (t1 := 501) (t2 := 583) (by decide +kernel) (by decide) rfl rfl (fun (hc1 : x13 ≤ 3) => ?_) (fun (hc1 : ¬ (x13 ≤ 3)) => ?_)
    · have hF := ite_t hc1 hF
      refine g_seg hK [.iload 12] 501 503 (L1 := [(0, vR 0), (2, vI x2), (10, vI x10), (12, vI x12), (13, vI x13)]) (st1 := [vI x12]) (h1 := h) (P := True ∧ True) (by decide +kernel) rfl rfl ⟨trivial, trivial⟩ ?_
      refine g_ifz hK 503 .eq (80) 583 (t1 := 583) (t2 := 506) (by decide +kernel) (by decide) rfl rfl (fun (hc2 : x12 = 0) => ?_) (fun (hc2 : ¬ (x12 = 0)) => ?_)
      · have hF := ite_t hc2 hF
        cases hF
        exact hE
      · have hF := ite_f hc2 hF
        refine g_seg hK [.iload 13, .iload 10] 506 510 (L1 := [(0, vR 0), (2, vI x2), (10, vI x10), (12, vI x12), (13, vI x13)]) (st1 := [vI x10, vI x13]) (h1 := h) (P := True ∧ True ∧ True) (by decide +kernel) rfl rfl ⟨trivial, trivial, trivial⟩ ?_
        obtain ⟨s3, e31, hF⟩ := jn1_elim hF
        have j4 : K 518 [(0, vR 0), (2, vI x2), (10, vI x10), (13, vI x13)] [vI s3] h := by
          refine g_seg hK [.iload 13, .aload_n 0, .bipush 14] 518 523 (L1 := [(0, vR 0), (2, vI x2), (10, vI x10), (13, vI x13)]) (st1 := [vI 14, vR 0, vI x13, vI s3]) (h1 := h) (P := True ∧ True ∧ True ∧ True) (by decide +kernel) rfl rfl ⟨trivial, trivial, trivial, trivial⟩ ?_
          obtain ⟨r6, h7, e8, hF⟩ := ob2_elim hF
          refine g_callV1 hK 523 8 (d1 := 6) (ci := 6) (i := 0) (vs := [vI 14]) (rest := [vI x13, vI s3]) (h1 := h7) (r := vI r6) my_yX6_count vw_X9_8 (by decide) (T_X_count (p1 := 14) (h := h) (hF := e8)) rfl rfl rfl (Nat.le_of_ble_eq_true rfl) (by decide +kernel) ?_
          obtain ⟨kj13, e18, hF⟩ := jk2_elim hF
          have j13 : ∀ (s11 : Int) (h12 : MH), kj13 s11 h12 = some (x12', x13', h') → K 567 [(0, vR 0), (2, vI x2), (10, vI x10), (13, vI x13)] [vI s11, vI s3] h12 := by
            intro s11 h12 hF
            have hF := (e18 s11 h12).symm.trans hF
            obtain ⟨s14, e17, hF⟩ := jn1_elim hF
            have j15 : K 575 [(0, vR 0), (2, vI x2), (10, vI x10), (13, vI x13)] [vI s14] h12 := by
              refine g_seg hK [.istore 12, .iinc 13 1] 575 580 (L1 := [(13, vI (wr (x13 + 1))), (12, vI s14), (0, vR 0), (2, vI x2), (10, vI x10)]) (st1 := []) (h1 := h12) (P := True ∧ True ∧ True) (by decide +kernel) rfl rfl ⟨trivial, trivial, trivial⟩ ?_
              refine g_goto hK 580 (-85) 495 (by decide +kernel) (by decide) ?_
              refine hK.2.1 _ _ ([(0, vR 0), (2, vI x2), (10, vI x10), (12, vI s14), (13, vI (wr (x13 + 1)))]) _ _ (sub_of [2, 3, 4, 1, 0] rfl) ?_
              exact ih _ _ _ _ _ _ hF hE
            clear hF
            have hF := e17
            refine g_icmp hK 567 .ne (7) 574 (t1 := 570) (t2 := 574) (by decide +kernel) (by decide) rfl rfl (fun (hc16 : s3 = s11) => ?_) (fun (hc16 : ¬ (s3 = s11)) => ?_)
            · have hF := ite_t hc16 hF
              refine g_seg hK [.iconst 1] 570 571 (L1 := [(0, vR 0), (2, vI x2), (10, vI x10), (13, vI x13)]) (st1 := [vI 1]) (h1 := h12) (P := True ∧ True) (by decide +kernel) rfl rfl ⟨trivial, trivial⟩ ?_
              refine g_goto hK 571 (4) 575 (by decide +kernel) (by decide) ?_
              cases hF
              exact j15
            · have hF := ite_f hc16 hF
              refine g_seg hK [.iconst 0] 574 575 (L1 := [(0, vR 0), (2, vI x2), (10, vI x10), (13, vI x13)]) (st1 := [vI 0]) (h1 := h12) (P := True ∧ True) (by decide +kernel) rfl rfl ⟨trivial, trivial⟩ ?_
              cases hF
              exact j15
          obtain ⟨kj10, e19, hF⟩ := jk1_elim hF
          have j10 : ∀ (h9 : MH), kj10 h9 = some (x12', x13', h') → K 566 [(0, vR 0), (2, vI x2), (10, vI x10), (13, vI x13)] [vI s3] h9 := by
            intro h9 hF
            have hF := (e19 h9).symm.trans hF
            refine g_seg hK [.iconst 0] 566 567 (L1 := [(0, vR 0), (2, vI x2), (10, vI x10), (13, vI x13)]) (st1 := [vI 0, vI s3]) (h1 := h9) (P := True ∧ True) (by decide +kernel) rfl rfl ⟨trivial, trivial⟩ ?_
            exact j13 _ _ hF
          refine g_icmp hK 526 .gt (40) 566 (t1 := 529) (t2 := 566) (by decide +kernel) (by decide) rfl rfl (fun (hc20 : x13 ≤ r6) => ?_) (fun (hc20 : ¬ (x13 ≤ r6)) => ?_)
          · have hF := ite_t hc20 hF
            refine g_seg hK [.iload 13, .iload_n 2] 529 532 (L1 := [(0, vR 0), (2, vI x2), (10, vI x10), (13, vI x13)]) (st1 := [vI x2, vI x13, vI s3]) (h1 := h7) (P := True ∧ True ∧ True) (by decide +kernel) rfl rfl ⟨trivial, trivial, trivial⟩ ?_
            refine g_icmp hK 532 .gt (34) 566 (t1 := 535) (t2 := 566) (by decide +kernel) (by decide) rfl rfl (fun (hc21 : x13 ≤ x2) => ?_) (fun (hc21 : ¬ (x13 ≤ x2)) => ?_)
            · have hF := ite_t hc21 hF
              refine g_seg hK [.aload_n 0, .iload_n 2, .iload 13, .isub, .iconst 0] 535 541 (L1 := [(0, vR 0), (2, vI x2), (10, vI x10), (13, vI x13)]) (st1 := [vI 0, vI (wr (x2 - x13)), vR 0, vI s3]) (h1 := h7) (P := True ∧ True ∧ True ∧ True ∧ True ∧ True) (by decide +kernel) rfl rfl ⟨trivial, trivial, trivial, trivial, trivial, trivial⟩ ?_
              obtain ⟨r22, h23, e24, hF⟩ := ob2_elim hF
              refine g_callV1 hK 541 14 (d1 := 6) (ci := 6) (i := 0) (vs := [vI (wr (x2 - x13)), vI 0]) (rest := [vI s3]) (h1 := h23) (r := vI r22) my_yX6_view vw_X9_14 (by decide) (T_X_view (p1 := (wr (x2 - x13))) (p2 := 0) (h := h7) (hF := e24)) rfl rfl rfl (Nat.le_of_ble_eq_true rfl) (by decide +kernel) ?_
              refine g_ifz hK 544 .ne (22) 566 (t1 := 547) (t2 := 566) (by decide +kernel) (by decide) rfl rfl (fun (hc25 : r22 = 0) => ?_) (fun (hc25 : ¬ (r22 = 0)) => ?_)
              · have hF := ite_t hc25 hF
                refine g_seg hK [.iload 13, .iconst 1] 547 550 (L1 := [(0, vR 0), (2, vI x2), (10, vI x10), (13, vI x13)]) (st1 := [vI 1, vI x13, vI s3]) (h1 := h23) (P := True ∧ True ∧ True) (by decide +kernel) rfl rfl ⟨trivial, trivial, trivial⟩ ?_
                obtain ⟨kj27, e28, hF⟩ := jk1_elim hF
                have j27 : ∀ (u26 : Unit), kj27 u26 = some (x12', x13', h') → K 562 [(0, vR 0), (2, vI x2), (10, vI x10), (13, vI x13)] [vI s3] h23 := by
                  intro u26 hF
                  have hF := (e28 u26).symm.trans hF
                  refine g_seg hK [.iconst 1] 562 563 (L1 := [(0, vR 0), (2, vI x2), (10, vI x10), (13, vI x13)]) (st1 := [vI 1, vI s3]) (h1 := h23) (P := True ∧ True) (by decide +kernel) rfl rfl ⟨trivial, trivial⟩ ?_
                  refine g_goto hK 563 (4) 567 (by decide +kernel) (by decide) ?_
                  exact j13 _ _ hF
                refine g_icmp hK 550 .eq (12) 562 (t1 := 562) (t2 := 553) (by decide +kernel) (by decide) rfl rfl (fun (hc29 : x13 = 1) => ?_) (fun (hc29 : ¬ (x13 = 1)) => ?_)
                · have hF := ite_t hc29 hF
                  exact j27 _ hF
                · have hF := ite_f hc29 hF
                  refine g_seg hK [.iload 13, .iconst 1, .isub, .iload 10] 553 559 (L1 := [(0, vR 0), (2, vI x2), (10, vI x10), (13, vI x13)]) (st1 := [vI x10, vI (wr (x13 - 1)), vI s3]) (h1 := h23) (P := True ∧ True ∧ True ∧ True ∧ True) (by decide +kernel) rfl rfl ⟨trivial, trivial, trivial, trivial, trivial⟩ ?_
                  refine g_icmp hK 559 .gt (7) 566 (t1 := 562) (t2 := 566) (by decide +kernel) (by decide) rfl rfl (fun (hc30 : wr (x13 - 1) ≤ x10) => ?_) (fun (hc30 : ¬ (wr (x13 - 1) ≤ x10)) => ?_)
                  · have hF := ite_t hc30 hF
                    exact j27 _ hF
                  · have hF := ite_f hc30 hF
                    exact j10 _ hF
              · have hF := ite_f hc25 hF
                exact j10 _ hF
            · have hF := ite_f hc21 hF
              exact j10 _ hF
          · have hF := ite_f hc20 hF
            exact j10 _ hF
        clear hF
        have hF := e31
        refine g_icmp hK 510 .gt (7) 517 (t1 := 513) (t2 := 517) (by decide +kernel) (by decide) rfl rfl (fun (hc5 : x13 ≤ x10) => ?_) (fun (hc5 : ¬ (x13 ≤ x10)) => ?_)
        · have hF := ite_t hc5 hF
          refine g_seg hK [.iconst 1] 513 514 (L1 := [(0, vR 0), (2, vI x2), (10, vI x10), (12, vI x12), (13, vI x13)]) (st1 := [vI 1]) (h1 := h) (P := True ∧ True) (by decide +kernel) rfl rfl ⟨trivial, trivial⟩ ?_
          refine g_goto hK 514 (4) 518 (by decide +kernel) (by decide) ?_
          refine hK.2.1 _ _ ([(0, vR 0), (2, vI x2), (10, vI x10), (13, vI x13)]) _ _ (sub_of [0, 1, 2, 4] rfl) ?_
          cases hF
          exact j4
        · have hF := ite_f hc5 hF
          refine g_seg hK [.iconst 0] 517 518 (L1 := [(0, vR 0), (2, vI x2), (10, vI x10), (12, vI x12), (13, vI x13)]) (st1 := [vI 0]) (h1 := h) (P := True ∧ True) (by decide +kernel) rfl rfl ⟨trivial, trivial⟩ ?_
          refine hK.2.1 _ _ ([(0, vR 0), (2, vI x2), (10, vI x10), (13, vI x13)]) _ _ (sub_of [0, 1, 2, 4] rfl) ?_
          cases hF
          exact j4
    · have hF := ite_f hc1 hF
      cases hF
      exact hE
set_option maxHeartbeats 4000000 in
set_option maxRecDepth 100000 in
theorem T_L_isHunk {p2 : Int} {h : MH} {r : Int} {h' : MH} (hF : F_L_isHunk p2 h = some (r, h')) : CON 7 yL_isHunk cL_isHunk 14 (Option.some Jvm.ClassFile.FieldType.boolean) [vR 0, vI p2] h (some (vI r)) h' := by
  refine con_of (own := RX9) (fl := flX9) (by decide +kernel) rfl flok_X9 rfl (Nat.le_of_ble_eq_true rfl) ?_
  intro K hK hR
  show K 0 [(0, vR 0), (1, vI p2)] [] h
  unfold F_L_isHunk at hF
  refine g_seg hK [.aload_n 0, .iload_n 1, .iconst 0] 0 3 (L1 := [(0, vR 0), (1, vI p2)]) (st1 := [vI 0, vI p2, vR 0]) (h1 := h) (P := True ∧ True ∧ True ∧ True) (by decide +kernel) rfl rfl ⟨trivial, trivial, trivial, trivial⟩ ?_
  obtain ⟨r1, h2, e3, hF⟩ := ob2_elim hF
  refine g_callV1 hK 3 21 (d1 := 6) (ci := 6) (i := 0) (vs := [vI p2, vI 0]) (rest := []) (h1 := h2) (r := vI r1) my_yX6_hunk vw_X9_21 (by decide) (T_X_hunk (p1 := p2) (p2 := 0) (h := h) (hF := e3)) rfl rfl rfl (Nat.le_of_ble_eq_true rfl) (by decide +kernel) ?_
  refine g_seg hK [.istore_n 2, .aload_n 0, .iload_n 1, .iconst 1] 6 10 (L1 := [(2, vI r1), (0, vR 0), (1, vI p2)]) (st1 := [vI 1, vI p2, vR 0]) (h1 := h2) (P := True ∧ True ∧ True ∧ True ∧ True) (by decide +kernel) rfl rfl ⟨trivial, trivial, trivial, trivial, trivial⟩ ?_
  obtain ⟨r4, h5, e6, hF⟩ := ob2_elim hF
  refine g_callV1 hK 10 21 (d1 := 6) (ci := 6) (i := 0) (vs := [vI p2, vI 1]) (rest := []) (h1 := h5) (r := vI r4) my_yX6_hunk vw_X9_21 (by decide) (T_X_hunk (p1 := p2) (p2 := 1) (h := h2) (hF := e6)) rfl rfl rfl (Nat.le_of_ble_eq_true rfl) (by decide +kernel) ?_
  refine g_seg hK [.istore_n 3, .aload_n 0, .iload_n 1, .iconst 2] 13 17 (L1 := [(3, vI r4), (2, vI r1), (0, vR 0), (1, vI p2)]) (st1 := [vI 2, vI p2, vR 0]) (h1 := h5) (P := True ∧ True ∧ True ∧ True ∧ True) (by decide +kernel) rfl rfl ⟨trivial, trivial, trivial, trivial, trivial⟩ ?_
  obtain ⟨r7, h8, e9, hF⟩ := ob2_elim hF
  refine g_callV1 hK 17 21 (d1 := 6) (ci := 6) (i := 0) (vs := [vI p2, vI 2]) (rest := []) (h1 := h8) (r := vI r7) my_yX6_hunk vw_X9_21 (by decide) (T_X_hunk (p1 := p2) (p2 := 2) (h := h5) (hF := e9)) rfl rfl rfl (Nat.le_of_ble_eq_true rfl) (by decide +kernel) ?_
  refine g_seg hK [.istore 4, .iload_n 3, .iload 4, .iadd, .istore 5, .iload_n 3] 20 29 (L1 := [(5, vI (wr (r4 + r7))), (4, vI r7), (3, vI r4), (2, vI r1), (0, vR 0), (1, vI p2)]) (st1 := [vI r4]) (h1 := h8) (P := True ∧ True ∧ True ∧ True ∧ True ∧ True ∧ True) (by decide +kernel) rfl rfl ⟨trivial, trivial, trivial, trivial, trivial, trivial, trivial⟩ ?_
  obtain ⟨kj13, e103, hF⟩ := jk1_elim hF
  have j13 : ∀ (s12 : Int), kj13 s12 = some (r, h') → K 42 [(0, vR 0), (1, vI p2), (2, vI r1), (5, vI (wr (r4 + r7)))] [vI s12] h8 := by
    intro s12 hF
    have hF := (e103 s12).symm.trans hF
    refine g_seg hK [.istore 6, .aload_n 0, .iload_n 1, .iconst 4] 42 47 (L1 := [(6, vI s12), (0, vR 0), (1, vI p2), (2, vI r1), (5, vI (wr (r4 + r7)))]) (st1 := [vI 4, vI p2, vR 0]) (h1 := h8) (P := True ∧ True ∧ True ∧ True ∧ True) (by decide +kernel) rfl rfl ⟨trivial, trivial, trivial, trivial, trivial⟩ ?_
    obtain ⟨r14, h15, e16, hF⟩ := ob2_elim hF
    refine g_callV1 hK 47 21 (d1 := 6) (ci := 6) (i := 0) (vs := [vI p2, vI 4]) (rest := []) (h1 := h15) (r := vI r14) my_yX6_hunk vw_X9_21 (by decide) (T_X_hunk (p1 := p2) (p2 := 4) (h := h8) (hF := e16)) rfl rfl rfl (Nat.le_of_ble_eq_true rfl) (by decide +kernel) ?_
    refine g_seg hK [.istore 7, .aload_n 0, .iload_n 1, .iconst 5] 50 55 (L1 := [(7, vI r14), (6, vI s12), (0, vR 0), (1, vI p2), (2, vI r1), (5, vI (wr (r4 + r7)))]) (st1 := [vI 5, vI p2, vR 0]) (h1 := h15) (P := True ∧ True ∧ True ∧ True ∧ True) (by decide +kernel) rfl rfl ⟨trivial, trivial, trivial, trivial, trivial⟩ ?_
    obtain ⟨r17, h18, e19, hF⟩ := ob2_elim hF
    refine g_callV1 hK 55 21 (d1 := 6) (ci := 6) (i := 0) (vs := [vI p2, vI 5]) (rest := []) (h1 := h18) (r := vI r17) my_yX6_hunk vw_X9_21 (by decide) (T_X_hunk (p1 := p2) (p2 := 5) (h := h15) (hF := e19)) rfl rfl rfl (Nat.le_of_ble_eq_true rfl) (by decide +kernel) ?_
    refine g_seg hK [.istore 8, .iload 5, .iconst 1] 58 63 (L1 := [(8, vI r17), (7, vI r14), (6, vI s12), (0, vR 0), (1, vI p2), (2, vI r1), (5, vI (wr (r4 + r7)))]) (st1 := [vI 1, vI (wr (r4 + r7))]) (h1 := h18) (P := True ∧ True ∧ True ∧ True) (by decide +kernel) rfl rfl ⟨trivial, trivial, trivial, trivial⟩ ?_
    refine g_icmp hK 63 .lt (110) 173 (t1 := 173) (t2 := 66) (by decide +kernel) (by decide) rfl rfl (fun (hc20 : wr (r4 + r7) < 1) => ?_) (fun (hc20 : ¬ (wr (r4 + r7) < 1)) => ?_)
    · have hF := ite_t hc20 hF
      refine g_seg hK [.iconst 0] 173 174 (L1 := [(8, vI r17), (7, vI r14), (6, vI s12), (0, vR 0), (1, vI p2), (2, vI r1), (5, vI (wr (r4 + r7)))]) (st1 := [vI 0]) (h1 := h18) (P := True ∧ True) (by decide +kernel) rfl rfl ⟨trivial, trivial⟩ ?_
      cases hF
      exact hR.2.1 174 _ _ _ (by decide +kernel) rfl (by decide) ⟨rfl, rfl⟩
    · have hF := ite_f hc20 hF
      refine g_seg hK [.aload_n 0, .iload_n 1, .iconst 3] 66 69 (L1 := [(8, vI r17), (7, vI r14), (6, vI s12), (0, vR 0), (1, vI p2), (2, vI r1), (5, vI (wr (r4 + r7)))]) (st1 := [vI 3, vI p2, vR 0]) (h1 := h18) (P := True ∧ True ∧ True ∧ True) (by decide +kernel) rfl rfl ⟨trivial, trivial, trivial, trivial⟩ ?_
      obtain ⟨r21, h22, e23, hF⟩ := ob2_elim hF
      refine g_callV1 hK 69 21 (d1 := 6) (ci := 6) (i := 0) (vs := [vI p2, vI 3]) (rest := []) (h1 := h22) (r := vI r21) my_yX6_hunk vw_X9_21 (by decide) (T_X_hunk (p1 := p2) (p2 := 3) (h := h18) (hF := e23)) rfl rfl rfl (Nat.le_of_ble_eq_true rfl) (by decide +kernel) ?_
      refine g_seg hK [.iconst 1] 72 73 (L1 := [(8, vI r17), (7, vI r14), (6, vI s12), (0, vR 0), (1, vI p2), (2, vI r1), (5, vI (wr (r4 + r7)))]) (st1 := [vI 1, vI r21]) (h1 := h22) (P := True ∧ True) (by decide +kernel) rfl rfl ⟨trivial, trivial⟩ ?_
      obtain ⟨s24, e102, hF⟩ := jn1_elim hF
      have j25 : K 81 [(0, vR 0), (1, vI p2), (2, vI r1), (5, vI (wr (r4 + r7))), (6, vI s12), (7, vI r14), (8, vI r17)] [vI s24] h22 := by
        refine g_seg hK [.iload 6] 81 83 (L1 := [(0, vR 0), (1, vI p2), (2, vI r1), (5, vI (wr (r4 + r7))), (6, vI s12), (7, vI r14), (8, vI r17)]) (st1 := [vI s12, vI s24]) (h1 := h22) (P := True ∧ True) (by decide +kernel) rfl rfl ⟨trivial, trivial⟩ ?_
        refine g_icmp hK 83 .ne (90) 173 (t1 := 86) (t2 := 173) (by decide +kernel) (by decide) rfl rfl (fun (hc27 : s24 = s12) => ?_) (fun (hc27 : ¬ (s24 = s12)) => ?_)
        · have hF := ite_t hc27 hF
          refine g_seg hK [.iload 7] 86 88 (L1 := [(0, vR 0), (1, vI p2), (2, vI r1), (5, vI (wr (r4 + r7))), (6, vI s12), (7, vI r14), (8, vI r17)]) (st1 := [vI r14]) (h1 := h22) (P := True ∧ True) (by decide +kernel) rfl rfl ⟨trivial, trivial⟩ ?_
          refine g_ifz hK 88 .lt (85) 173 (t1 := 173) (t2 := 91) (by decide +kernel) (by decide) rfl rfl (fun (hc28 : r14 < 0) => ?_) (fun (hc28 : ¬ (r14 < 0)) => ?_)
          · have hF := ite_t hc28 hF
            refine g_seg hK [.iconst 0] 173 174 (L1 := [(0, vR 0), (1, vI p2), (2, vI r1), (5, vI (wr (r4 + r7))), (6, vI s12), (7, vI r14), (8, vI r17)]) (st1 := [vI 0]) (h1 := h22) (P := True ∧ True) (by decide +kernel) rfl rfl ⟨trivial, trivial⟩ ?_
            cases hF
            exact hR.2.1 174 _ _ _ (by decide +kernel) rfl (by decide) ⟨rfl, rfl⟩
          · have hF := ite_f hc28 hF
            refine g_seg hK [.iload 8] 91 93 (L1 := [(0, vR 0), (1, vI p2), (2, vI r1), (5, vI (wr (r4 + r7))), (6, vI s12), (7, vI r14), (8, vI r17)]) (st1 := [vI r17]) (h1 := h22) (P := True ∧ True) (by decide +kernel) rfl rfl ⟨trivial, trivial⟩ ?_
            refine g_ifz hK 93 .lt (80) 173 (t1 := 173) (t2 := 96) (by decide +kernel) (by decide) rfl rfl (fun (hc29 : r17 < 0) => ?_) (fun (hc29 : ¬ (r17 < 0)) => ?_)
            · have hF := ite_t hc29 hF
              refine g_seg hK [.iconst 0] 173 174 (L1 := [(0, vR 0), (1, vI p2), (2, vI r1), (5, vI (wr (r4 + r7))), (6, vI s12), (7, vI r14), (8, vI r17)]) (st1 := [vI 0]) (h1 := h22) (P := True ∧ True) (by decide +kernel) rfl rfl ⟨trivial, trivial⟩ ?_
              cases hF
              exact hR.2.1 174 _ _ _ (by decide +kernel) rfl (by decide) ⟨rfl, rfl⟩
            · have hF := ite_f hc29 hF
              refine g_seg hK [.aload_n 0, .iload_n 1, .iconst 0] 96 99 (L1 := [(0, vR 0), (1, vI p2), (2, vI r1), (5, vI (wr (r4 + r7))), (6, vI s12), (7, vI r14), (8, vI r17)]) (st1 := [vI 0, vI p2, vR 0]) (h1 := h22) (P := True ∧ True ∧ True ∧ True) (by decide +kernel) rfl rfl ⟨trivial, trivial, trivial, trivial⟩ ?_
              obtain ⟨r30, h31, e32, hF⟩ := ob2_elim hF
              refine g_callV1 hK 99 31 (d1 := 6) (ci := 6) (i := 0) (vs := [vI p2, vI 0]) (rest := []) (h1 := h31) (r := vI r30) my_yX6_whyNot vw_X9_31 (by decide) (T_X_whyNot (p1 := p2) (p2 := 0) (h := h22) (hF := e32)) rfl rfl rfl (Nat.le_of_ble_eq_true rfl) (by decide +kernel) ?_
              obtain ⟨s33, e101, hF⟩ := jn1_elim hF
              have j34 : K 110 [(0, vR 0), (1, vI p2), (2, vI r1), (5, vI (wr (r4 + r7))), (6, vI s12), (7, vI r14), (8, vI r17)] [vI s33] h31 := by
                refine g_seg hK [.iload 7] 110 112 (L1 := [(0, vR 0), (1, vI p2), (2, vI r1), (5, vI (wr (r4 + r7))), (6, vI s12), (7, vI r14), (8, vI r17)]) (st1 := [vI r14, vI s33]) (h1 := h31) (P := True ∧ True) (by decide +kernel) rfl rfl ⟨trivial, trivial⟩ ?_
                obtain ⟨s36, e100, hF⟩ := jn1_elim hF
                have j37 : K 120 [(0, vR 0), (1, vI p2), (2, vI r1), (5, vI (wr (r4 + r7))), (6, vI s12), (7, vI r14), (8, vI r17)] [vI s36, vI s33] h31 := by
                  refine g_icmp hK 120 .ne (53) 173 (t1 := 123) (t2 := 173) (by decide +kernel) (by decide) rfl rfl (fun (hc39 : s33 = s36) => ?_) (fun (hc39 : ¬ (s33 = s36)) => ?_)
                  · have hF := ite_t hc39 hF
                    refine g_seg hK [.aload_n 0, .iload_n 1, .iconst 1] 123 126 (L1 := [(0, vR 0), (1, vI p2), (2, vI r1), (5, vI (wr (r4 + r7))), (6, vI s12), (7, vI r14), (8, vI r17)]) (st1 := [vI 1, vI p2, vR 0]) (h1 := h31) (P := True ∧ True ∧ True ∧ True) (by decide +kernel) rfl rfl ⟨trivial, trivial, trivial, trivial⟩ ?_
                    obtain ⟨r40, h41, e42, hF⟩ := ob2_elim hF
                    refine g_callV1 hK 126 31 (d1 := 6) (ci := 6) (i := 0) (vs := [vI p2, vI 1]) (rest := []) (h1 := h41) (r := vI r40) my_yX6_whyNot vw_X9_31 (by decide) (T_X_whyNot (p1 := p2) (p2 := 1) (h := h31) (hF := e42)) rfl rfl rfl (Nat.le_of_ble_eq_true rfl) (by decide +kernel) ?_
                    obtain ⟨s43, e99, hF⟩ := jn1_elim hF
                    have j44 : K 137 [(0, vR 0), (1, vI p2), (2, vI r1), (5, vI (wr (r4 + r7))), (6, vI s12), (7, vI r14), (8, vI r17)] [vI s43] h41 := by
                      refine g_seg hK [.iload 8] 137 139 (L1 := [(0, vR 0), (1, vI p2), (2, vI r1), (5, vI (wr (r4 + r7))), (6, vI s12), (7, vI r14), (8, vI r17)]) (st1 := [vI r17, vI s43]) (h1 := h41) (P := True ∧ True) (by decide +kernel) rfl rfl ⟨trivial, trivial⟩ ?_
                      obtain ⟨s46, e98, hF⟩ := jn1_elim hF
                      have j47 : K 147 [(0, vR 0), (1, vI p2), (2, vI r1), (5, vI (wr (r4 + r7))), (6, vI s12), (7, vI r14), (8, vI r17)] [vI s46, vI s43] h41 := by
                        refine g_icmp hK 147 .ne (26) 173 (t1 := 150) (t2 := 173) (by decide +kernel) (by decide) rfl rfl (fun (hc49 : s43 = s46) => ?_) (fun (hc49 : ¬ (s43 = s46)) => ?_)
                        · have hF := ite_t hc49 hF
                          refine g_seg hK [.iload 6] 150 152 (L1 := [(0, vR 0), (1, vI p2), (2, vI r1), (5, vI (wr (r4 + r7))), (6, vI s12), (7, vI r14), (8, vI r17)]) (st1 := [vI s12]) (h1 := h41) (P := True ∧ True) (by decide +kernel) rfl rfl ⟨trivial, trivial⟩ ?_
                          obtain ⟨kj51, e91, hF⟩ := jk1_elim hF
                          have j51 : ∀ (h50 : MH), kj51 h50 = some (r, h') → K 175 [(0, vR 0), (1, vI p2), (2, vI r1), (5, vI (wr (r4 + r7))), (7, vI r14), (8, vI r17)] [] h50 := by
                            intro h50 hF
                            have hF := (e91 h50).symm.trans hF
                            refine g_seg hK [.iconst (-1), .istore 9, .iload_n 2, .iload 7, .isub, .istore 10] 175 184 (L1 := [(10, vI (wr (r1 - r14))), (9, vI (-1)), (0, vR 0), (1, vI p2), (2, vI r1), (5, vI (wr (r4 + r7))), (7, vI r14), (8, vI r17)]) (st1 := []) (h1 := h50) (P := True ∧ True ∧ True ∧ True ∧ True ∧ True ∧ True) (by decide +kernel) rfl rfl ⟨trivial, trivial, trivial, trivial, trivial, trivial, trivial⟩ ?_
                            refine hK.2.1 _ _ ([(0, vR 0), (1, vI p2), (2, vI r1), (5, vI (wr (r4 + r7))), (8, vI r17), (9, vI (-1)), (10, vI (wr (r1 - r14)))]) _ _ (sub_of [2, 3, 4, 5, 7, 1, 0] rfl) ?_
                            obtain ⟨out57, e55, hr58, hx59⟩ := os_elim hF
                            refine LT_L_isHunk_L184 hK hR _ _ _ _ out57 e55 ?_ ?_
                            · intro a ha
                              have hF := hr58 a ha
                              cases hF
                              exact ⟨rfl, rfl⟩
                            · intro q56 hq
                              have hF := hx59 q56 hq
                              refine g_seg hK [.aload_n 0, .iload_n 1, .bipush 8] 427 431 (L1 := [(0, vR 0), (1, vI p2), (2, vI r1), (5, vI (wr (r4 + r7))), (8, vI r17), (9, vI q56.1), (10, vI q56.2.1)]) (st1 := [vI 8, vI p2, vR 0]) (h1 := q56.2.2) (P := True ∧ True ∧ True ∧ True) (by decide +kernel) rfl rfl ⟨trivial, trivial, trivial, trivial⟩ ?_
                              obtain ⟨r60, h61, e62, hF⟩ := ob2_elim hF
                              refine g_callV1 hK 431 21 (d1 := 6) (ci := 6) (i := 0) (vs := [vI p2, vI 8]) (rest := []) (h1 := h61) (r := vI r60) my_yX6_hunk vw_X9_21 (by decide) (T_X_hunk (p1 := p2) (p2 := 8) (h := q56.2.2) (hF := e62)) rfl rfl rfl (Nat.le_of_ble_eq_true rfl) (by decide +kernel) ?_
                              refine g_seg hK [.istore 10, .aload_n 0, .iload_n 1, .bipush 9] 434 440 (L1 := [(10, vI r60), (0, vR 0), (1, vI p2), (2, vI r1), (5, vI (wr (r4 + r7))), (8, vI r17), (9, vI q56.1)]) (st1 := [vI 9, vI p2, vR 0]) (h1 := h61) (P := True ∧ True ∧ True ∧ True ∧ True) (by decide +kernel) rfl rfl ⟨trivial, trivial, trivial, trivial, trivial⟩ ?_
                              obtain ⟨r63, h64, e65, hF⟩ := ob2_elim hF
                              refine g_callV1 hK 440 21 (d1 := 6) (ci := 6) (i := 0) (vs := [vI p2, vI 9]) (rest := []) (h1 := h64) (r := vI r63) my_yX6_hunk vw_X9_21 (by decide) (T_X_hunk (p1 := p2) (p2 := 9) (h := h61) (hF := e65)) rfl rfl rfl (Nat.le_of_ble_eq_true rfl) (by decide +kernel) ?_
                              refine g_seg hK [.istore 11, .aload_n 0, .iload_n 1, .bipush 7] 443 449 (L1 := [(11, vI r63), (10, vI r60), (0, vR 0), (1, vI p2), (2, vI r1), (5, vI (wr (r4 + r7))), (8, vI r17), (9, vI q56.1)]) (st1 := [vI 7, vI p2, vR 0]) (h1 := h64) (P := True ∧ True ∧ True ∧ True ∧ True) (by decide +kernel) rfl rfl ⟨trivial, trivial, trivial, trivial, trivial⟩ ?_
                              obtain ⟨r66, h67, e68, hF⟩ := ob2_elim hF
                              refine g_callV1 hK 449 21 (d1 := 6) (ci := 6) (i := 0) (vs := [vI p2, vI 7]) (rest := []) (h1 := h67) (r := vI r66) my_yX6_hunk vw_X9_21 (by decide) (T_X_hunk (p1 := p2) (p2 := 7) (h := h64) (hF := e68)) rfl rfl rfl (Nat.le_of_ble_eq_true rfl) (by decide +kernel) ?_
                              refine g_seg hK [.iload 9] 452 454 (L1 := [(11, vI r63), (10, vI r60), (0, vR 0), (1, vI p2), (2, vI r1), (5, vI (wr (r4 + r7))), (8, vI r17), (9, vI q56.1)]) (st1 := [vI q56.1, vI r66]) (h1 := h67) (P := True ∧ True) (by decide +kernel) rfl rfl ⟨trivial, trivial⟩ ?_
                              obtain ⟨kj73, e79, hF⟩ := jk2_elim hF
                              have j73 : ∀ (s71 : Int) (h72 : MH), kj73 s71 h72 = some (r, h') → K 490 [(0, vR 0), (2, vI r1), (10, vI r60)] [vI s71] h72 := by
                                intro s71 h72 hF
                                have hF := (e79 s71 h72).symm.trans hF
                                refine g_seg hK [.istore 12, .iconst 1, .istore 13] 490 495 (L1 := [(13, vI 1), (12, vI s71), (0, vR 0), (2, vI r1), (10, vI r60)]) (st1 := []) (h1 := h72) (P := True ∧ True ∧ True ∧ True) (by decide +kernel) rfl rfl ⟨trivial, trivial, trivial, trivial⟩ ?_
                                refine hK.2.1 _ _ ([(0, vR 0), (2, vI r1), (10, vI r60), (12, vI s71), (13, vI 1)]) _ _ (sub_of [2, 3, 4, 1, 0] rfl) ?_
                                obtain ⟨x12_74, x13_75, h76, e77, hF⟩ := ob3_elim hF
                                refine LT_L_isHunk_L495 hK _ _ _ _ _ _ _ e77 ?_
                                refine g_seg hK [.iload 12] 583 585 (L1 := [(0, vR 0), (2, vI r1), (10, vI r60), (12, vI x12_74), (13, vI x13_75)]) (st1 := [vI x12_74]) (h1 := h76) (P := True ∧ True) (by decide +kernel) rfl rfl ⟨trivial, trivial⟩ ?_
                                obtain ⟨hg78, hF⟩ := gd_elim hF
                                cases hF
                                exact hR.2.1 585 _ _ _ (by decide +kernel) rfl hg78 ⟨rfl, rfl⟩
                              obtain ⟨kj70, e80, hF⟩ := jk1_elim hF
                              have j70 : ∀ (h69 : MH), kj70 h69 = some (r, h') → K 489 [(0, vR 0), (2, vI r1), (10, vI r60)] [] h69 := by
                                intro h69 hF
                                have hF := (e80 h69).symm.trans hF
                                refine g_seg hK [.iconst 0] 489 490 (L1 := [(0, vR 0), (2, vI r1), (10, vI r60)]) (st1 := [vI 0]) (h1 := h69) (P := True ∧ True) (by decide +kernel) rfl rfl ⟨trivial, trivial⟩ ?_
                                exact j73 _ _ hF
                              refine g_icmp hK 454 .ne (35) 489 (t1 := 457) (t2 := 489) (by decide +kernel) (by decide) rfl rfl (fun (hc81 : r66 = q56.1) => ?_) (fun (hc81 : ¬ (r66 = q56.1)) => ?_)
                              · have hF := ite_t hc81 hF
                                refine g_seg hK [.iload 10, .aload_n 0, .bipush 14] 457 462 (L1 := [(11, vI r63), (10, vI r60), (0, vR 0), (1, vI p2), (2, vI r1), (5, vI (wr (r4 + r7))), (8, vI r17), (9, vI q56.1)]) (st1 := [vI 14, vR 0, vI r60]) (h1 := h67) (P := True ∧ True ∧ True ∧ True) (by decide +kernel) rfl rfl ⟨trivial, trivial, trivial, trivial⟩ ?_
                                obtain ⟨r82, h83, e84, hF⟩ := ob2_elim hF
                                refine g_callV1 hK 462 8 (d1 := 6) (ci := 6) (i := 0) (vs := [vI 14]) (rest := [vI r60]) (h1 := h83) (r := vI r82) my_yX6_count vw_X9_8 (by decide) (T_X_count (p1 := 14) (h := h67) (hF := e84)) rfl rfl rfl (Nat.le_of_ble_eq_true rfl) (by decide +kernel) ?_
                                refine g_icmp hK 465 .gt (24) 489 (t1 := 468) (t2 := 489) (by decide +kernel) (by decide) rfl rfl (fun (hc85 : r60 ≤ r82) => ?_) (fun (hc85 : ¬ (r60 ≤ r82)) => ?_)
                                · have hF := ite_t hc85 hF
                                  refine g_seg hK [.iload 11, .aload_n 0, .bipush 14] 468 473 (L1 := [(11, vI r63), (10, vI r60), (0, vR 0), (1, vI p2), (2, vI r1), (5, vI (wr (r4 + r7))), (8, vI r17), (9, vI q56.1)]) (st1 := [vI 14, vR 0, vI r63]) (h1 := h83) (P := True ∧ True ∧ True ∧ True) (by decide +kernel) rfl rfl ⟨trivial, trivial, trivial, trivial⟩ ?_
                                  obtain ⟨r86, h87, e88, hF⟩ := ob2_elim hF
                                  refine g_callV1 hK 473 8 (d1 := 6) (ci := 6) (i := 0) (vs := [vI 14]) (rest := [vI r63]) (h1 := h87) (r := vI r86) my_yX6_count vw_X9_8 (by decide) (T_X_count (p1 := 14) (h := h83) (hF := e88)) rfl rfl rfl (Nat.le_of_ble_eq_true rfl) (by decide +kernel) ?_
                                  refine g_icmp hK 476 .gt (13) 489 (t1 := 479) (t2 := 489) (by decide +kernel) (by decide) rfl rfl (fun (hc89 : r63 ≤ r86) => ?_) (fun (hc89 : ¬ (r63 ≤ r86)) => ?_)
                                  · have hF := ite_t hc89 hF
                                    refine g_seg hK [.iload 10, .iload_n 2] 479 482 (L1 := [(11, vI r63), (10, vI r60), (0, vR 0), (1, vI p2), (2, vI r1), (5, vI (wr (r4 + r7))), (8, vI r17), (9, vI q56.1)]) (st1 := [vI r1, vI r60]) (h1 := h87) (P := True ∧ True ∧ True) (by decide +kernel) rfl rfl ⟨trivial, trivial, trivial⟩ ?_
                                    refine g_icmp hK 482 .gt (7) 489 (t1 := 485) (t2 := 489) (by decide +kernel) (by decide) rfl rfl (fun (hc90 : r60 ≤ r1) => ?_) (fun (hc90 : ¬ (r60 ≤ r1)) => ?_)
                                    · have hF := ite_t hc90 hF
                                      refine g_seg hK [.iconst 1] 485 486 (L1 := [(11, vI r63), (10, vI r60), (0, vR 0), (1, vI p2), (2, vI r1), (5, vI (wr (r4 + r7))), (8, vI r17), (9, vI q56.1)]) (st1 := [vI 1]) (h1 := h87) (P := True ∧ True) (by decide +kernel) rfl rfl ⟨trivial, trivial⟩ ?_
                                      refine g_goto hK 486 (4) 490 (by decide +kernel) (by decide) ?_
                                      refine hK.2.1 _ _ ([(0, vR 0), (2, vI r1), (10, vI r60)]) _ _ (sub_of [2, 4, 1] rfl) ?_
                                      exact j73 _ _ hF
                                    · have hF := ite_f hc90 hF
                                      refine hK.2.1 _ _ ([(0, vR 0), (2, vI r1), (10, vI r60)]) _ _ (sub_of [2, 4, 1] rfl) ?_
                                      exact j70 _ hF
                                  · have hF := ite_f hc89 hF
                                    refine hK.2.1 _ _ ([(0, vR 0), (2, vI r1), (10, vI r60)]) _ _ (sub_of [2, 4, 1] rfl) ?_
                                    exact j70 _ hF
                                · have hF := ite_f hc85 hF
                                  refine hK.2.1 _ _ ([(0, vR 0), (2, vI r1), (10, vI r60)]) _ _ (sub_of [2, 4, 1] rfl) ?_
                                  exact j70 _ hF
                              · have hF := ite_f hc81 hF
                                refine hK.2.1 _ _ ([(0, vR 0), (2, vI r1), (10, vI r60)]) _ _ (sub_of [2, 4, 1] rfl) ?_
                                exact j70 _ hF
                          refine g_ifz hK 152 .ne (23) 175 (t1 := 155) (t2 := 175) (by decide +kernel) (by decide) rfl rfl (fun (hc92 : s12 = 0) => ?_) (fun (hc92 : ¬ (s12 = 0)) => ?_)
                          · have hF := ite_t hc92 hF
                            refine g_seg hK [.iload 7, .iload 8, .iadd] 155 160 (L1 := [(0, vR 0), (1, vI p2), (2, vI r1), (5, vI (wr (r4 + r7))), (6, vI s12), (7, vI r14), (8, vI r17)]) (st1 := [vI (wr (r14 + r17))]) (h1 := h41) (P := True ∧ True ∧ True ∧ True) (by decide +kernel) rfl rfl ⟨trivial, trivial, trivial, trivial⟩ ?_
                            refine g_ifz hK 160 .gt (13) 173 (t1 := 163) (t2 := 173) (by decide +kernel) (by decide) rfl rfl (fun (hc93 : wr (r14 + r17) ≤ 0) => ?_) (fun (hc93 : ¬ (wr (r14 + r17) ≤ 0)) => ?_)
                            · have hF := ite_t hc93 hF
                              refine g_seg hK [.aload_n 0, .iload_n 1, .iconst 1] 163 166 (L1 := [(0, vR 0), (1, vI p2), (2, vI r1), (5, vI (wr (r4 + r7))), (6, vI s12), (7, vI r14), (8, vI r17)]) (st1 := [vI 1, vI p2, vR 0]) (h1 := h41) (P := True ∧ True ∧ True ∧ True) (by decide +kernel) rfl rfl ⟨trivial, trivial, trivial, trivial⟩ ?_
                              obtain ⟨r94, h95, e96, hF⟩ := ob2_elim hF
                              refine g_callV1 hK 166 31 (d1 := 6) (ci := 6) (i := 0) (vs := [vI p2, vI 1]) (rest := []) (h1 := h95) (r := vI r94) my_yX6_whyNot vw_X9_31 (by decide) (T_X_whyNot (p1 := p2) (p2 := 1) (h := h41) (hF := e96)) rfl rfl rfl (Nat.le_of_ble_eq_true rfl) (by decide +kernel) ?_
                              refine g_seg hK [.iconst 1] 169 170 (L1 := [(0, vR 0), (1, vI p2), (2, vI r1), (5, vI (wr (r4 + r7))), (6, vI s12), (7, vI r14), (8, vI r17)]) (st1 := [vI 1, vI r94]) (h1 := h95) (P := True ∧ True) (by decide +kernel) rfl rfl ⟨trivial, trivial⟩ ?_
                              refine g_icmp hK 170 .eq (5) 175 (t1 := 175) (t2 := 173) (by decide +kernel) (by decide) rfl rfl (fun (hc97 : r94 = 1) => ?_) (fun (hc97 : ¬ (r94 = 1)) => ?_)
                              · have hF := ite_t hc97 hF
                                refine hK.2.1 _ _ ([(0, vR 0), (1, vI p2), (2, vI r1), (5, vI (wr (r4 + r7))), (7, vI r14), (8, vI r17)]) _ _ (sub_of [0, 1, 2, 3, 5, 6] rfl) ?_
                                exact j51 _ hF
                              · have hF := ite_f hc97 hF
                                refine g_seg hK [.iconst 0] 173 174 (L1 := [(0, vR 0), (1, vI p2), (2, vI r1), (5, vI (wr (r4 + r7))), (6, vI s12), (7, vI r14), (8, vI r17)]) (st1 := [vI 0]) (h1 := h95) (P := True ∧ True) (by decide +kernel) rfl rfl ⟨trivial, trivial⟩ ?_
                                cases hF
                                exact hR.2.1 174 _ _ _ (by decide +kernel) rfl (by decide) ⟨rfl, rfl⟩
                            · have hF := ite_f hc93 hF
                              refine g_seg hK [.iconst 0] 173 174 (L1 := [(0, vR 0), (1, vI p2), (2, vI r1), (5, vI (wr (r4 + r7))), (6, vI s12), (7, vI r14), (8, vI r17)]) (st1 := [vI 0]) (h1 := h41) (P := True ∧ True) (by decide +kernel) rfl rfl ⟨trivial, trivial⟩ ?_
                              cases hF
                              exact hR.2.1 174 _ _ _ (by decide +kernel) rfl (by decide) ⟨rfl, rfl⟩
                          · have hF := ite_f hc92 hF
                            refine hK.2.1 _ _ ([(0, vR 0), (1, vI p2), (2, vI r1), (5, vI (wr (r4 + r7))), (7, vI r14), (8, vI r17)]) _ _ (sub_of [0, 1, 2, 3, 5, 6] rfl) ?_
                            exact j51 _ hF
                        · have hF := ite_f hc49 hF
                          refine g_seg hK [.iconst 0] 173 174 (L1 := [(0, vR 0), (1, vI p2), (2, vI r1), (5, vI (wr (r4 + r7))), (6, vI s12), (7, vI r14), (8, vI r17)]) (st1 := [vI 0]) (h1 := h41) (P := True ∧ True) (by decide +kernel) rfl rfl ⟨trivial, trivial⟩ ?_
                          cases hF
                          exact hR.2.1 174 _ _ _ (by decide +kernel) rfl (by decide) ⟨rfl, rfl⟩
                      clear hF
                      have hF := e98
                      refine g_ifz hK 139 .le (7) 146 (t1 := 146) (t2 := 142) (by decide +kernel) (by decide) rfl rfl (fun (hc48 : r17 ≤ 0) => ?_) (fun (hc48 : ¬ (r17 ≤ 0)) => ?_)
                      · have hF := ite_t hc48 hF
                        refine g_seg hK [.iconst 0] 146 147 (L1 := [(0, vR 0), (1, vI p2), (2, vI r1), (5, vI (wr (r4 + r7))), (6, vI s12), (7, vI r14), (8, vI r17)]) (st1 := [vI 0, vI s43]) (h1 := h41) (P := True ∧ True) (by decide +kernel) rfl rfl ⟨trivial, trivial⟩ ?_
                        cases hF
                        exact j47
                      · have hF := ite_f hc48 hF
                        refine g_seg hK [.iconst 1] 142 143 (L1 := [(0, vR 0), (1, vI p2), (2, vI r1), (5, vI (wr (r4 + r7))), (6, vI s12), (7, vI r14), (8, vI r17)]) (st1 := [vI 1, vI s43]) (h1 := h41) (P := True ∧ True) (by decide +kernel) rfl rfl ⟨trivial, trivial⟩ ?_
                        refine g_goto hK 143 (4) 147 (by decide +kernel) (by decide) ?_
                        cases hF
                        exact j47
                    clear hF
                    have hF := e99
                    refine g_ifz hK 129 .ne (7) 136 (t1 := 132) (t2 := 136) (by decide +kernel) (by decide) rfl rfl (fun (hc45 : r40 = 0) => ?_) (fun (hc45 : ¬ (r40 = 0)) => ?_)
                    · have hF := ite_t hc45 hF
                      refine g_seg hK [.iconst 1] 132 133 (L1 := [(0, vR 0), (1, vI p2), (2, vI r1), (5, vI (wr (r4 + r7))), (6, vI s12), (7, vI r14), (8, vI r17)]) (st1 := [vI 1]) (h1 := h41) (P := True ∧ True) (by decide +kernel) rfl rfl ⟨trivial, trivial⟩ ?_
                      refine g_goto hK 133 (4) 137 (by decide +kernel) (by decide) ?_
                      cases hF
                      exact j44
                    · have hF := ite_f hc45 hF
                      refine g_seg hK [.iconst 0] 136 137 (L1 := [(0, vR 0), (1, vI p2), (2, vI r1), (5, vI (wr (r4 + r7))), (6, vI s12), (7, vI r14), (8, vI r17)]) (st1 := [vI 0]) (h1 := h41) (P := True ∧ True) (by decide +kernel) rfl rfl ⟨trivial, trivial⟩ ?_
                      cases hF
                      exact j44
                  · have hF := ite_f hc39 hF
                    refine g_seg hK [.iconst 0] 173 174 (L1 := [(0, vR 0), (1, vI p2), (2, vI r1), (5, vI (wr (r4 + r7))), (6, vI s12), (7, vI r14), (8, vI r17)]) (st1 := [vI 0]) (h1 := h31) (P := True ∧ True) (by decide +kernel) rfl rfl ⟨trivial, trivial⟩ ?_
                    cases hF
                    exact hR.2.1 174 _ _ _ (by decide +kernel) rfl (by decide) ⟨rfl, rfl⟩
                clear hF
                have hF := e100
                refine g_ifz hK 112 .le (7) 119 (t1 := 119) (t2 := 115) (by decide +kernel) (by decide) rfl rfl (fun (hc38 : r14 ≤ 0) => ?_) (fun (hc38 : ¬ (r14 ≤ 0)) => ?_)
                · have hF := ite_t hc38 hF
                  refine g_seg hK [.iconst 0] 119 120 (L1 := [(0, vR 0), (1, vI p2), (2, vI r1), (5, vI (wr (r4 + r7))), (6, vI s12), (7, vI r14), (8, vI r17)]) (st1 := [vI 0, vI s33]) (h1 := h31) (P := True ∧ True) (by decide +kernel) rfl rfl ⟨trivial, trivial⟩ ?_
                  cases hF
                  exact j37
                · have hF := ite_f hc38 hF
                  refine g_seg hK [.iconst 1] 115 116 (L1 := [(0, vR 0), (1, vI p2), (2, vI r1), (5, vI (wr (r4 + r7))), (6, vI s12), (7, vI r14), (8, vI r17)]) (st1 := [vI 1, vI s33]) (h1 := h31) (P := True ∧ True) (by decide +kernel) rfl rfl ⟨trivial, trivial⟩ ?_
                  refine g_goto hK 116 (4) 120 (by decide +kernel) (by decide) ?_
                  cases hF
                  exact j37
              clear hF
              have hF := e101
              refine g_ifz hK 102 .ne (7) 109 (t1 := 105) (t2 := 109) (by decide +kernel) (by decide) rfl rfl (fun (hc35 : r30 = 0) => ?_) (fun (hc35 : ¬ (r30 = 0)) => ?_)
              · have hF := ite_t hc35 hF
                refine g_seg hK [.iconst 1] 105 106 (L1 := [(0, vR 0), (1, vI p2), (2, vI r1), (5, vI (wr (r4 + r7))), (6, vI s12), (7, vI r14), (8, vI r17)]) (st1 := [vI 1]) (h1 := h31) (P := True ∧ True) (by decide +kernel) rfl rfl ⟨trivial, trivial⟩ ?_
                refine g_goto hK 106 (4) 110 (by decide +kernel) (by decide) ?_
                cases hF
                exact j34
              · have hF := ite_f hc35 hF
                refine g_seg hK [.iconst 0] 109 110 (L1 := [(0, vR 0), (1, vI p2), (2, vI r1), (5, vI (wr (r4 + r7))), (6, vI s12), (7, vI r14), (8, vI r17)]) (st1 := [vI 0]) (h1 := h31) (P := True ∧ True) (by decide +kernel) rfl rfl ⟨trivial, trivial⟩ ?_
                cases hF
                exact j34
        · have hF := ite_f hc27 hF
          refine g_seg hK [.iconst 0] 173 174 (L1 := [(0, vR 0), (1, vI p2), (2, vI r1), (5, vI (wr (r4 + r7))), (6, vI s12), (7, vI r14), (8, vI r17)]) (st1 := [vI 0]) (h1 := h22) (P := True ∧ True) (by decide +kernel) rfl rfl ⟨trivial, trivial⟩ ?_
          cases hF
          exact hR.2.1 174 _ _ _ (by decide +kernel) rfl (by decide) ⟨rfl, rfl⟩
      clear hF
      have hF := e102
      refine g_icmp hK 73 .ne (7) 80 (t1 := 76) (t2 := 80) (by decide +kernel) (by decide) rfl rfl (fun (hc26 : r21 = 1) => ?_) (fun (hc26 : ¬ (r21 = 1)) => ?_)
      · have hF := ite_t hc26 hF
        refine g_seg hK [.iconst 1] 76 77 (L1 := [(8, vI r17), (7, vI r14), (6, vI s12), (0, vR 0), (1, vI p2), (2, vI r1), (5, vI (wr (r4 + r7)))]) (st1 := [vI 1]) (h1 := h22) (P := True ∧ True) (by decide +kernel) rfl rfl ⟨trivial, trivial⟩ ?_
        refine g_goto hK 77 (4) 81 (by decide +kernel) (by decide) ?_
        refine hK.2.1 _ _ ([(0, vR 0), (1, vI p2), (2, vI r1), (5, vI (wr (r4 + r7))), (6, vI s12), (7, vI r14), (8, vI r17)]) _ _ (sub_of [3, 4, 5, 6, 2, 1, 0] rfl) ?_
        cases hF
        exact j25
      · have hF := ite_f hc26 hF
        refine g_seg hK [.iconst 0] 80 81 (L1 := [(8, vI r17), (7, vI r14), (6, vI s12), (0, vR 0), (1, vI p2), (2, vI r1), (5, vI (wr (r4 + r7)))]) (st1 := [vI 0]) (h1 := h22) (P := True ∧ True) (by decide +kernel) rfl rfl ⟨trivial, trivial⟩ ?_
        refine hK.2.1 _ _ ([(0, vR 0), (1, vI p2), (2, vI r1), (5, vI (wr (r4 + r7))), (6, vI s12), (7, vI r14), (8, vI r17)]) _ _ (sub_of [3, 4, 5, 6, 2, 1, 0] rfl) ?_
        cases hF
        exact j25
  obtain ⟨kj11, e104, hF⟩ := jk1_elim hF
  have j11 : ∀ (u10 : Unit), kj11 u10 = some (r, h') → K 37 [(0, vR 0), (1, vI p2), (2, vI r1), (5, vI (wr (r4 + r7)))] [] h8 := by
    intro u10 hF
    have hF := (e104 u10).symm.trans hF
    refine g_seg hK [.iconst 1] 37 38 (L1 := [(0, vR 0), (1, vI p2), (2, vI r1), (5, vI (wr (r4 + r7)))]) (st1 := [vI 1]) (h1 := h8) (P := True ∧ True) (by decide +kernel) rfl rfl ⟨trivial, trivial⟩ ?_
    refine g_goto hK 38 (4) 42 (by decide +kernel) (by decide) ?_
    exact j13 _ hF
  refine g_ifz hK 29 .eq (8) 37 (t1 := 37) (t2 := 32) (by decide +kernel) (by decide) rfl rfl (fun (hc105 : r4 = 0) => ?_) (fun (hc105 : ¬ (r4 = 0)) => ?_)
  · have hF := ite_t hc105 hF
    refine hK.2.1 _ _ ([(0, vR 0), (1, vI p2), (2, vI r1), (5, vI (wr (r4 + r7)))]) _ _ (sub_of [4, 5, 3, 0] rfl) ?_
    exact j11 _ hF
  · have hF := ite_f hc105 hF
    refine g_seg hK [.iload 4] 32 34 (L1 := [(5, vI (wr (r4 + r7))), (4, vI r7), (3, vI r4), (2, vI r1), (0, vR 0), (1, vI p2)]) (st1 := [vI r7]) (h1 := h8) (P := True ∧ True) (by decide +kernel) rfl rfl ⟨trivial, trivial⟩ ?_
    refine g_ifz hK 34 .ne (7) 41 (t1 := 37) (t2 := 41) (by decide +kernel) (by decide) rfl rfl (fun (hc106 : r7 = 0) => ?_) (fun (hc106 : ¬ (r7 = 0)) => ?_)
    · have hF := ite_t hc106 hF
      refine hK.2.1 _ _ ([(0, vR 0), (1, vI p2), (2, vI r1), (5, vI (wr (r4 + r7)))]) _ _ (sub_of [4, 5, 3, 0] rfl) ?_
      exact j11 _ hF
    · have hF := ite_f hc106 hF
      refine g_seg hK [.iconst 0] 41 42 (L1 := [(5, vI (wr (r4 + r7))), (4, vI r7), (3, vI r4), (2, vI r1), (0, vR 0), (1, vI p2)]) (st1 := [vI 0]) (h1 := h8) (P := True ∧ True) (by decide +kernel) rfl rfl ⟨trivial, trivial⟩ ?_
      refine hK.2.1 _ _ ([(0, vR 0), (1, vI p2), (2, vI r1), (5, vI (wr (r4 + r7)))]) _ _ (sub_of [4, 5, 3, 0] rfl) ?_
      exact j13 _ hF
set_option maxHeartbeats 4000000 in
set_option maxRecDepth 100000 in
theorem LT_L_isLaid_L58 {K : KT} (hK : Rules RX9 cL_isLaid 12 (Option.some Jvm.ClassFile.FieldType.boolean) flX9 7 K) {x1 : Int} {x2 : Int} {x3 : Int} {x4 : Int} {x5 : Int} {x6 : Int} {x7 : Int} {x8 : Int} : ∀ (n : Nat) (x9 : Int) (h : MH) (x9' : Int) (h' : MH), F_L_isLaid_L58 x1 x2 x3 x4 x5 x6 x7 x8 n x9 h = some (x9', h') → K 89 [(0, vR 0), (1, vI x1), (2, vI x2), (3, vI x3), (4, vI x4), (5, vI x5), (6, vI x6), (7, vI x7), (8, vI x8), (9, vI x9')] [] h' → K 58 [(0, vR 0), (1, vI x1), (2, vI x2), (3, vI x3), (4, vI x4), (5, vI x5), (6, vI x6), (7, vI x7), (8, vI x8), (9, vI x9)] [] h := by
  intro n
  induction n with
  | zero =>
    intro x9 h x9' h' hF
    cases hF
  | succ n ih =>
    intro x9 h x9' h' hF hE
    unfold F_L_isLaid_L58 at hF
    refine g_seg hK [.iload 9, .bipush 14] 58 62 (L1 := [(0, vR 0), (1, vI x1), (2, vI x2), (3, vI x3), (4, vI x4), (5, vI x5), (6, vI x6), (7, vI x7), (8, vI x8), (9, vI x9)]) (st1 := [vI 14, vI x9]) (h1 := h) (P := True ∧ True ∧ True) (by decide +kernel) rfl rfl ⟨trivial, trivial, trivial⟩ ?_
    refine g_icmp hK 62 .ge (27) 89 (t1 := 65) (t2 := 89) (by decide +kernel) (by decide) rfl rfl (fun (hc1 : x9 < 14) => ?_) (fun (hc1 : ¬ (x9 < 14)) => ?_)
    · have hF := ite_t hc1 hF
      refine g_seg hK [.aload_n 0, .iconst 2] 65 67 (L1 := [(0, vR 0), (1, vI x1), (2, vI x2), (3, vI x3), (4, vI x4), (5, vI x5), (6, vI x6), (7, vI x7), (8, vI x8), (9, vI x9)]) (st1 := [vI 2, vR 0]) (h1 := h) (P := True ∧ True ∧ True) (by decide +kernel) rfl rfl ⟨trivial, trivial, trivial⟩ ?_
      obtain ⟨r2, h3, e4, hF⟩ := ob2_elim hF
      refine g_callV1 hK 67 8 (d1 := 6) (ci := 6) (i := 0) (vs := [vI 2]) (rest := []) (h1 := h3) (r := vI r2) my_yX6_count vw_X9_8 (by decide) (T_X_count (p1 := 2) (h := h) (hF := e4)) rfl rfl rfl (Nat.le_of_ble_eq_true rfl) (by decide +kernel) ?_
      refine g_ifz hK 70 .le (19) 89 (t1 := 89) (t2 := 73) (by decide +kernel) (by decide) rfl rfl (fun (hc5 : r2 ≤ 0) => ?_) (fun (hc5 : ¬ (r2 ≤ 0)) => ?_)
      · have hF := ite_t hc5 hF
        cases hF
        exact hE
      · have hF := ite_f hc5 hF
        refine g_seg hK [.aload_n 0, .iconst 2, .iconst 0, .bipush 20] 73 78 (L1 := [(0, vR 0), (1, vI x1), (2, vI x2), (3, vI x3), (4, vI x4), (5, vI x5), (6, vI x6), (7, vI x7), (8, vI x8), (9, vI x9)]) (st1 := [vI 20, vI 0, vI 2, vR 0]) (h1 := h3) (P := True ∧ True ∧ True ∧ True ∧ True) (by decide +kernel) rfl rfl ⟨trivial, trivial, trivial, trivial, trivial⟩ ?_
        obtain ⟨r6, h7, e8, hF⟩ := ob2_elim hF
        refine g_callV1 hK 78 39 (d1 := 6) (ci := 6) (i := 0) (vs := [vI 2, vI 0, vI 20]) (rest := []) (h1 := h7) (r := vI r6) my_yX6_edit vw_X9_39 (by decide) (T_X_edit (p1 := 2) (p2 := 0) (p3 := 20) (h := h3) (hF := e8)) rfl rfl rfl (Nat.le_of_ble_eq_true rfl) (by decide +kernel) ?_
        refine g_seg hK [.istore 10, .iinc 9 1] 81 86 (L1 := [(9, vI (wr (x9 + 1))), (10, vI r6), (0, vR 0), (1, vI x1), (2, vI x2), (3, vI x3), (4, vI x4), (5, vI x5), (6, vI x6), (7, vI x7), (8, vI x8)]) (st1 := []) (h1 := h7) (P := True ∧ True ∧ True) (by decide +kernel) rfl rfl ⟨trivial, trivial, trivial⟩ ?_
        refine g_goto hK 86 (-28) 58 (by decide +kernel) (by decide) ?_
        refine hK.2.1 _ _ ([(0, vR 0), (1, vI x1), (2, vI x2), (3, vI x3), (4, vI x4), (5, vI x5), (6, vI x6), (7, vI x7), (8, vI x8), (9, vI (wr (x9 + 1)))]) _ _ (sub_of [2, 3, 4, 5, 6, 7, 8, 9, 10, 0] rfl) ?_
        exact ih _ _ _ _ hF hE
    · have hF := ite_f hc1 hF
      cases hF
      exact hE
set_option maxHeartbeats 4000000 in
set_option maxRecDepth 100000 in
theorem LT_L_isLaid_L92 {K : KT} (hK : Rules RX9 cL_isLaid 12 (Option.some Jvm.ClassFile.FieldType.boolean) flX9 7 K) {x1 : Int} {x2 : Int} {x3 : Int} {x4 : Int} {x5 : Int} {x6 : Int} {x7 : Int} {x8 : Int} : ∀ (n : Nat) (x9 : Int) (h : MH) (x9' : Int) (h' : MH), F_L_isLaid_L92 x1 x2 x3 x4 x5 x6 x7 x8 n x9 h = some (x9', h') → K 121 [(0, vR 0), (1, vI x1), (2, vI x2), (3, vI x3), (4, vI x4), (5, vI x5), (6, vI x6), (7, vI x7), (8, vI x8), (9, vI x9')] [] h' → K 92 [(0, vR 0), (1, vI x1), (2, vI x2), (3, vI x3), (4, vI x4), (5, vI x5), (6, vI x6), (7, vI x7), (8, vI x8), (9, vI x9)] [] h := by
  intro n
  induction n with
  | zero =>
    intro x9 h x9' h' hF
    cases hF
  | succ n ih =>
    intro x9 h x9' h' hF hE
    unfold F_L_isLaid_L92 at hF
    refine g_seg hK [.iload 9, .iload 4] 92 96 (L1 := [(0, vR 0), (1, vI x1), (2, vI x2), (3, vI x3), (4, vI x4), (5, vI x5), (6, vI x6), (7, vI x7), (8, vI x8), (9, vI x9)]) (st1 := [vI x4, vI x9]) (h1 := h) (P := True ∧ True ∧ True) (by decide +kernel) rfl rfl ⟨trivial, trivial, trivial⟩ ?_
    refine g_icmp hK 96 .ge (25) 121 (t1 := 99) (t2 := 121) (by decide +kernel) (by decide) rfl rfl (fun (hc1 : x9 < x4) => ?_) (fun (hc1 : ¬ (x9 < x4)) => ?_)
    · have hF := ite_t hc1 hF
      refine g_seg hK [.aload_n 0, .iconst 2, .iload 9, .aload_n 0, .iload_n 3, .iload 9] 99 107 (L1 := [(0, vR 0), (1, vI x1), (2, vI x2), (3, vI x3), (4, vI x4), (5, vI x5), (6, vI x6), (7, vI x7), (8, vI x8), (9, vI x9)]) (st1 := [vI x9, vI x3, vR 0, vI x9, vI 2, vR 0]) (h1 := h) (P := True ∧ True ∧ True ∧ True ∧ True ∧ True ∧ True) (by decide +kernel) rfl rfl ⟨trivial, trivial, trivial, trivial, trivial, trivial, trivial⟩ ?_
      refine g_callV1 hK 107 18 (d1 := 1) (ci := 6) (i := 0) (vs := [vI x3, vI x9]) (rest := [vI x9, vI 2, vR 0]) (h1 := h) (r := vI (F_X_line x3 x9 h)) my_yX6_line vw_X9_18 (by decide) (T_X_line (p1 := x3) (p2 := x9) (h := h) (hF := rfl)) rfl rfl rfl (Nat.le_of_ble_eq_true rfl) (by decide +kernel) ?_
      obtain ⟨r2, h3, e4, hF⟩ := ob2_elim hF
      refine g_callV1 hK 110 39 (d1 := 6) (ci := 6) (i := 0) (vs := [vI 2, vI x9, vI (F_X_line x3 x9 h)]) (rest := []) (h1 := h3) (r := vI r2) my_yX6_edit vw_X9_39 (by decide) (T_X_edit (p1 := 2) (p2 := x9) (p3 := (F_X_line x3 x9 h)) (h := h) (hF := e4)) rfl rfl rfl (Nat.le_of_ble_eq_true rfl) (by decide +kernel) ?_
      refine g_seg hK [.istore 10, .iinc 9 1] 113 118 (L1 := [(9, vI (wr (x9 + 1))), (10, vI r2), (0, vR 0), (1, vI x1), (2, vI x2), (3, vI x3), (4, vI x4), (5, vI x5), (6, vI x6), (7, vI x7), (8, vI x8)]) (st1 := []) (h1 := h3) (P := True ∧ True ∧ True) (by decide +kernel) rfl rfl ⟨trivial, trivial, trivial⟩ ?_
      refine g_goto hK 118 (-26) 92 (by decide +kernel) (by decide) ?_
      refine hK.2.1 _ _ ([(0, vR 0), (1, vI x1), (2, vI x2), (3, vI x3), (4, vI x4), (5, vI x5), (6, vI x6), (7, vI x7), (8, vI x8), (9, vI (wr (x9 + 1)))]) _ _ (sub_of [2, 3, 4, 5, 6, 7, 8, 9, 10, 0] rfl) ?_
      exact ih _ _ _ _ hF hE
    · have hF := ite_f hc1 hF
      cases hF
      exact hE
set_option maxHeartbeats 4000000 in
set_option maxRecDepth 100000 in
theorem LT_L_isLaid_L141 {K : KT} (hK : Rules RX9 cL_isLaid 12 (Option.some Jvm.ClassFile.FieldType.boolean) flX9 7 K) {x1 : Int} {x2 : Int} {x3 : Int} {x5 : Int} {x6 : Int} {x7 : Int} {x8 : Int} : ∀ (n : Nat) (x9 : Int) (x10 : Int) (h : MH) (x9' : Int) (x10' : Int) (h' : MH), F_L_isLaid_L141 x1 x2 x3 x5 x6 x7 x8 n x9 x10 h = some (x9', x10', h') → K 185 [(0, vR 0), (1, vI x1), (2, vI x2), (3, vI x3), (5, vI x5), (6, vI x6), (7, vI x7), (8, vI x8), (9, vI x9'), (10, vI x10')] [] h' → K 141 [(0, vR 0), (1, vI x1), (2, vI x2), (3, vI x3), (5, vI x5), (6, vI x6), (7, vI x7), (8, vI x8), (9, vI x9), (10, vI x10)] [] h := by
  intro n
  induction n with
  | zero =>
    intro x9 x10 h x9' x10' h' hF
    cases hF
  | succ n ih =>
    intro x9 x10 h x9' x10' h' hF hE
    unfold F_L_isLaid_L141 at hF
    refine g_seg hK [.iload 10, .iload_n 2] 141 144 (L1 := [(0, vR 0), (1, vI x1), (2, vI x2), (3, vI x3), (5, vI x5), (6, vI x6), (7, vI x7), (8, vI x8), (9, vI x9), (10, vI x10)]) (st1 := [vI x2, vI x10]) (h1 := h) (P := True ∧ True ∧ True) (by decide +kernel) rfl rfl ⟨trivial, trivial, trivial⟩ ?_
    refine g_icmp hK 144 .ge (41) 185 (t1 := 147) (t2 := 185) (by decide +kernel) (by decide) rfl rfl (fun (hc1 : x10 < x2) => ?_) (fun (hc1 : ¬ (x10 < x2)) => ?_)
    · have hF := ite_t hc1 hF
      refine g_seg hK [.iload 10, .bipush 28] 147 151 (L1 := [(0, vR 0), (1, vI x1), (2, vI x2), (3, vI x3), (5, vI x5), (6, vI x6), (7, vI x7), (8, vI x8), (9, vI x9), (10, vI x10)]) (st1 := [vI 28, vI x10]) (h1 := h) (P := True ∧ True ∧ True) (by decide +kernel) rfl rfl ⟨trivial, trivial, trivial⟩ ?_
      refine g_icmp hK 151 .ge (34) 185 (t1 := 154) (t2 := 185) (by decide +kernel) (by decide) rfl rfl (fun (hc2 : x10 < 28) => ?_) (fun (hc2 : ¬ (x10 < 28)) => ?_)
      · have hF := ite_t hc2 hF
        refine g_seg hK [.iload 9] 154 156 (L1 := [(0, vR 0), (1, vI x1), (2, vI x2), (3, vI x3), (5, vI x5), (6, vI x6), (7, vI x7), (8, vI x8), (9, vI x9), (10, vI x10)]) (st1 := [vI x9]) (h1 := h) (P := True ∧ True) (by decide +kernel) rfl rfl ⟨trivial, trivial⟩ ?_
        obtain ⟨kj7, e8, hF⟩ := jk2_elim hF
        have j7 : ∀ (s5 : Int) (h6 : MH), kj7 s5 h6 = some (x9', x10', h') → K 177 [(0, vR 0), (1, vI x1), (2, vI x2), (3, vI x3), (5, vI x5), (6, vI x6), (7, vI x7), (8, vI x8), (10, vI x10)] [vI s5] h6 := by
          intro s5 h6 hF
          have hF := (e8 s5 h6).symm.trans hF
          refine g_seg hK [.istore 9, .iinc 10 1] 177 182 (L1 := [(10, vI (wr (x10 + 1))), (9, vI s5), (0, vR 0), (1, vI x1), (2, vI x2), (3, vI x3), (5, vI x5), (6, vI x6), (7, vI x7), (8, vI x8)]) (st1 := []) (h1 := h6) (P := True ∧ True ∧ True) (by decide +kernel) rfl rfl ⟨trivial, trivial, trivial⟩ ?_
          refine g_goto hK 182 (-41) 141 (by decide +kernel) (by decide) ?_
          refine hK.2.1 _ _ ([(0, vR 0), (1, vI x1), (2, vI x2), (3, vI x3), (5, vI x5), (6, vI x6), (7, vI x7), (8, vI x8), (9, vI s5), (10, vI (wr (x10 + 1)))]) _ _ (sub_of [2, 3, 4, 5, 6, 7, 8, 9, 1, 0] rfl) ?_
          exact ih _ _ _ _ _ _ hF hE
        obtain ⟨kj4, e9, hF⟩ := jk1_elim hF
        have j4 : ∀ (h3 : MH), kj4 h3 = some (x9', x10', h') → K 176 [(0, vR 0), (1, vI x1), (2, vI x2), (3, vI x3), (5, vI x5), (6, vI x6), (7, vI x7), (8, vI x8), (10, vI x10)] [] h3 := by
          intro h3 hF
          have hF := (e9 h3).symm.trans hF
          refine g_seg hK [.iconst 0] 176 177 (L1 := [(0, vR 0), (1, vI x1), (2, vI x2), (3, vI x3), (5, vI x5), (6, vI x6), (7, vI x7), (8, vI x8), (10, vI x10)]) (st1 := [vI 0]) (h1 := h3) (P := True ∧ True) (by decide +kernel) rfl rfl ⟨trivial, trivial⟩ ?_
          exact j7 _ _ hF
        refine g_ifz hK 156 .eq (20) 176 (t1 := 176) (t2 := 159) (by decide +kernel) (by decide) rfl rfl (fun (hc10 : x9 = 0) => ?_) (fun (hc10 : ¬ (x9 = 0)) => ?_)
        · have hF := ite_t hc10 hF
          refine hK.2.1 _ _ ([(0, vR 0), (1, vI x1), (2, vI x2), (3, vI x3), (5, vI x5), (6, vI x6), (7, vI x7), (8, vI x8), (10, vI x10)]) _ _ (sub_of [0, 1, 2, 3, 4, 5, 6, 7, 9] rfl) ?_
          exact j4 _ hF
        · have hF := ite_f hc10 hF
          refine g_seg hK [.aload_n 0, .iload 10, .iload_n 1, .iconst 1] 159 164 (L1 := [(0, vR 0), (1, vI x1), (2, vI x2), (3, vI x3), (5, vI x5), (6, vI x6), (7, vI x7), (8, vI x8), (9, vI x9), (10, vI x10)]) (st1 := [vI 1, vI x1, vI x10, vR 0]) (h1 := h) (P := True ∧ True ∧ True ∧ True ∧ True) (by decide +kernel) rfl rfl ⟨trivial, trivial, trivial, trivial, trivial⟩ ?_
          obtain ⟨r11, h12, e13, hF⟩ := ob2_elim hF
          refine g_callV1 hK 164 43 (d1 := 6) (ci := 6) (i := 0) (vs := [vI x10, vI x1, vI 1]) (rest := []) (h1 := h12) (r := vI r11) my_yX6_ifLaid vw_X9_43 (by decide) (T_X_ifLaid (p1 := x10) (p2 := x1) (p3 := 1) (h := h) (hF := e13)) rfl rfl rfl (Nat.le_of_ble_eq_true rfl) (by decide +kernel) ?_
          refine g_seg hK [.bipush 100] 167 169 (L1 := [(0, vR 0), (1, vI x1), (2, vI x2), (3, vI x3), (5, vI x5), (6, vI x6), (7, vI x7), (8, vI x8), (9, vI x9), (10, vI x10)]) (st1 := [vI 100, vI r11]) (h1 := h12) (P := True ∧ True) (by decide +kernel) rfl rfl ⟨trivial, trivial⟩ ?_
          refine g_icmp hK 169 .ne (7) 176 (t1 := 172) (t2 := 176) (by decide +kernel) (by decide) rfl rfl (fun (hc14 : r11 = 100) => ?_) (fun (hc14 : ¬ (r11 = 100)) => ?_)
          · have hF := ite_t hc14 hF
            refine g_seg hK [.iconst 1] 172 173 (L1 := [(0, vR 0), (1, vI x1), (2, vI x2), (3, vI x3), (5, vI x5), (6, vI x6), (7, vI x7), (8, vI x8), (9, vI x9), (10, vI x10)]) (st1 := [vI 1]) (h1 := h12) (P := True ∧ True) (by decide +kernel) rfl rfl ⟨trivial, trivial⟩ ?_
            refine g_goto hK 173 (4) 177 (by decide +kernel) (by decide) ?_
            refine hK.2.1 _ _ ([(0, vR 0), (1, vI x1), (2, vI x2), (3, vI x3), (5, vI x5), (6, vI x6), (7, vI x7), (8, vI x8), (10, vI x10)]) _ _ (sub_of [0, 1, 2, 3, 4, 5, 6, 7, 9] rfl) ?_
            exact j7 _ _ hF
          · have hF := ite_f hc14 hF
            refine hK.2.1 _ _ ([(0, vR 0), (1, vI x1), (2, vI x2), (3, vI x3), (5, vI x5), (6, vI x6), (7, vI x7), (8, vI x8), (10, vI x10)]) _ _ (sub_of [0, 1, 2, 3, 4, 5, 6, 7, 9] rfl) ?_
            exact j4 _ hF
      · have hF := ite_f hc2 hF
        cases hF
        exact hE
    · have hF := ite_f hc1 hF
      cases hF
      exact hE
set_option maxHeartbeats 4000000 in
set_option maxRecDepth 100000 in
theorem LT_L_isLaid_L285 {K : KT} (hK : Rules RX9 cL_isLaid 12 (Option.some Jvm.ClassFile.FieldType.boolean) flX9 7 K) {x3 : Int} {x5 : Int} {x6 : Int} {x8 : Int} {h : MH} : ∀ (n : Nat) (x9 : Int) (x11 : Int) (x9' : Int) (x11' : Int), F_L_isLaid_L285 x3 x5 x6 x8 h n x9 x11 = some (x9', x11') → K 329 [(0, vR 0), (3, vI x3), (5, vI x5), (6, vI x6), (8, vI x8), (9, vI x9'), (11, vI x11')] [] h → K 285 [(0, vR 0), (3, vI x3), (5, vI x5), (6, vI x6), (8, vI x8), (9, vI x9), (11, vI x11)] [] h := by
  intro n
  induction n with
  | zero =>
    intro x9 x11 x9' x11' hF
    cases hF
  | succ n ih =>
    intro x9 x11 x9' x11' hF hE
    unfold F_L_isLaid_L285 at hF
    refine g_seg hK [.iload 11, .iload 5] 285 289 (L1 := [(0, vR 0), (3, vI x3), (5, vI x5), (6, vI x6), (8, vI x8), (9, vI x9), (11, vI x11)]) (st1 := [vI x5, vI x11]) (h1 := h) (P := True ∧ True ∧ True) (by decide +kernel) rfl rfl ⟨trivial, trivial, trivial⟩ ?_
    refine g_icmp hK 289 .ge (40) 329 (t1 := 292) (t2 := 329) (by decide +kernel) (by decide) rfl rfl (fun (hc1 : x11 < x5) => ?_) (fun (hc1 : ¬ (x11 < x5)) => ?_)
    · have hF := ite_t hc1 hF
      refine g_seg hK [.iload 9] 292 294 (L1 := [(0, vR 0), (3, vI x3), (5, vI x5), (6, vI x6), (8, vI x8), (9, vI x9), (11, vI x11)]) (st1 := [vI x9]) (h1 := h) (P := True ∧ True) (by decide +kernel) rfl rfl ⟨trivial, trivial⟩ ?_
      refine g_ifz hK 294 .eq (35) 329 (t1 := 329) (t2 := 297) (by decide +kernel) (by decide) rfl rfl (fun (hc2 : x9 = 0) => ?_) (fun (hc2 : ¬ (x9 = 0)) => ?_)
      · have hF := ite_t hc2 hF
        cases hF
        exact hE
      · have hF := ite_f hc2 hF
        refine g_seg hK [.aload_n 0, .iconst 2, .iload 11] 297 301 (L1 := [(0, vR 0), (3, vI x3), (5, vI x5), (6, vI x6), (8, vI x8), (9, vI x9), (11, vI x11)]) (st1 := [vI x11, vI 2, vR 0]) (h1 := h) (P := True ∧ True ∧ True ∧ True) (by decide +kernel) rfl rfl ⟨trivial, trivial, trivial, trivial⟩ ?_
        refine g_callV1 hK 301 18 (d1 := 1) (ci := 6) (i := 0) (vs := [vI 2, vI x11]) (rest := []) (h1 := h) (r := vI (F_X_line 2 x11 h)) my_yX6_line vw_X9_18 (by decide) (T_X_line (p1 := 2) (p2 := x11) (h := h) (hF := rfl)) rfl rfl rfl (Nat.le_of_ble_eq_true rfl) (by decide +kernel) ?_
        refine g_seg hK [.aload_n 0, .iconst 1, .iload_n 3, .isub, .iload 11] 304 310 (L1 := [(0, vR 0), (3, vI x3), (5, vI x5), (6, vI x6), (8, vI x8), (9, vI x9), (11, vI x11)]) (st1 := [vI x11, vI (wr (1 - x3)), vR 0, vI (F_X_line 2 x11 h)]) (h1 := h) (P := True ∧ True ∧ True ∧ True ∧ True ∧ True) (by decide +kernel) rfl rfl ⟨trivial, trivial, trivial, trivial, trivial, trivial⟩ ?_
        refine g_callV1 hK 310 18 (d1 := 1) (ci := 6) (i := 0) (vs := [vI (wr (1 - x3)), vI x11]) (rest := [vI (F_X_line 2 x11 h)]) (h1 := h) (r := vI (F_X_line (wr (1 - x3)) x11 h)) my_yX6_line vw_X9_18 (by decide) (T_X_line (p1 := (wr (1 - x3))) (p2 := x11) (h := h) (hF := rfl)) rfl rfl rfl (Nat.le_of_ble_eq_true rfl) (by decide +kernel) ?_
        obtain ⟨s3, e6, hF⟩ := jn1_elim hF
        have j4 : K 321 [(0, vR 0), (3, vI x3), (5, vI x5), (6, vI x6), (8, vI x8), (11, vI x11)] [vI s3] h := by
          refine g_seg hK [.istore 9, .iinc 11 1] 321 326 (L1 := [(11, vI (wr (x11 + 1))), (9, vI s3), (0, vR 0), (3, vI x3), (5, vI x5), (6, vI x6), (8, vI x8)]) (st1 := []) (h1 := h) (P := True ∧ True ∧ True) (by decide +kernel) rfl rfl ⟨trivial, trivial, trivial⟩ ?_
          refine g_goto hK 326 (-41) 285 (by decide +kernel) (by decide) ?_
          refine hK.2.1 _ _ ([(0, vR 0), (3, vI x3), (5, vI x5), (6, vI x6), (8, vI x8), (9, vI s3), (11, vI (wr (x11 + 1)))]) _ _ (sub_of [2, 3, 4, 5, 6, 1, 0] rfl) ?_
          exact ih _ _ _ _ hF hE
        clear hF
        have hF := e6
        refine g_icmp hK 313 .ne (7) 320 (t1 := 316) (t2 := 320) (by decide +kernel) (by decide) rfl rfl (fun (hc5 : F_X_line 2 x11 h = F_X_line (wr (1 - x3)) x11 h) => ?_) (fun (hc5 : ¬ (F_X_line 2 x11 h = F_X_line (wr (1 - x3)) x11 h)) => ?_)
        · have hF := ite_t hc5 hF
          refine g_seg hK [.iconst 1] 316 317 (L1 := [(0, vR 0), (3, vI x3), (5, vI x5), (6, vI x6), (8, vI x8), (9, vI x9), (11, vI x11)]) (st1 := [vI 1]) (h1 := h) (P := True ∧ True) (by decide +kernel) rfl rfl ⟨trivial, trivial⟩ ?_
          refine g_goto hK 317 (4) 321 (by decide +kernel) (by decide) ?_
          refine hK.2.1 _ _ ([(0, vR 0), (3, vI x3), (5, vI x5), (6, vI x6), (8, vI x8), (11, vI x11)]) _ _ (sub_of [0, 1, 2, 3, 4, 6] rfl) ?_
          cases hF
          exact j4
        · have hF := ite_f hc5 hF
          refine g_seg hK [.iconst 0] 320 321 (L1 := [(0, vR 0), (3, vI x3), (5, vI x5), (6, vI x6), (8, vI x8), (9, vI x9), (11, vI x11)]) (st1 := [vI 0]) (h1 := h) (P := True ∧ True) (by decide +kernel) rfl rfl ⟨trivial, trivial⟩ ?_
          refine hK.2.1 _ _ ([(0, vR 0), (3, vI x3), (5, vI x5), (6, vI x6), (8, vI x8), (11, vI x11)]) _ _ (sub_of [0, 1, 2, 3, 4, 6] rfl) ?_
          cases hF
          exact j4
    · have hF := ite_f hc1 hF
      cases hF
      exact hE
set_option maxHeartbeats 4000000 in
set_option maxRecDepth 100000 in
theorem T_L_isLaid {p2 : Int} {h : MH} {r : Int} {h' : MH} (hF : F_L_isLaid p2 h = some (r, h')) : CON 7 yL_isLaid cL_isLaid 12 (Option.some Jvm.ClassFile.FieldType.boolean) [vR 0, vI p2] h (some (vI r)) h' := by
  refine con_of (own := RX9) (fl := flX9) (by decide +kernel) rfl flok_X9 rfl (Nat.le_of_ble_eq_true rfl) ?_
  intro K hK hR
  show K 0 [(0, vR 0), (1, vI p2)] [] h
  unfold F_L_isLaid at hF
  refine g_seg hK [.aload_n 0, .bipush 7] 0 3 (L1 := [(0, vR 0), (1, vI p2)]) (st1 := [vI 7, vR 0]) (h1 := h) (P := True ∧ True ∧ True) (by decide +kernel) rfl rfl ⟨trivial, trivial, trivial⟩ ?_
  obtain ⟨r1, h2, e3, hF⟩ := ob2_elim hF
  refine g_callV1 hK 3 8 (d1 := 6) (ci := 6) (i := 0) (vs := [vI 7]) (rest := []) (h1 := h2) (r := vI r1) my_yX6_count vw_X9_8 (by decide) (T_X_count (p1 := 7) (h := h) (hF := e3)) rfl rfl rfl (Nat.le_of_ble_eq_true rfl) (by decide +kernel) ?_
  refine g_seg hK [.istore_n 2, .iload_n 1] 6 8 (L1 := [(2, vI r1), (0, vR 0), (1, vI p2)]) (st1 := [vI p2]) (h1 := h2) (P := True ∧ True ∧ True) (by decide +kernel) rfl rfl ⟨trivial, trivial, trivial⟩ ?_
  obtain ⟨s4, e85, hF⟩ := jn1_elim hF
  have j5 : K 16 [(0, vR 0), (1, vI p2), (2, vI r1)] [vI s4] h2 := by
    refine g_seg hK [.istore_n 3, .aload_n 0, .iload_n 3] 16 19 (L1 := [(3, vI s4), (0, vR 0), (1, vI p2), (2, vI r1)]) (st1 := [vI s4, vR 0]) (h1 := h2) (P := True ∧ True ∧ True ∧ True) (by decide +kernel) rfl rfl ⟨trivial, trivial, trivial, trivial⟩ ?_
    obtain ⟨r7, h8, e9, hF⟩ := ob2_elim hF
    refine g_callV1 hK 19 8 (d1 := 6) (ci := 6) (i := 0) (vs := [vI s4]) (rest := []) (h1 := h8) (r := vI r7) my_yX6_count vw_X9_8 (by decide) (T_X_count (p1 := s4) (h := h2) (hF := e9)) rfl rfl rfl (Nat.le_of_ble_eq_true rfl) (by decide +kernel) ?_
    refine g_seg hK [.istore 4, .aload_n 0, .iconst 1, .iload_n 3, .isub] 22 28 (L1 := [(4, vI r7), (3, vI s4), (0, vR 0), (1, vI p2), (2, vI r1)]) (st1 := [vI (wr (1 - s4)), vR 0]) (h1 := h8) (P := True ∧ True ∧ True ∧ True ∧ True ∧ True) (by decide +kernel) rfl rfl ⟨trivial, trivial, trivial, trivial, trivial, trivial⟩ ?_
    obtain ⟨r10, h11, e12, hF⟩ := ob2_elim hF
    refine g_callV1 hK 28 8 (d1 := 6) (ci := 6) (i := 0) (vs := [vI (wr (1 - s4))]) (rest := []) (h1 := h11) (r := vI r10) my_yX6_count vw_X9_8 (by decide) (T_X_count (p1 := (wr (1 - s4))) (h := h8) (hF := e12)) rfl rfl rfl (Nat.le_of_ble_eq_true rfl) (by decide +kernel) ?_
    refine g_seg hK [.istore 5, .aload_n 0, .bipush 12] 31 36 (L1 := [(5, vI r10), (4, vI r7), (3, vI s4), (0, vR 0), (1, vI p2), (2, vI r1)]) (st1 := [vI 12, vR 0]) (h1 := h11) (P := True ∧ True ∧ True ∧ True) (by decide +kernel) rfl rfl ⟨trivial, trivial, trivial, trivial⟩ ?_
    obtain ⟨r13, h14, e15, hF⟩ := ob2_elim hF
    refine g_callV1 hK 36 8 (d1 := 6) (ci := 6) (i := 0) (vs := [vI 12]) (rest := []) (h1 := h14) (r := vI r13) my_yX6_count vw_X9_8 (by decide) (T_X_count (p1 := 12) (h := h11) (hF := e15)) rfl rfl rfl (Nat.le_of_ble_eq_true rfl) (by decide +kernel) ?_
    refine g_seg hK [.istore 6, .aload_n 0, .bipush 13] 39 44 (L1 := [(6, vI r13), (5, vI r10), (4, vI r7), (3, vI s4), (0, vR 0), (1, vI p2), (2, vI r1)]) (st1 := [vI 13, vR 0]) (h1 := h14) (P := True ∧ True ∧ True ∧ True) (by decide +kernel) rfl rfl ⟨trivial, trivial, trivial, trivial⟩ ?_
    obtain ⟨r16, h17, e18, hF⟩ := ob2_elim hF
    refine g_callV1 hK 44 8 (d1 := 6) (ci := 6) (i := 0) (vs := [vI 13]) (rest := []) (h1 := h17) (r := vI r16) my_yX6_count vw_X9_8 (by decide) (T_X_count (p1 := 13) (h := h14) (hF := e18)) rfl rfl rfl (Nat.le_of_ble_eq_true rfl) (by decide +kernel) ?_
    refine g_seg hK [.istore 7, .aload_n 0] 47 50 (L1 := [(7, vI r16), (6, vI r13), (5, vI r10), (4, vI r7), (3, vI s4), (0, vR 0), (1, vI p2), (2, vI r1)]) (st1 := [vR 0]) (h1 := h17) (P := True ∧ True ∧ True) (by decide +kernel) rfl rfl ⟨trivial, trivial, trivial⟩ ?_
    obtain ⟨r19, h20, e21, hF⟩ := ob2_elim hF
    refine g_callV1 hK 50 35 (d1 := 6) (ci := 6) (i := 0) (vs := []) (rest := []) (h1 := h20) (r := vI r19) my_yX6_save vw_X9_35 (by decide) (T_X_save (h := h17) (hF := e21)) rfl rfl rfl (Nat.le_of_ble_eq_true rfl) (by decide +kernel) ?_
    refine g_seg hK [.istore 8, .iconst 0, .istore 9] 53 58 (L1 := [(9, vI 0), (8, vI r19), (7, vI r16), (6, vI r13), (5, vI r10), (4, vI r7), (3, vI s4), (0, vR 0), (1, vI p2), (2, vI r1)]) (st1 := []) (h1 := h20) (P := True ∧ True ∧ True ∧ True) (by decide +kernel) rfl rfl ⟨trivial, trivial, trivial, trivial⟩ ?_
    refine hK.2.1 _ _ ([(0, vR 0), (1, vI p2), (2, vI r1), (3, vI s4), (4, vI r7), (5, vI r10), (6, vI r13), (7, vI r16), (8, vI r19), (9, vI 0)]) _ _ (sub_of [7, 8, 9, 6, 5, 4, 3, 2, 1, 0] rfl) ?_
    obtain ⟨x9_22, h23, e24, hF⟩ := ob2_elim hF
    refine LT_L_isLaid_L58 hK _ _ _ _ _ e24 ?_
    refine g_seg hK [.iconst 0, .istore 9] 89 92 (L1 := [(9, vI 0), (0, vR 0), (1, vI p2), (2, vI r1), (3, vI s4), (4, vI r7), (5, vI r10), (6, vI r13), (7, vI r16), (8, vI r19)]) (st1 := []) (h1 := h23) (P := True ∧ True ∧ True) (by decide +kernel) rfl rfl ⟨trivial, trivial, trivial⟩ ?_
    refine hK.2.1 _ _ ([(0, vR 0), (1, vI p2), (2, vI r1), (3, vI s4), (4, vI r7), (5, vI r10), (6, vI r13), (7, vI r16), (8, vI r19), (9, vI 0)]) _ _ (sub_of [1, 2, 3, 4, 5, 6, 7, 8, 9, 0] rfl) ?_
    obtain ⟨x9_25, h26, e27, hF⟩ := ob2_elim hF
    refine LT_L_isLaid_L92 hK _ _ _ _ _ e27 ?_
    refine g_seg hK [.aload_n 0, .iconst 2] 121 123 (L1 := [(0, vR 0), (1, vI p2), (2, vI r1), (3, vI s4), (4, vI r7), (5, vI r10), (6, vI r13), (7, vI r16), (8, vI r19), (9, vI x9_25)]) (st1 := [vI 2, vR 0]) (h1 := h26) (P := True ∧ True ∧ True) (by decide +kernel) rfl rfl ⟨trivial, trivial, trivial⟩ ?_
    obtain ⟨r28, h29, e30, hF⟩ := ob2_elim hF
    refine g_callV1 hK 123 8 (d1 := 6) (ci := 6) (i := 0) (vs := [vI 2]) (rest := []) (h1 := h29) (r := vI r28) my_yX6_count vw_X9_8 (by decide) (T_X_count (p1 := 2) (h := h26) (hF := e30)) rfl rfl rfl (Nat.le_of_ble_eq_true rfl) (by decide +kernel) ?_
    refine g_seg hK [.iload 4] 126 128 (L1 := [(0, vR 0), (1, vI p2), (2, vI r1), (3, vI s4), (4, vI r7), (5, vI r10), (6, vI r13), (7, vI r16), (8, vI r19), (9, vI x9_25)]) (st1 := [vI r7, vI r28]) (h1 := h29) (P := True ∧ True) (by decide +kernel) rfl rfl ⟨trivial, trivial⟩ ?_
    obtain ⟨s31, e84, hF⟩ := jn1_elim hF
    have j32 : K 136 [(0, vR 0), (1, vI p2), (2, vI r1), (3, vI s4), (5, vI r10), (6, vI r13), (7, vI r16), (8, vI r19)] [vI s31] h29 := by
      refine g_seg hK [.istore 9, .iconst 0, .istore 10] 136 141 (L1 := [(10, vI 0), (9, vI s31), (0, vR 0), (1, vI p2), (2, vI r1), (3, vI s4), (5, vI r10), (6, vI r13), (7, vI r16), (8, vI r19)]) (st1 := []) (h1 := h29) (P := True ∧ True ∧ True ∧ True) (by decide +kernel) rfl rfl ⟨trivial, trivial, trivial, trivial⟩ ?_
      refine hK.2.1 _ _ ([(0, vR 0), (1, vI p2), (2, vI r1), (3, vI s4), (5, vI r10), (6, vI r13), (7, vI r16), (8, vI r19), (9, vI s31), (10, vI 0)]) _ _ (sub_of [2, 3, 4, 5, 6, 7, 8, 9, 1, 0] rfl) ?_
      obtain ⟨x9_34, x10_35, h36, e37, hF⟩ := ob3_elim hF
      refine LT_L_isLaid_L141 hK _ _ _ _ _ _ _ e37 ?_
      refine g_seg hK [.aload_n 0, .iload_n 1] 185 187 (L1 := [(0, vR 0), (1, vI p2), (2, vI r1), (3, vI s4), (5, vI r10), (6, vI r13), (7, vI r16), (8, vI r19), (9, vI x9_34), (10, vI x10_35)]) (st1 := [vI p2, vR 0]) (h1 := h36) (P := True ∧ True ∧ True) (by decide +kernel) rfl rfl ⟨trivial, trivial, trivial⟩ ?_
      obtain ⟨r38, h39, e40, hF⟩ := ob2_elim hF
      refine g_callV1 hK 187 47 (d1 := 6) (ci := 6) (i := 0) (vs := [vI p2]) (rest := []) (h1 := h39) (r := vI r38) my_yX6_lay vw_X9_47 (by decide) (T_X_lay (p1 := p2) (h := h36) (hF := e40)) rfl rfl rfl (Nat.le_of_ble_eq_true rfl) (by decide +kernel) ?_
      refine g_seg hK [.istore 10, .iload 10, .bipush (-3)] 190 196 (L1 := [(10, vI r38), (0, vR 0), (1, vI p2), (2, vI r1), (3, vI s4), (5, vI r10), (6, vI r13), (7, vI r16), (8, vI r19), (9, vI x9_34)]) (st1 := [vI (-3), vI r38]) (h1 := h39) (P := True ∧ True ∧ True ∧ True) (by decide +kernel) rfl rfl ⟨trivial, trivial, trivial, trivial⟩ ?_
      refine g_icmp hK 196 .ne (34) 230 (t1 := 199) (t2 := 230) (by decide +kernel) (by decide) rfl rfl (fun (hc41 : r38 = (-3)) => ?_) (fun (hc41 : ¬ (r38 = (-3))) => ?_)
      · have hF := ite_t hc41 hF
        refine g_seg hK [.iload 9] 199 201 (L1 := [(10, vI r38), (0, vR 0), (1, vI p2), (2, vI r1), (3, vI s4), (5, vI r10), (6, vI r13), (7, vI r16), (8, vI r19), (9, vI x9_34)]) (st1 := [vI x9_34]) (h1 := h39) (P := True ∧ True) (by decide +kernel) rfl rfl ⟨trivial, trivial⟩ ?_
        refine g_ifz hK 201 .eq (27) 228 (t1 := 228) (t2 := 204) (by decide +kernel) (by decide) rfl rfl (fun (hc42 : x9_34 = 0) => ?_) (fun (hc42 : ¬ (x9_34 = 0)) => ?_)
        · have hF := ite_t hc42 hF
          refine g_seg hK [.iconst 0] 228 229 (L1 := [(10, vI r38), (0, vR 0), (1, vI p2), (2, vI r1), (3, vI s4), (5, vI r10), (6, vI r13), (7, vI r16), (8, vI r19), (9, vI x9_34)]) (st1 := [vI 0]) (h1 := h39) (P := True ∧ True) (by decide +kernel) rfl rfl ⟨trivial, trivial⟩ ?_
          cases hF
          exact hR.2.1 229 _ _ _ (by decide +kernel) rfl (by decide) ⟨rfl, rfl⟩
        · have hF := ite_f hc42 hF
          refine g_seg hK [.aload_n 0] 204 205 (L1 := [(10, vI r38), (0, vR 0), (1, vI p2), (2, vI r1), (3, vI s4), (5, vI r10), (6, vI r13), (7, vI r16), (8, vI r19), (9, vI x9_34)]) (st1 := [vR 0]) (h1 := h39) (P := True ∧ True) (by decide +kernel) rfl rfl ⟨trivial, trivial⟩ ?_
          obtain ⟨r43, h44, e45, hF⟩ := ob2_elim hF
          refine g_callV1 hK 205 51 (d1 := 6) (ci := 6) (i := 0) (vs := []) (rest := []) (h1 := h44) (r := vI r43) my_yX6_restore vw_X9_51 (by decide) (T_X_restore (h := h39) (hF := e45)) rfl rfl rfl (Nat.le_of_ble_eq_true rfl) (by decide +kernel) ?_
          refine g_seg hK [.iload 8] 208 210 (L1 := [(10, vI r38), (0, vR 0), (1, vI p2), (2, vI r1), (3, vI s4), (5, vI r10), (6, vI r13), (7, vI r16), (8, vI r19), (9, vI x9_34)]) (st1 := [vI r19, vI r43]) (h1 := h44) (P := True ∧ True) (by decide +kernel) rfl rfl ⟨trivial, trivial⟩ ?_
          refine g_icmp hK 210 .ne (18) 228 (t1 := 213) (t2 := 228) (by decide +kernel) (by decide) rfl rfl (fun (hc46 : r43 = r19) => ?_) (fun (hc46 : ¬ (r43 = r19)) => ?_)
          · have hF := ite_t hc46 hF
            refine g_seg hK [.aload_n 0, .bipush 12] 213 216 (L1 := [(10, vI r38), (0, vR 0), (1, vI p2), (2, vI r1), (3, vI s4), (5, vI r10), (6, vI r13), (7, vI r16), (8, vI r19), (9, vI x9_34)]) (st1 := [vI 12, vR 0]) (h1 := h44) (P := True ∧ True ∧ True) (by decide +kernel) rfl rfl ⟨trivial, trivial, trivial⟩ ?_
            obtain ⟨r47, h48, e49, hF⟩ := ob2_elim hF
            refine g_callV1 hK 216 8 (d1 := 6) (ci := 6) (i := 0) (vs := [vI 12]) (rest := []) (h1 := h48) (r := vI r47) my_yX6_count vw_X9_8 (by decide) (T_X_count (p1 := 12) (h := h44) (hF := e49)) rfl rfl rfl (Nat.le_of_ble_eq_true rfl) (by decide +kernel) ?_
            refine g_seg hK [.iload 6] 219 221 (L1 := [(10, vI r38), (0, vR 0), (1, vI p2), (2, vI r1), (3, vI s4), (5, vI r10), (6, vI r13), (7, vI r16), (8, vI r19), (9, vI x9_34)]) (st1 := [vI r13, vI r47]) (h1 := h48) (P := True ∧ True) (by decide +kernel) rfl rfl ⟨trivial, trivial⟩ ?_
            refine g_icmp hK 221 .ne (7) 228 (t1 := 224) (t2 := 228) (by decide +kernel) (by decide) rfl rfl (fun (hc50 : r47 = r13) => ?_) (fun (hc50 : ¬ (r47 = r13)) => ?_)
            · have hF := ite_t hc50 hF
              refine g_seg hK [.iconst 1] 224 225 (L1 := [(10, vI r38), (0, vR 0), (1, vI p2), (2, vI r1), (3, vI s4), (5, vI r10), (6, vI r13), (7, vI r16), (8, vI r19), (9, vI x9_34)]) (st1 := [vI 1]) (h1 := h48) (P := True ∧ True) (by decide +kernel) rfl rfl ⟨trivial, trivial⟩ ?_
              refine g_goto hK 225 (4) 229 (by decide +kernel) (by decide) ?_
              cases hF
              exact hR.2.1 229 _ _ _ (by decide +kernel) rfl (by decide) ⟨rfl, rfl⟩
            · have hF := ite_f hc50 hF
              refine g_seg hK [.iconst 0] 228 229 (L1 := [(10, vI r38), (0, vR 0), (1, vI p2), (2, vI r1), (3, vI s4), (5, vI r10), (6, vI r13), (7, vI r16), (8, vI r19), (9, vI x9_34)]) (st1 := [vI 0]) (h1 := h48) (P := True ∧ True) (by decide +kernel) rfl rfl ⟨trivial, trivial⟩ ?_
              cases hF
              exact hR.2.1 229 _ _ _ (by decide +kernel) rfl (by decide) ⟨rfl, rfl⟩
          · have hF := ite_f hc46 hF
            refine g_seg hK [.iconst 0] 228 229 (L1 := [(10, vI r38), (0, vR 0), (1, vI p2), (2, vI r1), (3, vI s4), (5, vI r10), (6, vI r13), (7, vI r16), (8, vI r19), (9, vI x9_34)]) (st1 := [vI 0]) (h1 := h44) (P := True ∧ True) (by decide +kernel) rfl rfl ⟨trivial, trivial⟩ ?_
            cases hF
            exact hR.2.1 229 _ _ _ (by decide +kernel) rfl (by decide) ⟨rfl, rfl⟩
      · have hF := ite_f hc41 hF
        refine g_seg hK [.iload 9] 230 232 (L1 := [(10, vI r38), (0, vR 0), (1, vI p2), (2, vI r1), (3, vI s4), (5, vI r10), (6, vI r13), (7, vI r16), (8, vI r19), (9, vI x9_34)]) (st1 := [vI x9_34]) (h1 := h39) (P := True ∧ True) (by decide +kernel) rfl rfl ⟨trivial, trivial⟩ ?_
        obtain ⟨kj55, e68, hF⟩ := jk2_elim hF
        have j55 : ∀ (s53 : Int) (h54 : MH), kj55 s53 h54 = some (r, h') → K 280 [(0, vR 0), (3, vI s4), (5, vI r10), (6, vI r13), (8, vI r19)] [vI s53] h54 := by
          intro s53 h54 hF
          have hF := (e68 s53 h54).symm.trans hF
          refine g_seg hK [.istore 9, .iconst 0, .istore 11] 280 285 (L1 := [(11, vI 0), (9, vI s53), (0, vR 0), (3, vI s4), (5, vI r10), (6, vI r13), (8, vI r19)]) (st1 := []) (h1 := h54) (P := True ∧ True ∧ True ∧ True) (by decide +kernel) rfl rfl ⟨trivial, trivial, trivial, trivial⟩ ?_
          refine hK.2.1 _ _ ([(0, vR 0), (3, vI s4), (5, vI r10), (6, vI r13), (8, vI r19), (9, vI s53), (11, vI 0)]) _ _ (sub_of [2, 3, 4, 5, 6, 1, 0] rfl) ?_
          obtain ⟨x9_56, x11_57, e58, hF⟩ := ob2_elim hF
          refine LT_L_isLaid_L285 hK _ _ _ _ _ e58 ?_
          refine g_seg hK [.iload 9] 329 331 (L1 := [(0, vR 0), (3, vI s4), (5, vI r10), (6, vI r13), (8, vI r19), (9, vI x9_56), (11, vI x11_57)]) (st1 := [vI x9_56]) (h1 := h54) (P := True ∧ True) (by decide +kernel) rfl rfl ⟨trivial, trivial⟩ ?_
          refine g_ifz hK 331 .eq (27) 358 (t1 := 358) (t2 := 334) (by decide +kernel) (by decide) rfl rfl (fun (hc59 : x9_56 = 0) => ?_) (fun (hc59 : ¬ (x9_56 = 0)) => ?_)
          · have hF := ite_t hc59 hF
            refine g_seg hK [.iconst 0] 358 359 (L1 := [(0, vR 0), (3, vI s4), (5, vI r10), (6, vI r13), (8, vI r19), (9, vI x9_56), (11, vI x11_57)]) (st1 := [vI 0]) (h1 := h54) (P := True ∧ True) (by decide +kernel) rfl rfl ⟨trivial, trivial⟩ ?_
            cases hF
            exact hR.2.1 359 _ _ _ (by decide +kernel) rfl (by decide) ⟨rfl, rfl⟩
          · have hF := ite_f hc59 hF
            refine g_seg hK [.aload_n 0] 334 335 (L1 := [(0, vR 0), (3, vI s4), (5, vI r10), (6, vI r13), (8, vI r19), (9, vI x9_56), (11, vI x11_57)]) (st1 := [vR 0]) (h1 := h54) (P := True ∧ True) (by decide +kernel) rfl rfl ⟨trivial, trivial⟩ ?_
            obtain ⟨r60, h61, e62, hF⟩ := ob2_elim hF
            refine g_callV1 hK 335 51 (d1 := 6) (ci := 6) (i := 0) (vs := []) (rest := []) (h1 := h61) (r := vI r60) my_yX6_restore vw_X9_51 (by decide) (T_X_restore (h := h54) (hF := e62)) rfl rfl rfl (Nat.le_of_ble_eq_true rfl) (by decide +kernel) ?_
            refine g_seg hK [.iload 8] 338 340 (L1 := [(0, vR 0), (3, vI s4), (5, vI r10), (6, vI r13), (8, vI r19), (9, vI x9_56), (11, vI x11_57)]) (st1 := [vI r19, vI r60]) (h1 := h61) (P := True ∧ True) (by decide +kernel) rfl rfl ⟨trivial, trivial⟩ ?_
            refine g_icmp hK 340 .ne (18) 358 (t1 := 343) (t2 := 358) (by decide +kernel) (by decide) rfl rfl (fun (hc63 : r60 = r19) => ?_) (fun (hc63 : ¬ (r60 = r19)) => ?_)
            · have hF := ite_t hc63 hF
              refine g_seg hK [.aload_n 0, .bipush 12] 343 346 (L1 := [(0, vR 0), (3, vI s4), (5, vI r10), (6, vI r13), (8, vI r19), (9, vI x9_56), (11, vI x11_57)]) (st1 := [vI 12, vR 0]) (h1 := h61) (P := True ∧ True ∧ True) (by decide +kernel) rfl rfl ⟨trivial, trivial, trivial⟩ ?_
              obtain ⟨r64, h65, e66, hF⟩ := ob2_elim hF
              refine g_callV1 hK 346 8 (d1 := 6) (ci := 6) (i := 0) (vs := [vI 12]) (rest := []) (h1 := h65) (r := vI r64) my_yX6_count vw_X9_8 (by decide) (T_X_count (p1 := 12) (h := h61) (hF := e66)) rfl rfl rfl (Nat.le_of_ble_eq_true rfl) (by decide +kernel) ?_
              refine g_seg hK [.iload 6] 349 351 (L1 := [(0, vR 0), (3, vI s4), (5, vI r10), (6, vI r13), (8, vI r19), (9, vI x9_56), (11, vI x11_57)]) (st1 := [vI r13, vI r64]) (h1 := h65) (P := True ∧ True) (by decide +kernel) rfl rfl ⟨trivial, trivial⟩ ?_
              refine g_icmp hK 351 .ne (7) 358 (t1 := 354) (t2 := 358) (by decide +kernel) (by decide) rfl rfl (fun (hc67 : r64 = r13) => ?_) (fun (hc67 : ¬ (r64 = r13)) => ?_)
              · have hF := ite_t hc67 hF
                refine g_seg hK [.iconst 1] 354 355 (L1 := [(0, vR 0), (3, vI s4), (5, vI r10), (6, vI r13), (8, vI r19), (9, vI x9_56), (11, vI x11_57)]) (st1 := [vI 1]) (h1 := h65) (P := True ∧ True) (by decide +kernel) rfl rfl ⟨trivial, trivial⟩ ?_
                refine g_goto hK 355 (4) 359 (by decide +kernel) (by decide) ?_
                cases hF
                exact hR.2.1 359 _ _ _ (by decide +kernel) rfl (by decide) ⟨rfl, rfl⟩
              · have hF := ite_f hc67 hF
                refine g_seg hK [.iconst 0] 358 359 (L1 := [(0, vR 0), (3, vI s4), (5, vI r10), (6, vI r13), (8, vI r19), (9, vI x9_56), (11, vI x11_57)]) (st1 := [vI 0]) (h1 := h65) (P := True ∧ True) (by decide +kernel) rfl rfl ⟨trivial, trivial⟩ ?_
                cases hF
                exact hR.2.1 359 _ _ _ (by decide +kernel) rfl (by decide) ⟨rfl, rfl⟩
            · have hF := ite_f hc63 hF
              refine g_seg hK [.iconst 0] 358 359 (L1 := [(0, vR 0), (3, vI s4), (5, vI r10), (6, vI r13), (8, vI r19), (9, vI x9_56), (11, vI x11_57)]) (st1 := [vI 0]) (h1 := h61) (P := True ∧ True) (by decide +kernel) rfl rfl ⟨trivial, trivial⟩ ?_
              cases hF
              exact hR.2.1 359 _ _ _ (by decide +kernel) rfl (by decide) ⟨rfl, rfl⟩
        obtain ⟨kj52, e69, hF⟩ := jk1_elim hF
        have j52 : ∀ (h51 : MH), kj52 h51 = some (r, h') → K 279 [(0, vR 0), (3, vI s4), (5, vI r10), (6, vI r13), (8, vI r19)] [] h51 := by
          intro h51 hF
          have hF := (e69 h51).symm.trans hF
          refine g_seg hK [.iconst 0] 279 280 (L1 := [(0, vR 0), (3, vI s4), (5, vI r10), (6, vI r13), (8, vI r19)]) (st1 := [vI 0]) (h1 := h51) (P := True ∧ True) (by decide +kernel) rfl rfl ⟨trivial, trivial⟩ ?_
          exact j55 _ _ hF
        refine g_ifz hK 232 .eq (47) 279 (t1 := 279) (t2 := 235) (by decide +kernel) (by decide) rfl rfl (fun (hc70 : x9_34 = 0) => ?_) (fun (hc70 : ¬ (x9_34 = 0)) => ?_)
        · have hF := ite_t hc70 hF
          refine hK.2.1 _ _ ([(0, vR 0), (3, vI s4), (5, vI r10), (6, vI r13), (8, vI r19)]) _ _ (sub_of [1, 4, 5, 6, 8] rfl) ?_
          exact j52 _ hF
        · have hF := ite_f hc70 hF
          refine g_seg hK [.iload 10, .iload_n 2] 235 238 (L1 := [(10, vI r38), (0, vR 0), (1, vI p2), (2, vI r1), (3, vI s4), (5, vI r10), (6, vI r13), (7, vI r16), (8, vI r19), (9, vI x9_34)]) (st1 := [vI r1, vI r38]) (h1 := h39) (P := True ∧ True ∧ True) (by decide +kernel) rfl rfl ⟨trivial, trivial, trivial⟩ ?_
          refine g_icmp hK 238 .ne (41) 279 (t1 := 241) (t2 := 279) (by decide +kernel) (by decide) rfl rfl (fun (hc71 : r38 = r1) => ?_) (fun (hc71 : ¬ (r38 = r1)) => ?_)
          · have hF := ite_t hc71 hF
            refine g_seg hK [.aload_n 0, .bipush 12] 241 244 (L1 := [(10, vI r38), (0, vR 0), (1, vI p2), (2, vI r1), (3, vI s4), (5, vI r10), (6, vI r13), (7, vI r16), (8, vI r19), (9, vI x9_34)]) (st1 := [vI 12, vR 0]) (h1 := h39) (P := True ∧ True ∧ True) (by decide +kernel) rfl rfl ⟨trivial, trivial, trivial⟩ ?_
            obtain ⟨r72, h73, e74, hF⟩ := ob2_elim hF
            refine g_callV1 hK 244 8 (d1 := 6) (ci := 6) (i := 0) (vs := [vI 12]) (rest := []) (h1 := h73) (r := vI r72) my_yX6_count vw_X9_8 (by decide) (T_X_count (p1 := 12) (h := h39) (hF := e74)) rfl rfl rfl (Nat.le_of_ble_eq_true rfl) (by decide +kernel) ?_
            refine g_seg hK [.iload 6, .iload_n 2, .iadd] 247 251 (L1 := [(10, vI r38), (0, vR 0), (1, vI p2), (2, vI r1), (3, vI s4), (5, vI r10), (6, vI r13), (7, vI r16), (8, vI r19), (9, vI x9_34)]) (st1 := [vI (wr (r13 + r1)), vI r72]) (h1 := h73) (P := True ∧ True ∧ True ∧ True) (by decide +kernel) rfl rfl ⟨trivial, trivial, trivial, trivial⟩ ?_
            refine g_icmp hK 251 .ne (28) 279 (t1 := 254) (t2 := 279) (by decide +kernel) (by decide) rfl rfl (fun (hc75 : r72 = wr (r13 + r1)) => ?_) (fun (hc75 : ¬ (r72 = wr (r13 + r1))) => ?_)
            · have hF := ite_t hc75 hF
              refine g_seg hK [.aload_n 0, .bipush 13] 254 257 (L1 := [(10, vI r38), (0, vR 0), (1, vI p2), (2, vI r1), (3, vI s4), (5, vI r10), (6, vI r13), (7, vI r16), (8, vI r19), (9, vI x9_34)]) (st1 := [vI 13, vR 0]) (h1 := h73) (P := True ∧ True ∧ True) (by decide +kernel) rfl rfl ⟨trivial, trivial, trivial⟩ ?_
              obtain ⟨r76, h77, e78, hF⟩ := ob2_elim hF
              refine g_callV1 hK 257 8 (d1 := 6) (ci := 6) (i := 0) (vs := [vI 13]) (rest := []) (h1 := h77) (r := vI r76) my_yX6_count vw_X9_8 (by decide) (T_X_count (p1 := 13) (h := h73) (hF := e78)) rfl rfl rfl (Nat.le_of_ble_eq_true rfl) (by decide +kernel) ?_
              refine g_seg hK [.iload 7] 260 262 (L1 := [(10, vI r38), (0, vR 0), (1, vI p2), (2, vI r1), (3, vI s4), (5, vI r10), (6, vI r13), (7, vI r16), (8, vI r19), (9, vI x9_34)]) (st1 := [vI r16, vI r76]) (h1 := h77) (P := True ∧ True) (by decide +kernel) rfl rfl ⟨trivial, trivial⟩ ?_
              refine g_icmp hK 262 .ne (17) 279 (t1 := 265) (t2 := 279) (by decide +kernel) (by decide) rfl rfl (fun (hc79 : r76 = r16) => ?_) (fun (hc79 : ¬ (r76 = r16)) => ?_)
              · have hF := ite_t hc79 hF
                refine g_seg hK [.aload_n 0, .iconst 2] 265 267 (L1 := [(10, vI r38), (0, vR 0), (1, vI p2), (2, vI r1), (3, vI s4), (5, vI r10), (6, vI r13), (7, vI r16), (8, vI r19), (9, vI x9_34)]) (st1 := [vI 2, vR 0]) (h1 := h77) (P := True ∧ True ∧ True) (by decide +kernel) rfl rfl ⟨trivial, trivial, trivial⟩ ?_
                obtain ⟨r80, h81, e82, hF⟩ := ob2_elim hF
                refine g_callV1 hK 267 8 (d1 := 6) (ci := 6) (i := 0) (vs := [vI 2]) (rest := []) (h1 := h81) (r := vI r80) my_yX6_count vw_X9_8 (by decide) (T_X_count (p1 := 2) (h := h77) (hF := e82)) rfl rfl rfl (Nat.le_of_ble_eq_true rfl) (by decide +kernel) ?_
                refine g_seg hK [.iload 5] 270 272 (L1 := [(10, vI r38), (0, vR 0), (1, vI p2), (2, vI r1), (3, vI s4), (5, vI r10), (6, vI r13), (7, vI r16), (8, vI r19), (9, vI x9_34)]) (st1 := [vI r10, vI r80]) (h1 := h81) (P := True ∧ True) (by decide +kernel) rfl rfl ⟨trivial, trivial⟩ ?_
                refine g_icmp hK 272 .ne (7) 279 (t1 := 275) (t2 := 279) (by decide +kernel) (by decide) rfl rfl (fun (hc83 : r80 = r10) => ?_) (fun (hc83 : ¬ (r80 = r10)) => ?_)
                · have hF := ite_t hc83 hF
                  refine g_seg hK [.iconst 1] 275 276 (L1 := [(10, vI r38), (0, vR 0), (1, vI p2), (2, vI r1), (3, vI s4), (5, vI r10), (6, vI r13), (7, vI r16), (8, vI r19), (9, vI x9_34)]) (st1 := [vI 1]) (h1 := h81) (P := True ∧ True) (by decide +kernel) rfl rfl ⟨trivial, trivial⟩ ?_
                  refine g_goto hK 276 (4) 280 (by decide +kernel) (by decide) ?_
                  refine hK.2.1 _ _ ([(0, vR 0), (3, vI s4), (5, vI r10), (6, vI r13), (8, vI r19)]) _ _ (sub_of [1, 4, 5, 6, 8] rfl) ?_
                  exact j55 _ _ hF
                · have hF := ite_f hc83 hF
                  refine hK.2.1 _ _ ([(0, vR 0), (3, vI s4), (5, vI r10), (6, vI r13), (8, vI r19)]) _ _ (sub_of [1, 4, 5, 6, 8] rfl) ?_
                  exact j52 _ hF
              · have hF := ite_f hc79 hF
                refine hK.2.1 _ _ ([(0, vR 0), (3, vI s4), (5, vI r10), (6, vI r13), (8, vI r19)]) _ _ (sub_of [1, 4, 5, 6, 8] rfl) ?_
                exact j52 _ hF
            · have hF := ite_f hc75 hF
              refine hK.2.1 _ _ ([(0, vR 0), (3, vI s4), (5, vI r10), (6, vI r13), (8, vI r19)]) _ _ (sub_of [1, 4, 5, 6, 8] rfl) ?_
              exact j52 _ hF
          · have hF := ite_f hc71 hF
            refine hK.2.1 _ _ ([(0, vR 0), (3, vI s4), (5, vI r10), (6, vI r13), (8, vI r19)]) _ _ (sub_of [1, 4, 5, 6, 8] rfl) ?_
            exact j52 _ hF
    clear hF
    have hF := e84
    refine g_icmp hK 128 .ne (7) 135 (t1 := 131) (t2 := 135) (by decide +kernel) (by decide) rfl rfl (fun (hc33 : r28 = r7) => ?_) (fun (hc33 : ¬ (r28 = r7)) => ?_)
    · have hF := ite_t hc33 hF
      refine g_seg hK [.iconst 1] 131 132 (L1 := [(0, vR 0), (1, vI p2), (2, vI r1), (3, vI s4), (4, vI r7), (5, vI r10), (6, vI r13), (7, vI r16), (8, vI r19), (9, vI x9_25)]) (st1 := [vI 1]) (h1 := h29) (P := True ∧ True) (by decide +kernel) rfl rfl ⟨trivial, trivial⟩ ?_
      refine g_goto hK 132 (4) 136 (by decide +kernel) (by decide) ?_
      refine hK.2.1 _ _ ([(0, vR 0), (1, vI p2), (2, vI r1), (3, vI s4), (5, vI r10), (6, vI r13), (7, vI r16), (8, vI r19)]) _ _ (sub_of [0, 1, 2, 3, 5, 6, 7, 8] rfl) ?_
      cases hF
      exact j32
    · have hF := ite_f hc33 hF
      refine g_seg hK [.iconst 0] 135 136 (L1 := [(0, vR 0), (1, vI p2), (2, vI r1), (3, vI s4), (4, vI r7), (5, vI r10), (6, vI r13), (7, vI r16), (8, vI r19), (9, vI x9_25)]) (st1 := [vI 0]) (h1 := h29) (P := True ∧ True) (by decide +kernel) rfl rfl ⟨trivial, trivial⟩ ?_
      refine hK.2.1 _ _ ([(0, vR 0), (1, vI p2), (2, vI r1), (3, vI s4), (5, vI r10), (6, vI r13), (7, vI r16), (8, vI r19)]) _ _ (sub_of [0, 1, 2, 3, 5, 6, 7, 8] rfl) ?_
      cases hF
      exact j32
  clear hF
  have hF := e85
  refine g_ifz hK 8 .eq (7) 15 (t1 := 15) (t2 := 11) (by decide +kernel) (by decide) rfl rfl (fun (hc6 : p2 = 0) => ?_) (fun (hc6 : ¬ (p2 = 0)) => ?_)
  · have hF := ite_t hc6 hF
    refine g_seg hK [.iconst 0] 15 16 (L1 := [(2, vI r1), (0, vR 0), (1, vI p2)]) (st1 := [vI 0]) (h1 := h2) (P := True ∧ True) (by decide +kernel) rfl rfl ⟨trivial, trivial⟩ ?_
    refine hK.2.1 _ _ ([(0, vR 0), (1, vI p2), (2, vI r1)]) _ _ (sub_of [1, 2, 0] rfl) ?_
    cases hF
    exact j5
  · have hF := ite_f hc6 hF
    refine g_seg hK [.iconst 1] 11 12 (L1 := [(2, vI r1), (0, vR 0), (1, vI p2)]) (st1 := [vI 1]) (h1 := h2) (P := True ∧ True) (by decide +kernel) rfl rfl ⟨trivial, trivial⟩ ?_
    refine g_goto hK 12 (4) 16 (by decide +kernel) (by decide) ?_
    refine hK.2.1 _ _ ([(0, vR 0), (1, vI p2), (2, vI r1)]) _ _ (sub_of [1, 2, 0] rfl) ?_
    cases hF
    exact j5
set_option maxHeartbeats 4000000 in
set_option maxRecDepth 100000 in
theorem LT_L_isLeast_L36 {K : KT} (hK : Rules RX9 cL_isLeast 8 (Option.some Jvm.ClassFile.FieldType.boolean) flX9 7 K) {Post : Option MV → MH → Prop} (hR : R_ret cL_isLeast (Option.some Jvm.ClassFile.FieldType.boolean) Post K) {x1 : Int} {x2 : Int} : ∀ (n : Nat) (x3 : Int) (x4 : Int) (x5 : Int) (h : MH) (out : Sum (Int × MH) (Int × Int × Int × MH)), F_L_isLeast_L36 x1 x2 n x3 x4 x5 h = some out → (∀ a : Int × MH, out = Sum.inl a → Post (some (vI a.1)) a.2) → (∀ q : Int × Int × Int × MH, out = Sum.inr q → K 120 [(0, vR 0), (1, vI x1), (2, vI x2), (3, vI q.1), (4, vI q.2.1), (5, vI q.2.2.1)] [] q.2.2.2) → K 36 [(0, vR 0), (1, vI x1), (2, vI x2), (3, vI x3), (4, vI x4), (5, vI x5)] [] h := by
  intro n
  induction n with
  | zero =>
    intro x3 x4 x5 h out hF
    cases hF
  | succ n ih =>
    intro x3 x4 x5 h out hF hRet hE
    unfold F_L_isLeast_L36 at hF
    refine g_seg hK [.iload 5, .iload_n 1] 36 39 (L1 := [(0, vR 0), (1, vI x1), (2, vI x2), (3, vI x3), (4, vI x4), (5, vI x5)]) (st1 := [vI x1, vI x5]) (h1 := h) (P := True ∧ True ∧ True) (by decide +kernel) rfl rfl ⟨trivial, trivial, trivial⟩ ?_
    refine g_icmp hK 39 .ge (81) 120 (t1 := 42) (t2 := 120) (by decide +kernel) (by decide) rfl rfl (fun (hc1 : x5 < x1) => ?_) (fun (hc1 : ¬ (x5 < x1)) => ?_)
    · have hF := ite_t hc1 hF
      refine g_seg hK [.iload 5, .bipush 14] 42 46 (L1 := [(0, vR 0), (1, vI x1), (2, vI x2), (3, vI x3), (4, vI x4), (5, vI x5)]) (st1 := [vI 14, vI x5]) (h1 := h) (P := True ∧ True ∧ True) (by decide +kernel) rfl rfl ⟨trivial, trivial, trivial⟩ ?_
      refine g_icmp hK 46 .ge (74) 120 (t1 := 49) (t2 := 120) (by decide +kernel) (by decide) rfl rfl (fun (hc2 : x5 < 14) => ?_) (fun (hc2 : ¬ (x5 < 14)) => ?_)
      · have hF := ite_t hc2 hF
        refine g_seg hK [.aload_n 0, .iconst 0, .iload 5, .bipush 20] 49 55 (L1 := [(0, vR 0), (1, vI x1), (2, vI x2), (3, vI x3), (4, vI x4), (5, vI x5)]) (st1 := [vI 20, vI x5, vI 0, vR 0]) (h1 := h) (P := True ∧ True ∧ True ∧ True ∧ True) (by decide +kernel) rfl rfl ⟨trivial, trivial, trivial, trivial, trivial⟩ ?_
        obtain ⟨r3, h4, e5, hF⟩ := ob2_elim hF
        refine g_callV1 hK 55 39 (d1 := 6) (ci := 6) (i := 0) (vs := [vI 0, vI x5, vI 20]) (rest := []) (h1 := h4) (r := vI r3) my_yX6_edit vw_X9_39 (by decide) (T_X_edit (p1 := 0) (p2 := x5) (p3 := 20) (h := h) (hF := e5)) rfl rfl rfl (Nat.le_of_ble_eq_true rfl) (by decide +kernel) ?_
        refine g_seg hK [.istore 6, .aload_n 0, .iconst 0] 58 62 (L1 := [(6, vI r3), (0, vR 0), (1, vI x1), (2, vI x2), (3, vI x3), (4, vI x4), (5, vI x5)]) (st1 := [vI 0, vR 0]) (h1 := h4) (P := True ∧ True ∧ True ∧ True) (by decide +kernel) rfl rfl ⟨trivial, trivial, trivial, trivial⟩ ?_
        obtain ⟨r6, h7, e8, hF⟩ := ob2_elim hF
        refine g_callV1 hK 62 24 (d1 := 6) (ci := 6) (i := 0) (vs := [vI 0]) (rest := []) (h1 := h7) (r := vI r6) my_yX6_distance vw_X9_24 (by decide) (T_X_distance (p1 := 0) (h := h4) (hF := e8)) rfl rfl rfl (Nat.le_of_ble_eq_true rfl) (by decide +kernel) ?_
        refine g_seg hK [.istore 7, .iload 7, .iload 4] 65 71 (L1 := [(7, vI r6), (6, vI r3), (0, vR 0), (1, vI x1), (2, vI x2), (3, vI x3), (4, vI x4), (5, vI x5)]) (st1 := [vI x4, vI r6]) (h1 := h7) (P := True ∧ True ∧ True ∧ True) (by decide +kernel) rfl rfl ⟨trivial, trivial, trivial, trivial⟩ ?_
        obtain ⟨s9, e21, hF⟩ := jn1_elim hF
        have j10 : K 80 [(0, vR 0), (1, vI x1), (2, vI x2), (4, vI x4), (5, vI x5), (6, vI r3), (7, vI r6)] [vI s9] h7 := by
          refine g_seg hK [.istore_n 3, .iload 7, .iload 4] 80 85 (L1 := [(3, vI s9), (0, vR 0), (1, vI x1), (2, vI x2), (4, vI x4), (5, vI x5), (6, vI r3), (7, vI r6)]) (st1 := [vI x4, vI r6]) (h1 := h7) (P := True ∧ True ∧ True ∧ True) (by decide +kernel) rfl rfl ⟨trivial, trivial, trivial, trivial⟩ ?_
          obtain ⟨s12, e20, hF⟩ := jn1_elim hF
          have j13 : K 95 [(0, vR 0), (1, vI x1), (2, vI x2), (3, vI s9), (5, vI x5), (6, vI r3)] [vI s12] h7 := by
            refine g_seg hK [.istore 4, .iload 6, .iload_n 1, .iconst 1, .isub] 95 102 (L1 := [(4, vI s12), (0, vR 0), (1, vI x1), (2, vI x2), (3, vI s9), (5, vI x5), (6, vI r3)]) (st1 := [vI (wr (x1 - 1)), vI r3]) (h1 := h7) (P := True ∧ True ∧ True ∧ True ∧ True ∧ True) (by decide +kernel) rfl rfl ⟨trivial, trivial, trivial, trivial, trivial, trivial⟩ ?_
            refine g_icmp hK 102 .ne (10) 112 (t1 := 105) (t2 := 112) (by decide +kernel) (by decide) rfl rfl (fun (hc15 : r3 = wr (x1 - 1)) => ?_) (fun (hc15 : ¬ (r3 = wr (x1 - 1))) => ?_)
            · have hF := ite_t hc15 hF
              refine g_seg hK [.aload_n 0] 105 106 (L1 := [(4, vI s12), (0, vR 0), (1, vI x1), (2, vI x2), (3, vI s9), (5, vI x5), (6, vI r3)]) (st1 := [vR 0]) (h1 := h7) (P := True ∧ True) (by decide +kernel) rfl rfl ⟨trivial, trivial⟩ ?_
              obtain ⟨r16, h17, e18, hF⟩ := ob2_elim hF
              refine g_callV1 hK 106 57 (d1 := 5) (ci := 6) (i := 0) (vs := []) (rest := []) (h1 := h17) (r := vI r16) my_yX6_undo vw_X9_57 (by decide) (T_X_undo (h := h7) (hF := e18)) rfl rfl rfl (Nat.le_of_ble_eq_true rfl) (by decide +kernel) ?_
              refine g_ifz hK 109 .ge (5) 114 (t1 := 112) (t2 := 114) (by decide +kernel) (by decide) rfl rfl (fun (hc19 : r16 < 0) => ?_) (fun (hc19 : ¬ (r16 < 0)) => ?_)
              · have hF := ite_t hc19 hF
                refine g_seg hK [.iconst 0] 112 113 (L1 := [(4, vI s12), (0, vR 0), (1, vI x1), (2, vI x2), (3, vI s9), (5, vI x5), (6, vI r3)]) (st1 := [vI 0]) (h1 := h17) (P := True ∧ True) (by decide +kernel) rfl rfl ⟨trivial, trivial⟩ ?_
                cases hF
                exact hR.2.1 113 _ _ _ (by decide +kernel) rfl (by decide) (hRet _ rfl)
              · have hF := ite_f hc19 hF
                refine g_seg hK [.iinc 5 1] 114 117 (L1 := [(5, vI (wr (x5 + 1))), (4, vI s12), (0, vR 0), (1, vI x1), (2, vI x2), (3, vI s9), (6, vI r3)]) (st1 := []) (h1 := h17) (P := True ∧ True) (by decide +kernel) rfl rfl ⟨trivial, trivial⟩ ?_
                refine g_goto hK 117 (-81) 36 (by decide +kernel) (by decide) ?_
                refine hK.2.1 _ _ ([(0, vR 0), (1, vI x1), (2, vI x2), (3, vI s9), (4, vI s12), (5, vI (wr (x5 + 1)))]) _ _ (sub_of [2, 3, 4, 5, 1, 0] rfl) ?_
                exact ih _ _ _ _ _ hF hRet hE
            · have hF := ite_f hc15 hF
              refine g_seg hK [.iconst 0] 112 113 (L1 := [(4, vI s12), (0, vR 0), (1, vI x1), (2, vI x2), (3, vI s9), (5, vI x5), (6, vI r3)]) (st1 := [vI 0]) (h1 := h7) (P := True ∧ True) (by decide +kernel) rfl rfl ⟨trivial, trivial⟩ ?_
              cases hF
              exact hR.2.1 113 _ _ _ (by decide +kernel) rfl (by decide) (hRet _ rfl)
          clear hF
          have hF := e20
          refine g_icmp hK 85 .ge (8) 93 (t1 := 88) (t2 := 93) (by decide +kernel) (by decide) rfl rfl (fun (hc14 : r6 < x4) => ?_) (fun (hc14 : ¬ (r6 < x4)) => ?_)
          · have hF := ite_t hc14 hF
            refine g_seg hK [.iload 7] 88 90 (L1 := [(3, vI s9), (0, vR 0), (1, vI x1), (2, vI x2), (4, vI x4), (5, vI x5), (6, vI r3), (7, vI r6)]) (st1 := [vI r6]) (h1 := h7) (P := True ∧ True) (by decide +kernel) rfl rfl ⟨trivial, trivial⟩ ?_
            refine g_goto hK 90 (5) 95 (by decide +kernel) (by decide) ?_
            refine hK.2.1 _ _ ([(0, vR 0), (1, vI x1), (2, vI x2), (3, vI s9), (5, vI x5), (6, vI r3)]) _ _ (sub_of [1, 2, 3, 0, 5, 6] rfl) ?_
            cases hF
            exact j13
          · have hF := ite_f hc14 hF
            refine g_seg hK [.iload 4] 93 95 (L1 := [(3, vI s9), (0, vR 0), (1, vI x1), (2, vI x2), (4, vI x4), (5, vI x5), (6, vI r3), (7, vI r6)]) (st1 := [vI x4]) (h1 := h7) (P := True ∧ True) (by decide +kernel) rfl rfl ⟨trivial, trivial⟩ ?_
            refine hK.2.1 _ _ ([(0, vR 0), (1, vI x1), (2, vI x2), (3, vI s9), (5, vI x5), (6, vI r3)]) _ _ (sub_of [1, 2, 3, 0, 5, 6] rfl) ?_
            cases hF
            exact j13
        clear hF
        have hF := e21
        refine g_icmp hK 71 .ge (8) 79 (t1 := 74) (t2 := 79) (by decide +kernel) (by decide) rfl rfl (fun (hc11 : r6 < x4) => ?_) (fun (hc11 : ¬ (r6 < x4)) => ?_)
        · have hF := ite_t hc11 hF
          refine g_seg hK [.iload 5] 74 76 (L1 := [(7, vI r6), (6, vI r3), (0, vR 0), (1, vI x1), (2, vI x2), (3, vI x3), (4, vI x4), (5, vI x5)]) (st1 := [vI x5]) (h1 := h7) (P := True ∧ True) (by decide +kernel) rfl rfl ⟨trivial, trivial⟩ ?_
          refine g_goto hK 76 (4) 80 (by decide +kernel) (by decide) ?_
          refine hK.2.1 _ _ ([(0, vR 0), (1, vI x1), (2, vI x2), (4, vI x4), (5, vI x5), (6, vI r3), (7, vI r6)]) _ _ (sub_of [2, 3, 4, 6, 7, 1, 0] rfl) ?_
          cases hF
          exact j10
        · have hF := ite_f hc11 hF
          refine g_seg hK [.iload_n 3] 79 80 (L1 := [(7, vI r6), (6, vI r3), (0, vR 0), (1, vI x1), (2, vI x2), (3, vI x3), (4, vI x4), (5, vI x5)]) (st1 := [vI x3]) (h1 := h7) (P := True ∧ True) (by decide +kernel) rfl rfl ⟨trivial, trivial⟩ ?_
          refine hK.2.1 _ _ ([(0, vR 0), (1, vI x1), (2, vI x2), (4, vI x4), (5, vI x5), (6, vI r3), (7, vI r6)]) _ _ (sub_of [2, 3, 4, 6, 7, 1, 0] rfl) ?_
          cases hF
          exact j10
      · have hF := ite_f hc2 hF
        cases hF
        exact hE _ rfl
    · have hF := ite_f hc1 hF
      cases hF
      exact hE _ rfl
set_option maxHeartbeats 4000000 in
set_option maxRecDepth 100000 in
theorem T_L_isLeast {h : MH} {r : Int} {h' : MH} (hF : F_L_isLeast h = some (r, h')) : CON 7 yL_isLeast cL_isLeast 8 (Option.some Jvm.ClassFile.FieldType.boolean) [vR 0] h (some (vI r)) h' := by
  refine con_of (own := RX9) (fl := flX9) (by decide +kernel) rfl flok_X9 rfl (Nat.le_of_ble_eq_true rfl) ?_
  intro K hK hR
  show K 0 [(0, vR 0)] [] h
  unfold F_L_isLeast at hF
  refine g_seg hK [.aload_n 0, .iconst 0] 0 2 (L1 := [(0, vR 0)]) (st1 := [vI 0, vR 0]) (h1 := h) (P := True ∧ True ∧ True) (by decide +kernel) rfl rfl ⟨trivial, trivial, trivial⟩ ?_
  obtain ⟨r1, h2, e3, hF⟩ := ob2_elim hF
  refine g_callV1 hK 2 8 (d1 := 6) (ci := 6) (i := 0) (vs := [vI 0]) (rest := []) (h1 := h2) (r := vI r1) my_yX6_count vw_X9_8 (by decide) (T_X_count (p1 := 0) (h := h) (hF := e3)) rfl rfl rfl (Nat.le_of_ble_eq_true rfl) (by decide +kernel) ?_
  refine g_seg hK [.istore_n 1, .aload_n 0] 5 7 (L1 := [(1, vI r1), (0, vR 0)]) (st1 := [vR 0]) (h1 := h2) (P := True ∧ True ∧ True) (by decide +kernel) rfl rfl ⟨trivial, trivial, trivial⟩ ?_
  obtain ⟨r4, h5, e6, hF⟩ := ob2_elim hF
  refine g_callV1 hK 7 54 (d1 := 5) (ci := 6) (i := 0) (vs := []) (rest := []) (h1 := h5) (r := vI r4) my_yX6_least vw_X9_54 (by decide) (T_X_least (h := h2) (hF := e6)) rfl rfl rfl (Nat.le_of_ble_eq_true rfl) (by decide +kernel) ?_
  refine g_seg hK [.istore_n 2, .iload_n 1] 10 12 (L1 := [(2, vI r4), (1, vI r1), (0, vR 0)]) (st1 := [vI r1]) (h1 := h5) (P := True ∧ True ∧ True) (by decide +kernel) rfl rfl ⟨trivial, trivial, trivial⟩ ?_
  refine g_ifz hK 12 .ne (15) 27 (t1 := 15) (t2 := 27) (by decide +kernel) (by decide) rfl rfl (fun (hc7 : r1 = 0) => ?_) (fun (hc7 : ¬ (r1 = 0)) => ?_)
  · have hF := ite_t hc7 hF
    refine g_seg hK [.iload_n 2, .bipush (-2)] 15 18 (L1 := [(2, vI r4), (1, vI r1), (0, vR 0)]) (st1 := [vI (-2), vI r4]) (h1 := h5) (P := True ∧ True ∧ True) (by decide +kernel) rfl rfl ⟨trivial, trivial, trivial⟩ ?_
    refine g_icmp hK 18 .ne (7) 25 (t1 := 21) (t2 := 25) (by decide +kernel) (by decide) rfl rfl (fun (hc8 : r4 = (-2)) => ?_) (fun (hc8 : ¬ (r4 = (-2))) => ?_)
    · have hF := ite_t hc8 hF
      refine g_seg hK [.iconst 1] 21 22 (L1 := [(2, vI r4), (1, vI r1), (0, vR 0)]) (st1 := [vI 1]) (h1 := h5) (P := True ∧ True) (by decide +kernel) rfl rfl ⟨trivial, trivial⟩ ?_
      refine g_goto hK 22 (4) 26 (by decide +kernel) (by decide) ?_
      cases hF
      exact hR.2.1 26 _ _ _ (by decide +kernel) rfl (by decide) ⟨rfl, rfl⟩
    · have hF := ite_f hc8 hF
      refine g_seg hK [.iconst 0] 25 26 (L1 := [(2, vI r4), (1, vI r1), (0, vR 0)]) (st1 := [vI 0]) (h1 := h5) (P := True ∧ True) (by decide +kernel) rfl rfl ⟨trivial, trivial⟩ ?_
      cases hF
      exact hR.2.1 26 _ _ _ (by decide +kernel) rfl (by decide) ⟨rfl, rfl⟩
  · have hF := ite_f hc7 hF
    refine g_seg hK [.iconst (-1), .istore_n 3, .bipush 99, .istore 4, .iconst 0, .istore 5] 27 36 (L1 := [(5, vI 0), (4, vI 99), (3, vI (-1)), (2, vI r4), (1, vI r1), (0, vR 0)]) (st1 := []) (h1 := h5) (P := True ∧ True ∧ True ∧ True ∧ True ∧ True ∧ True) (by decide +kernel) rfl rfl ⟨trivial, trivial, trivial, trivial, trivial, trivial, trivial⟩ ?_
    refine hK.2.1 _ _ ([(0, vR 0), (1, vI r1), (2, vI r4), (3, vI (-1)), (4, vI 99), (5, vI 0)]) _ _ (sub_of [5, 4, 3, 2, 1, 0] rfl) ?_
    obtain ⟨out15, e13, hr16, hx17⟩ := os_elim hF
    refine LT_L_isLeast_L36 hK hR _ _ _ _ _ out15 e13 ?_ ?_
    · intro a ha
      have hF := hr16 a ha
      cases hF
      exact ⟨rfl, rfl⟩
    · intro q14 hq
      have hF := hx17 q14 hq
      refine g_seg hK [.iload_n 2, .iload_n 3] 120 122 (L1 := [(0, vR 0), (1, vI r1), (2, vI r4), (3, vI q14.1), (4, vI q14.2.1), (5, vI q14.2.2.1)]) (st1 := [vI q14.1, vI r4]) (h1 := q14.2.2.2) (P := True ∧ True ∧ True) (by decide +kernel) rfl rfl ⟨trivial, trivial, trivial⟩ ?_
      refine g_icmp hK 122 .ne (16) 138 (t1 := 125) (t2 := 138) (by decide +kernel) (by decide) rfl rfl (fun (hc18 : r4 = q14.1) => ?_) (fun (hc18 : ¬ (r4 = q14.1)) => ?_)
      · have hF := ite_t hc18 hF
        refine g_seg hK [.aload_n 0, .iconst 0] 125 127 (L1 := [(0, vR 0), (1, vI r1), (2, vI r4), (3, vI q14.1), (4, vI q14.2.1), (5, vI q14.2.2.1)]) (st1 := [vI 0, vR 0]) (h1 := q14.2.2.2) (P := True ∧ True ∧ True) (by decide +kernel) rfl rfl ⟨trivial, trivial, trivial⟩ ?_
        obtain ⟨r19, h20, e21, hF⟩ := ob2_elim hF
        refine g_callV1 hK 127 8 (d1 := 6) (ci := 6) (i := 0) (vs := [vI 0]) (rest := []) (h1 := h20) (r := vI r19) my_yX6_count vw_X9_8 (by decide) (T_X_count (p1 := 0) (h := q14.2.2.2) (hF := e21)) rfl rfl rfl (Nat.le_of_ble_eq_true rfl) (by decide +kernel) ?_
        refine g_seg hK [.iload_n 1] 130 131 (L1 := [(0, vR 0), (1, vI r1), (2, vI r4), (3, vI q14.1), (4, vI q14.2.1), (5, vI q14.2.2.1)]) (st1 := [vI r1, vI r19]) (h1 := h20) (P := True ∧ True) (by decide +kernel) rfl rfl ⟨trivial, trivial⟩ ?_
        refine g_icmp hK 131 .ne (7) 138 (t1 := 134) (t2 := 138) (by decide +kernel) (by decide) rfl rfl (fun (hc22 : r19 = r1) => ?_) (fun (hc22 : ¬ (r19 = r1)) => ?_)
        · have hF := ite_t hc22 hF
          refine g_seg hK [.iconst 1] 134 135 (L1 := [(0, vR 0), (1, vI r1), (2, vI r4), (3, vI q14.1), (4, vI q14.2.1), (5, vI q14.2.2.1)]) (st1 := [vI 1]) (h1 := h20) (P := True ∧ True) (by decide +kernel) rfl rfl ⟨trivial, trivial⟩ ?_
          refine g_goto hK 135 (4) 139 (by decide +kernel) (by decide) ?_
          cases hF
          exact hR.2.1 139 _ _ _ (by decide +kernel) rfl (by decide) ⟨rfl, rfl⟩
        · have hF := ite_f hc22 hF
          refine g_seg hK [.iconst 0] 138 139 (L1 := [(0, vR 0), (1, vI r1), (2, vI r4), (3, vI q14.1), (4, vI q14.2.1), (5, vI q14.2.2.1)]) (st1 := [vI 0]) (h1 := h20) (P := True ∧ True) (by decide +kernel) rfl rfl ⟨trivial, trivial⟩ ?_
          cases hF
          exact hR.2.1 139 _ _ _ (by decide +kernel) rfl (by decide) ⟨rfl, rfl⟩
      · have hF := ite_f hc18 hF
        refine g_seg hK [.iconst 0] 138 139 (L1 := [(0, vR 0), (1, vI r1), (2, vI r4), (3, vI q14.1), (4, vI q14.2.1), (5, vI q14.2.2.1)]) (st1 := [vI 0]) (h1 := q14.2.2.2) (P := True ∧ True) (by decide +kernel) rfl rfl ⟨trivial, trivial⟩ ?_
        cases hF
        exact hR.2.1 139 _ _ _ (by decide +kernel) rfl (by decide) ⟨rfl, rfl⟩
set_option maxHeartbeats 4000000 in
set_option maxRecDepth 100000 in
theorem T_L_does {p2 : Int} {h : MH} {r : Int} {h' : MH} (hF : F_L_does p2 h = some (r, h')) : CON 7 yL_does cL_does 18 (Option.some Jvm.ClassFile.FieldType.boolean) [vR 0, vI p2] h (some (vI r)) h' := by
  refine con_of (own := RX9) (fl := flX9) (by decide +kernel) rfl flok_X9 rfl (Nat.le_of_ble_eq_true rfl) ?_
  intro K hK hR
  show K 0 [(0, vR 0), (1, vI p2)] [] h
  unfold F_L_does at hF
  refine g_seg hK [.iload_n 1, .iconst 4, .ishr, .iconst 3] 0 4 (L1 := [(0, vR 0), (1, vI p2)]) (st1 := [vI 3, vI (shrv p2 4)]) (h1 := h) (P := True ∧ True ∧ True ∧ True ∧ True) (by decide +kernel) rfl rfl ⟨trivial, trivial, trivial, trivial, trivial⟩ ?_
  obtain ⟨r1, e2, hF⟩ := ob1_elim hF
  refine g_callS1 hK 4 60 (d1 := 0) (vs := [vI (shrv p2 4), vI 3]) (rest := []) (h1 := h) (r := vI r1) my_yL_low sw_X9_60 (by decide) (T_L_low (p1 := (shrv p2 4)) (p2 := 3) (h := h) (hF := e2)) rfl (Nat.le_of_ble_eq_true rfl) (by decide +kernel) ?_
  refine g_seg hK [.istore_n 2, .aload_n 0, .iload_n 2] 7 10 (L1 := [(2, vI r1), (0, vR 0), (1, vI p2)]) (st1 := [vI r1, vR 0]) (h1 := h) (P := True ∧ True ∧ True ∧ True) (by decide +kernel) rfl rfl ⟨trivial, trivial, trivial, trivial⟩ ?_
  obtain ⟨r3, h4, e5, hF⟩ := ob2_elim hF
  refine g_callV1 hK 10 8 (d1 := 6) (ci := 6) (i := 0) (vs := [vI r1]) (rest := []) (h1 := h4) (r := vI r3) my_yX6_count vw_X9_8 (by decide) (T_X_count (p1 := r1) (h := h) (hF := e5)) rfl rfl rfl (Nat.le_of_ble_eq_true rfl) (by decide +kernel) ?_
  refine g_seg hK [.istore_n 3, .iload_n 1, .bipush 12] 13 17 (L1 := [(3, vI r3), (2, vI r1), (0, vR 0), (1, vI p2)]) (st1 := [vI 12, vI p2]) (h1 := h4) (P := True ∧ True ∧ True ∧ True) (by decide +kernel) rfl rfl ⟨trivial, trivial, trivial, trivial⟩ ?_
  obtain ⟨r6, e7, hF⟩ := ob1_elim hF
  refine g_callS1 hK 17 60 (d1 := 0) (vs := [vI p2, vI 12]) (rest := []) (h1 := h4) (r := vI r6) my_yL_low sw_X9_60 (by decide) (T_L_low (p1 := p2) (p2 := 12) (h := h4) (hF := e7)) rfl (Nat.le_of_ble_eq_true rfl) (by decide +kernel) ?_
  refine g_sw hK 20 406 0 5 #[40, 111, 174, 217, 217, 303] 40 (by decide +kernel) (by decide) ?_
  by_cases hc8 : r6 = 0
  · have hF := ite_t hc8 hF
    rw [show swT 20 406 0 5 [40, 111, 174, 217, 217, 303] r6 = 60 from by rw [hc8]; decide]
    refine g_seg hK [.iload_n 1, .iconst 4, .ishr, .iconst 1, .iand, .istore 4, .iload 4] 60 69 (L1 := [(4, vI (andv (shrv p2 4) 1)), (3, vI r3), (2, vI r1), (0, vR 0), (1, vI p2)]) (st1 := [vI (andv (shrv p2 4) 1)]) (h1 := h4) (P := True ∧ True ∧ True ∧ True ∧ True ∧ True ∧ True ∧ True) (by decide +kernel) rfl rfl ⟨trivial, trivial, trivial, trivial, trivial, trivial, trivial, trivial⟩ ?_
    obtain ⟨s9, e23, hF⟩ := jn1_elim hF
    have j10 : K 85 [(0, vR 0), (4, vI (andv (shrv p2 4) 1))] [vI s9] h4 := by
      refine g_seg hK [.istore 5, .aload_n 0, .bipush 14, .iload 4, .iadd] 85 93 (L1 := [(5, vI s9), (0, vR 0), (4, vI (andv (shrv p2 4) 1))]) (st1 := [vI (wr (14 + (andv (shrv p2 4) 1))), vR 0]) (h1 := h4) (P := True ∧ True ∧ True ∧ True ∧ True ∧ True) (by decide +kernel) rfl rfl ⟨trivial, trivial, trivial, trivial, trivial, trivial⟩ ?_
      obtain ⟨r12, h13, e14, hF⟩ := ob2_elim hF
      refine g_callV1 hK 93 8 (d1 := 6) (ci := 6) (i := 0) (vs := [vI (wr (14 + (andv (shrv p2 4) 1)))]) (rest := []) (h1 := h13) (r := vI r12) my_yX6_count vw_X9_8 (by decide) (T_X_count (p1 := (wr (14 + (andv (shrv p2 4) 1)))) (h := h4) (hF := e14)) rfl rfl rfl (Nat.le_of_ble_eq_true rfl) (by decide +kernel) ?_
      refine g_seg hK [.istore 6, .aload_n 0, .iload 4, .iload 5] 96 103 (L1 := [(6, vI r12), (5, vI s9), (0, vR 0), (4, vI (andv (shrv p2 4) 1))]) (st1 := [vI s9, vI (andv (shrv p2 4) 1), vR 0]) (h1 := h13) (P := True ∧ True ∧ True ∧ True ∧ True) (by decide +kernel) rfl rfl ⟨trivial, trivial, trivial, trivial, trivial⟩ ?_
      obtain ⟨r15, h16, e17, hF⟩ := ob2_elim hF
      refine g_callV1 hK 103 65 (d1 := 6) (ci := 6) (i := 0) (vs := [vI (andv (shrv p2 4) 1), vI s9]) (rest := []) (h1 := h16) (r := vI r15) my_yX6_set vw_X9_65 (by decide) (T_X_set (p1 := (andv (shrv p2 4) 1)) (p2 := s9) (h := h13) (hF := e17)) rfl rfl rfl (Nat.le_of_ble_eq_true rfl) (by decide +kernel) ?_
      refine g_seg hK [.iload 6] 106 108 (L1 := [(6, vI r12), (5, vI s9), (0, vR 0), (4, vI (andv (shrv p2 4) 1))]) (st1 := [vI r12, vI r15]) (h1 := h16) (P := True ∧ True) (by decide +kernel) rfl rfl ⟨trivial, trivial⟩ ?_
      refine g_icmp hK 108 .ne (21) 129 (t1 := 111) (t2 := 129) (by decide +kernel) (by decide) rfl rfl (fun (hc18 : r15 = r12) => ?_) (fun (hc18 : ¬ (r15 = r12)) => ?_)
      · have hF := ite_t hc18 hF
        refine g_seg hK [.aload_n 0, .bipush 14, .iload 4, .iadd] 111 117 (L1 := [(6, vI r12), (5, vI s9), (0, vR 0), (4, vI (andv (shrv p2 4) 1))]) (st1 := [vI (wr (14 + (andv (shrv p2 4) 1))), vR 0]) (h1 := h16) (P := True ∧ True ∧ True ∧ True ∧ True) (by decide +kernel) rfl rfl ⟨trivial, trivial, trivial, trivial, trivial⟩ ?_
        obtain ⟨r19, h20, e21, hF⟩ := ob2_elim hF
        refine g_callV1 hK 117 8 (d1 := 6) (ci := 6) (i := 0) (vs := [vI (wr (14 + (andv (shrv p2 4) 1)))]) (rest := []) (h1 := h20) (r := vI r19) my_yX6_count vw_X9_8 (by decide) (T_X_count (p1 := (wr (14 + (andv (shrv p2 4) 1)))) (h := h16) (hF := e21)) rfl rfl rfl (Nat.le_of_ble_eq_true rfl) (by decide +kernel) ?_
        refine g_seg hK [.iload 5] 120 122 (L1 := [(6, vI r12), (5, vI s9), (0, vR 0), (4, vI (andv (shrv p2 4) 1))]) (st1 := [vI s9, vI r19]) (h1 := h20) (P := True ∧ True) (by decide +kernel) rfl rfl ⟨trivial, trivial⟩ ?_
        refine g_icmp hK 122 .ne (7) 129 (t1 := 125) (t2 := 129) (by decide +kernel) (by decide) rfl rfl (fun (hc22 : r19 = s9) => ?_) (fun (hc22 : ¬ (r19 = s9)) => ?_)
        · have hF := ite_t hc22 hF
          refine g_seg hK [.iconst 1] 125 126 (L1 := [(6, vI r12), (5, vI s9), (0, vR 0), (4, vI (andv (shrv p2 4) 1))]) (st1 := [vI 1]) (h1 := h20) (P := True ∧ True) (by decide +kernel) rfl rfl ⟨trivial, trivial⟩ ?_
          refine g_goto hK 126 (4) 130 (by decide +kernel) (by decide) ?_
          cases hF
          exact hR.2.1 130 _ _ _ (by decide +kernel) rfl (by decide) ⟨rfl, rfl⟩
        · have hF := ite_f hc22 hF
          refine g_seg hK [.iconst 0] 129 130 (L1 := [(6, vI r12), (5, vI s9), (0, vR 0), (4, vI (andv (shrv p2 4) 1))]) (st1 := [vI 0]) (h1 := h20) (P := True ∧ True) (by decide +kernel) rfl rfl ⟨trivial, trivial⟩ ?_
          cases hF
          exact hR.2.1 130 _ _ _ (by decide +kernel) rfl (by decide) ⟨rfl, rfl⟩
      · have hF := ite_f hc18 hF
        refine g_seg hK [.iconst 0] 129 130 (L1 := [(6, vI r12), (5, vI s9), (0, vR 0), (4, vI (andv (shrv p2 4) 1))]) (st1 := [vI 0]) (h1 := h16) (P := True ∧ True) (by decide +kernel) rfl rfl ⟨trivial, trivial⟩ ?_
        cases hF
        exact hR.2.1 130 _ _ _ (by decide +kernel) rfl (by decide) ⟨rfl, rfl⟩
    clear hF
    have hF := e23
    refine g_ifz hK 69 .ne (11) 80 (t1 := 72) (t2 := 80) (by decide +kernel) (by decide) rfl rfl (fun (hc11 : andv (shrv p2 4) 1 = 0) => ?_) (fun (hc11 : ¬ (andv (shrv p2 4) 1 = 0)) => ?_)
    · have hF := ite_t hc11 hF
      refine g_seg hK [.iload_n 1, .iconst 5, .ishr, .iconst 3, .iand] 72 77 (L1 := [(4, vI (andv (shrv p2 4) 1)), (3, vI r3), (2, vI r1), (0, vR 0), (1, vI p2)]) (st1 := [vI (andv (shrv p2 5) 3)]) (h1 := h4) (P := True ∧ True ∧ True ∧ True ∧ True ∧ True) (by decide +kernel) rfl rfl ⟨trivial, trivial, trivial, trivial, trivial, trivial⟩ ?_
      refine g_goto hK 77 (8) 85 (by decide +kernel) (by decide) ?_
      refine hK.2.1 _ _ ([(0, vR 0), (4, vI (andv (shrv p2 4) 1))]) _ _ (sub_of [3, 0] rfl) ?_
      cases hF
      exact j10
    · have hF := ite_f hc11 hF
      refine g_seg hK [.iload_n 1, .iconst 5, .ishr, .iconst 1, .iand] 80 85 (L1 := [(4, vI (andv (shrv p2 4) 1)), (3, vI r3), (2, vI r1), (0, vR 0), (1, vI p2)]) (st1 := [vI (andv (shrv p2 5) 1)]) (h1 := h4) (P := True ∧ True ∧ True ∧ True ∧ True ∧ True) (by decide +kernel) rfl rfl ⟨trivial, trivial, trivial, trivial, trivial, trivial⟩ ?_
      refine hK.2.1 _ _ ([(0, vR 0), (4, vI (andv (shrv p2 4) 1))]) _ _ (sub_of [3, 0] rfl) ?_
      cases hF
      exact j10
  · have hF := ite_f hc8 hF
    by_cases hc24 : r6 = 1
    · have hF := ite_t hc24 hF
      rw [show swT 20 406 0 5 [40, 111, 174, 217, 217, 303] r6 = 131 from by rw [hc24]; decide]
      refine g_seg hK [.iload_n 2, .iconst 1, .iadd, .iload_n 1, .bipush 6, .ishr, .iconst 1, .iand, .iadd, .iconst 3, .irem, .istore 7, .aload_n 0, .iload 7] 131 148 (L1 := [(7, vI (remv (wr ((wr (r1 + 1)) + (andv (shrv p2 6) 1))) 3)), (3, vI r3), (2, vI r1), (0, vR 0), (1, vI p2)]) (st1 := [vI (remv (wr ((wr (r1 + 1)) + (andv (shrv p2 6) 1))) 3), vR 0]) (h1 := h4) (P := True ∧ True ∧ True ∧ True ∧ True ∧ True ∧ True ∧ True ∧ True ∧ True ∧ (¬ 3 = 0) ∧ True ∧ True ∧ True ∧ True) (by decide +kernel) rfl rfl ⟨trivial, trivial, trivial, trivial, trivial, trivial, trivial, trivial, trivial, trivial, (by decide), trivial, trivial, trivial, trivial⟩ ?_
      obtain ⟨r25, h26, e27, hF⟩ := ob2_elim hF
      refine g_callV1 hK 148 8 (d1 := 6) (ci := 6) (i := 0) (vs := [vI (remv (wr ((wr (r1 + 1)) + (andv (shrv p2 6) 1))) 3)]) (rest := []) (h1 := h26) (r := vI r25) my_yX6_count vw_X9_8 (by decide) (T_X_count (p1 := (remv (wr ((wr (r1 + 1)) + (andv (shrv p2 6) 1))) 3)) (h := h4) (hF := e27)) rfl rfl rfl (Nat.le_of_ble_eq_true rfl) (by decide +kernel) ?_
      refine g_seg hK [.istore 8, .aload_n 0, .iload_n 2, .iload 7] 151 157 (L1 := [(8, vI r25), (7, vI (remv (wr ((wr (r1 + 1)) + (andv (shrv p2 6) 1))) 3)), (3, vI r3), (2, vI r1), (0, vR 0), (1, vI p2)]) (st1 := [vI (remv (wr ((wr (r1 + 1)) + (andv (shrv p2 6) 1))) 3), vI r1, vR 0]) (h1 := h26) (P := True ∧ True ∧ True ∧ True ∧ True) (by decide +kernel) rfl rfl ⟨trivial, trivial, trivial, trivial, trivial⟩ ?_
      obtain ⟨r28, h29, e30, hF⟩ := ob2_elim hF
      refine g_callV1 hK 157 68 (d1 := 6) (ci := 6) (i := 0) (vs := [vI r1, vI (remv (wr ((wr (r1 + 1)) + (andv (shrv p2 6) 1))) 3)]) (rest := []) (h1 := h29) (r := vI r28) my_yX6_swap vw_X9_68 (by decide) (T_X_swap (p1 := r1) (p2 := (remv (wr ((wr (r1 + 1)) + (andv (shrv p2 6) 1))) 3)) (h := h26) (hF := e30)) rfl rfl rfl (Nat.le_of_ble_eq_true rfl) (by decide +kernel) ?_
      refine g_seg hK [.aload_n 0, .iconst 0] 160 162 (L1 := [(8, vI r25), (7, vI (remv (wr ((wr (r1 + 1)) + (andv (shrv p2 6) 1))) 3)), (3, vI r3), (2, vI r1), (0, vR 0), (1, vI p2)]) (st1 := [vI 0, vR 0, vI r28]) (h1 := h29) (P := True ∧ True ∧ True) (by decide +kernel) rfl rfl ⟨trivial, trivial, trivial⟩ ?_
      obtain ⟨r31, h32, e33, hF⟩ := ob2_elim hF
      refine g_callV1 hK 162 24 (d1 := 6) (ci := 6) (i := 0) (vs := [vI 0]) (rest := [vI r28]) (h1 := h32) (r := vI r31) my_yX6_distance vw_X9_24 (by decide) (T_X_distance (p1 := 0) (h := h29) (hF := e33)) rfl rfl rfl (Nat.le_of_ble_eq_true rfl) (by decide +kernel) ?_
      refine g_icmp hK 165 .ne (27) 192 (t1 := 168) (t2 := 192) (by decide +kernel) (by decide) rfl rfl (fun (hc34 : r28 = r31) => ?_) (fun (hc34 : ¬ (r28 = r31)) => ?_)
      · have hF := ite_t hc34 hF
        refine g_seg hK [.aload_n 0, .iload_n 2] 168 170 (L1 := [(8, vI r25), (7, vI (remv (wr ((wr (r1 + 1)) + (andv (shrv p2 6) 1))) 3)), (3, vI r3), (2, vI r1), (0, vR 0), (1, vI p2)]) (st1 := [vI r1, vR 0]) (h1 := h32) (P := True ∧ True ∧ True) (by decide +kernel) rfl rfl ⟨trivial, trivial, trivial⟩ ?_
        obtain ⟨r35, h36, e37, hF⟩ := ob2_elim hF
        refine g_callV1 hK 170 8 (d1 := 6) (ci := 6) (i := 0) (vs := [vI r1]) (rest := []) (h1 := h36) (r := vI r35) my_yX6_count vw_X9_8 (by decide) (T_X_count (p1 := r1) (h := h32) (hF := e37)) rfl rfl rfl (Nat.le_of_ble_eq_true rfl) (by decide +kernel) ?_
        refine g_seg hK [.iload 8] 173 175 (L1 := [(8, vI r25), (7, vI (remv (wr ((wr (r1 + 1)) + (andv (shrv p2 6) 1))) 3)), (3, vI r3), (2, vI r1), (0, vR 0), (1, vI p2)]) (st1 := [vI r25, vI r35]) (h1 := h36) (P := True ∧ True) (by decide +kernel) rfl rfl ⟨trivial, trivial⟩ ?_
        refine g_icmp hK 175 .ne (17) 192 (t1 := 178) (t2 := 192) (by decide +kernel) (by decide) rfl rfl (fun (hc38 : r35 = r25) => ?_) (fun (hc38 : ¬ (r35 = r25)) => ?_)
        · have hF := ite_t hc38 hF
          refine g_seg hK [.aload_n 0, .iload 7] 178 181 (L1 := [(8, vI r25), (7, vI (remv (wr ((wr (r1 + 1)) + (andv (shrv p2 6) 1))) 3)), (3, vI r3), (2, vI r1), (0, vR 0), (1, vI p2)]) (st1 := [vI (remv (wr ((wr (r1 + 1)) + (andv (shrv p2 6) 1))) 3), vR 0]) (h1 := h36) (P := True ∧ True ∧ True) (by decide +kernel) rfl rfl ⟨trivial, trivial, trivial⟩ ?_
          obtain ⟨r39, h40, e41, hF⟩ := ob2_elim hF
          refine g_callV1 hK 181 8 (d1 := 6) (ci := 6) (i := 0) (vs := [vI (remv (wr ((wr (r1 + 1)) + (andv (shrv p2 6) 1))) 3)]) (rest := []) (h1 := h40) (r := vI r39) my_yX6_count vw_X9_8 (by decide) (T_X_count (p1 := (remv (wr ((wr (r1 + 1)) + (andv (shrv p2 6) 1))) 3)) (h := h36) (hF := e41)) rfl rfl rfl (Nat.le_of_ble_eq_true rfl) (by decide +kernel) ?_
          refine g_seg hK [.iload_n 3] 184 185 (L1 := [(8, vI r25), (7, vI (remv (wr ((wr (r1 + 1)) + (andv (shrv p2 6) 1))) 3)), (3, vI r3), (2, vI r1), (0, vR 0), (1, vI p2)]) (st1 := [vI r3, vI r39]) (h1 := h40) (P := True ∧ True) (by decide +kernel) rfl rfl ⟨trivial, trivial⟩ ?_
          refine g_icmp hK 185 .ne (7) 192 (t1 := 188) (t2 := 192) (by decide +kernel) (by decide) rfl rfl (fun (hc42 : r39 = r3) => ?_) (fun (hc42 : ¬ (r39 = r3)) => ?_)
          · have hF := ite_t hc42 hF
            refine g_seg hK [.iconst 1] 188 189 (L1 := [(8, vI r25), (7, vI (remv (wr ((wr (r1 + 1)) + (andv (shrv p2 6) 1))) 3)), (3, vI r3), (2, vI r1), (0, vR 0), (1, vI p2)]) (st1 := [vI 1]) (h1 := h40) (P := True ∧ True) (by decide +kernel) rfl rfl ⟨trivial, trivial⟩ ?_
            refine g_goto hK 189 (4) 193 (by decide +kernel) (by decide) ?_
            cases hF
            exact hR.2.1 193 _ _ _ (by decide +kernel) rfl (by decide) ⟨rfl, rfl⟩
          · have hF := ite_f hc42 hF
            refine g_seg hK [.iconst 0] 192 193 (L1 := [(8, vI r25), (7, vI (remv (wr ((wr (r1 + 1)) + (andv (shrv p2 6) 1))) 3)), (3, vI r3), (2, vI r1), (0, vR 0), (1, vI p2)]) (st1 := [vI 0]) (h1 := h40) (P := True ∧ True) (by decide +kernel) rfl rfl ⟨trivial, trivial⟩ ?_
            cases hF
            exact hR.2.1 193 _ _ _ (by decide +kernel) rfl (by decide) ⟨rfl, rfl⟩
        · have hF := ite_f hc38 hF
          refine g_seg hK [.iconst 0] 192 193 (L1 := [(8, vI r25), (7, vI (remv (wr ((wr (r1 + 1)) + (andv (shrv p2 6) 1))) 3)), (3, vI r3), (2, vI r1), (0, vR 0), (1, vI p2)]) (st1 := [vI 0]) (h1 := h36) (P := True ∧ True) (by decide +kernel) rfl rfl ⟨trivial, trivial⟩ ?_
          cases hF
          exact hR.2.1 193 _ _ _ (by decide +kernel) rfl (by decide) ⟨rfl, rfl⟩
      · have hF := ite_f hc34 hF
        refine g_seg hK [.iconst 0] 192 193 (L1 := [(8, vI r25), (7, vI (remv (wr ((wr (r1 + 1)) + (andv (shrv p2 6) 1))) 3)), (3, vI r3), (2, vI r1), (0, vR 0), (1, vI p2)]) (st1 := [vI 0]) (h1 := h32) (P := True ∧ True) (by decide +kernel) rfl rfl ⟨trivial, trivial⟩ ?_
        cases hF
        exact hR.2.1 193 _ _ _ (by decide +kernel) rfl (by decide) ⟨rfl, rfl⟩
    · have hF := ite_f hc24 hF
      by_cases hc43 : r6 = 2
      · have hF := ite_t hc43 hF
        rw [show swT 20 406 0 5 [40, 111, 174, 217, 217, 303] r6 = 194 from by rw [hc43]; decide]
        refine g_seg hK [.iload_n 1, .bipush 6, .ishr, .iload_n 3, .iconst 1, .iadd] 194 201 (L1 := [(3, vI r3), (2, vI r1), (0, vR 0), (1, vI p2)]) (st1 := [vI (wr (r3 + 1)), vI (shrv p2 6)]) (h1 := h4) (P := True ∧ True ∧ True ∧ True ∧ True ∧ True ∧ True) (by decide +kernel) rfl rfl ⟨trivial, trivial, trivial, trivial, trivial, trivial, trivial⟩ ?_
        obtain ⟨r44, e45, hF⟩ := ob1_elim hF
        refine g_callS1 hK 201 60 (d1 := 0) (vs := [vI (shrv p2 6), vI (wr (r3 + 1))]) (rest := []) (h1 := h4) (r := vI r44) my_yL_low sw_X9_60 (by decide) (T_L_low (p1 := (shrv p2 6)) (p2 := (wr (r3 + 1))) (h := h4) (hF := e45)) rfl (Nat.le_of_ble_eq_true rfl) (by decide +kernel) ?_
        refine g_seg hK [.istore 9, .aload_n 0, .iload_n 2, .iload 9, .bipush 20] 204 212 (L1 := [(9, vI r44), (3, vI r3), (2, vI r1), (0, vR 0), (1, vI p2)]) (st1 := [vI 20, vI r44, vI r1, vR 0]) (h1 := h4) (P := True ∧ True ∧ True ∧ True ∧ True ∧ True) (by decide +kernel) rfl rfl ⟨trivial, trivial, trivial, trivial, trivial, trivial⟩ ?_
        obtain ⟨r46, h47, e48, hF⟩ := ob2_elim hF
        refine g_callV1 hK 212 39 (d1 := 6) (ci := 6) (i := 0) (vs := [vI r1, vI r44, vI 20]) (rest := []) (h1 := h47) (r := vI r46) my_yX6_edit vw_X9_39 (by decide) (T_X_edit (p1 := r1) (p2 := r44) (p3 := 20) (h := h4) (hF := e48)) rfl rfl rfl (Nat.le_of_ble_eq_true rfl) (by decide +kernel) ?_
        refine g_seg hK [.iload 9, .iload_n 3] 215 218 (L1 := [(9, vI r44), (3, vI r3), (2, vI r1), (0, vR 0), (1, vI p2)]) (st1 := [vI r3, vI r44, vI r46]) (h1 := h47) (P := True ∧ True ∧ True) (by decide +kernel) rfl rfl ⟨trivial, trivial, trivial⟩ ?_
        obtain ⟨s49, e53, hF⟩ := jn1_elim hF
        have j50 : K 228 [] [vI s49, vI r46] h47 := by
          refine g_icmp hK 228 .ne (7) 235 (t1 := 231) (t2 := 235) (by decide +kernel) (by decide) rfl rfl (fun (hc52 : r46 = s49) => ?_) (fun (hc52 : ¬ (r46 = s49)) => ?_)
          · have hF := ite_t hc52 hF
            refine g_seg hK [.iconst 1] 231 232 (L1 := []) (st1 := [vI 1]) (h1 := h47) (P := True ∧ True) (by decide +kernel) rfl rfl ⟨trivial, trivial⟩ ?_
            refine g_goto hK 232 (4) 236 (by decide +kernel) (by decide) ?_
            cases hF
            exact hR.2.1 236 _ _ _ (by decide +kernel) rfl (by decide) ⟨rfl, rfl⟩
          · have hF := ite_f hc52 hF
            refine g_seg hK [.iconst 0] 235 236 (L1 := []) (st1 := [vI 0]) (h1 := h47) (P := True ∧ True) (by decide +kernel) rfl rfl ⟨trivial, trivial⟩ ?_
            cases hF
            exact hR.2.1 236 _ _ _ (by decide +kernel) rfl (by decide) ⟨rfl, rfl⟩
        clear hF
        have hF := e53
        refine g_icmp hK 218 .ne (7) 225 (t1 := 221) (t2 := 225) (by decide +kernel) (by decide) rfl rfl (fun (hc51 : r44 = r3) => ?_) (fun (hc51 : ¬ (r44 = r3)) => ?_)
        · have hF := ite_t hc51 hF
          refine g_seg hK [.iconst (-1)] 221 222 (L1 := [(9, vI r44), (3, vI r3), (2, vI r1), (0, vR 0), (1, vI p2)]) (st1 := [vI (-1), vI r46]) (h1 := h47) (P := True ∧ True) (by decide +kernel) rfl rfl ⟨trivial, trivial⟩ ?_
          refine g_goto hK 222 (6) 228 (by decide +kernel) (by decide) ?_
          refine hK.2.1 _ _ ([]) _ _ (sub_of [] rfl) ?_
          cases hF
          exact j50
        · have hF := ite_f hc51 hF
          refine g_seg hK [.iload_n 3, .iconst 1, .isub] 225 228 (L1 := [(9, vI r44), (3, vI r3), (2, vI r1), (0, vR 0), (1, vI p2)]) (st1 := [vI (wr (r3 - 1)), vI r46]) (h1 := h47) (P := True ∧ True ∧ True ∧ True) (by decide +kernel) rfl rfl ⟨trivial, trivial, trivial, trivial⟩ ?_
          refine hK.2.1 _ _ ([]) _ _ (sub_of [] rfl) ?_
          cases hF
          exact j50
      · have hF := ite_f hc43 hF
        by_cases hc54 : r6 = 3
        · have hF := ite_t hc54 hF
          rw [show swT 20 406 0 5 [40, 111, 174, 217, 217, 303] r6 = 237 from by rw [hc54]; decide]
          refine g_seg hK [.iload_n 1, .bipush 6, .ishr, .iload_n 3, .iconst 1, .iadd] 237 244 (L1 := [(3, vI r3), (2, vI r1), (0, vR 0), (1, vI p2)]) (st1 := [vI (wr (r3 + 1)), vI (shrv p2 6)]) (h1 := h4) (P := True ∧ True ∧ True ∧ True ∧ True ∧ True ∧ True) (by decide +kernel) rfl rfl ⟨trivial, trivial, trivial, trivial, trivial, trivial, trivial⟩ ?_
          obtain ⟨r55, e56, hF⟩ := ob1_elim hF
          refine g_callS1 hK 244 60 (d1 := 0) (vs := [vI (shrv p2 6), vI (wr (r3 + 1))]) (rest := []) (h1 := h4) (r := vI r55) my_yL_low sw_X9_60 (by decide) (T_L_low (p1 := (shrv p2 6)) (p2 := (wr (r3 + 1))) (h := h4) (hF := e56)) rfl (Nat.le_of_ble_eq_true rfl) (by decide +kernel) ?_
          refine g_seg hK [.istore 10, .iload_n 1, .bipush 10, .ishr, .iload_n 1, .bipush 14, .ishr, .iconst 1, .iand] 247 259 (L1 := [(10, vI r55), (3, vI r3), (2, vI r1), (0, vR 0), (1, vI p2)]) (st1 := [vI (andv (shrv p2 14) 1), vI (shrv p2 10)]) (h1 := h4) (P := True ∧ True ∧ True ∧ True ∧ True ∧ True ∧ True ∧ True ∧ True ∧ True) (by decide +kernel) rfl rfl ⟨trivial, trivial, trivial, trivial, trivial, trivial, trivial, trivial, trivial, trivial⟩ ?_
          obtain ⟨s57, e72, hF⟩ := jn1_elim hF
          have j58 : K 268 [(0, vR 0), (2, vI r1), (3, vI r3), (10, vI r55)] [vI s57, vI (shrv p2 10)] h4 := by
            obtain ⟨r60, e61, hF⟩ := ob1_elim hF
            refine g_callS1 hK 268 60 (d1 := 0) (vs := [vI (shrv p2 10), vI s57]) (rest := []) (h1 := h4) (r := vI r60) my_yL_low sw_X9_60 (by decide) (T_L_low (p1 := (shrv p2 10)) (p2 := s57) (h := h4) (hF := e61)) rfl (Nat.le_of_ble_eq_true rfl) (by decide +kernel) ?_
            refine g_seg hK [.istore 11, .aload_n 0, .iload_n 2, .iload 10, .bipush 10, .iload 11, .iadd] 271 282 (L1 := [(11, vI r60), (0, vR 0), (2, vI r1), (3, vI r3), (10, vI r55)]) (st1 := [vI (wr (10 + r60)), vI r55, vI r1, vR 0]) (h1 := h4) (P := True ∧ True ∧ True ∧ True ∧ True ∧ True ∧ True ∧ True) (by decide +kernel) rfl rfl ⟨trivial, trivial, trivial, trivial, trivial, trivial, trivial, trivial⟩ ?_
            obtain ⟨r62, h63, e64, hF⟩ := ob2_elim hF
            refine g_callV1 hK 282 39 (d1 := 6) (ci := 6) (i := 0) (vs := [vI r1, vI r55, vI (wr (10 + r60))]) (rest := []) (h1 := h63) (r := vI r62) my_yX6_edit vw_X9_39 (by decide) (T_X_edit (p1 := r1) (p2 := r55) (p3 := (wr (10 + r60))) (h := h4) (hF := e64)) rfl rfl rfl (Nat.le_of_ble_eq_true rfl) (by decide +kernel) ?_
            refine g_seg hK [.iload 10, .iload_n 3] 285 288 (L1 := [(11, vI r60), (0, vR 0), (2, vI r1), (3, vI r3), (10, vI r55)]) (st1 := [vI r3, vI r55, vI r62]) (h1 := h63) (P := True ∧ True ∧ True) (by decide +kernel) rfl rfl ⟨trivial, trivial, trivial⟩ ?_
            obtain ⟨s65, e71, hF⟩ := jn1_elim hF
            have j66 : K 296 [(0, vR 0), (2, vI r1), (3, vI r3), (10, vI r55), (11, vI r60)] [vI s65, vI r62] h63 := by
              refine g_icmp hK 296 .ne (25) 321 (t1 := 299) (t2 := 321) (by decide +kernel) (by decide) rfl rfl (fun (hc68 : r62 = s65) => ?_) (fun (hc68 : ¬ (r62 = s65)) => ?_)
              · have hF := ite_t hc68 hF
                refine g_seg hK [.iload 10, .iload_n 3] 299 302 (L1 := [(0, vR 0), (2, vI r1), (3, vI r3), (10, vI r55), (11, vI r60)]) (st1 := [vI r3, vI r55]) (h1 := h63) (P := True ∧ True ∧ True) (by decide +kernel) rfl rfl ⟨trivial, trivial, trivial⟩ ?_
                refine g_icmp hK 302 .eq (15) 317 (t1 := 317) (t2 := 305) (by decide +kernel) (by decide) rfl rfl (fun (hc69 : r55 = r3) => ?_) (fun (hc69 : ¬ (r55 = r3)) => ?_)
                · have hF := ite_t hc69 hF
                  refine g_seg hK [.iconst 1] 317 318 (L1 := [(0, vR 0), (2, vI r1), (3, vI r3), (10, vI r55), (11, vI r60)]) (st1 := [vI 1]) (h1 := h63) (P := True ∧ True) (by decide +kernel) rfl rfl ⟨trivial, trivial⟩ ?_
                  refine g_goto hK 318 (4) 322 (by decide +kernel) (by decide) ?_
                  cases hF
                  exact hR.2.1 322 _ _ _ (by decide +kernel) rfl (by decide) ⟨rfl, rfl⟩
                · have hF := ite_f hc69 hF
                  refine g_seg hK [.aload_n 0, .iload_n 2, .iload 10] 305 309 (L1 := [(0, vR 0), (2, vI r1), (3, vI r3), (10, vI r55), (11, vI r60)]) (st1 := [vI r55, vI r1, vR 0]) (h1 := h63) (P := True ∧ True ∧ True ∧ True) (by decide +kernel) rfl rfl ⟨trivial, trivial, trivial, trivial⟩ ?_
                  refine g_callV1 hK 309 18 (d1 := 1) (ci := 6) (i := 0) (vs := [vI r1, vI r55]) (rest := []) (h1 := h63) (r := vI (F_X_line r1 r55 h63)) my_yX6_line vw_X9_18 (by decide) (T_X_line (p1 := r1) (p2 := r55) (h := h63) (hF := rfl)) rfl rfl rfl (Nat.le_of_ble_eq_true rfl) (by decide +kernel) ?_
                  refine g_seg hK [.iload 11] 312 314 (L1 := [(0, vR 0), (2, vI r1), (3, vI r3), (10, vI r55), (11, vI r60)]) (st1 := [vI r60, vI (F_X_line r1 r55 h63)]) (h1 := h63) (P := True ∧ True) (by decide +kernel) rfl rfl ⟨trivial, trivial⟩ ?_
                  refine g_icmp hK 314 .ne (7) 321 (t1 := 317) (t2 := 321) (by decide +kernel) (by decide) rfl rfl (fun (hc70 : F_X_line r1 r55 h63 = r60) => ?_) (fun (hc70 : ¬ (F_X_line r1 r55 h63 = r60)) => ?_)
                  · have hF := ite_t hc70 hF
                    refine g_seg hK [.iconst 1] 317 318 (L1 := [(0, vR 0), (2, vI r1), (3, vI r3), (10, vI r55), (11, vI r60)]) (st1 := [vI 1]) (h1 := h63) (P := True ∧ True) (by decide +kernel) rfl rfl ⟨trivial, trivial⟩ ?_
                    refine g_goto hK 318 (4) 322 (by decide +kernel) (by decide) ?_
                    cases hF
                    exact hR.2.1 322 _ _ _ (by decide +kernel) rfl (by decide) ⟨rfl, rfl⟩
                  · have hF := ite_f hc70 hF
                    refine g_seg hK [.iconst 0] 321 322 (L1 := [(0, vR 0), (2, vI r1), (3, vI r3), (10, vI r55), (11, vI r60)]) (st1 := [vI 0]) (h1 := h63) (P := True ∧ True) (by decide +kernel) rfl rfl ⟨trivial, trivial⟩ ?_
                    cases hF
                    exact hR.2.1 322 _ _ _ (by decide +kernel) rfl (by decide) ⟨rfl, rfl⟩
              · have hF := ite_f hc68 hF
                refine g_seg hK [.iconst 0] 321 322 (L1 := [(0, vR 0), (2, vI r1), (3, vI r3), (10, vI r55), (11, vI r60)]) (st1 := [vI 0]) (h1 := h63) (P := True ∧ True) (by decide +kernel) rfl rfl ⟨trivial, trivial⟩ ?_
                cases hF
                exact hR.2.1 322 _ _ _ (by decide +kernel) rfl (by decide) ⟨rfl, rfl⟩
            clear hF
            have hF := e71
            refine g_icmp hK 288 .ne (7) 295 (t1 := 291) (t2 := 295) (by decide +kernel) (by decide) rfl rfl (fun (hc67 : r55 = r3) => ?_) (fun (hc67 : ¬ (r55 = r3)) => ?_)
            · have hF := ite_t hc67 hF
              refine g_seg hK [.iconst (-1)] 291 292 (L1 := [(11, vI r60), (0, vR 0), (2, vI r1), (3, vI r3), (10, vI r55)]) (st1 := [vI (-1), vI r62]) (h1 := h63) (P := True ∧ True) (by decide +kernel) rfl rfl ⟨trivial, trivial⟩ ?_
              refine g_goto hK 292 (4) 296 (by decide +kernel) (by decide) ?_
              refine hK.2.1 _ _ ([(0, vR 0), (2, vI r1), (3, vI r3), (10, vI r55), (11, vI r60)]) _ _ (sub_of [1, 2, 3, 4, 0] rfl) ?_
              cases hF
              exact j66
            · have hF := ite_f hc67 hF
              refine g_seg hK [.iload_n 3] 295 296 (L1 := [(11, vI r60), (0, vR 0), (2, vI r1), (3, vI r3), (10, vI r55)]) (st1 := [vI r3, vI r62]) (h1 := h63) (P := True ∧ True) (by decide +kernel) rfl rfl ⟨trivial, trivial⟩ ?_
              refine hK.2.1 _ _ ([(0, vR 0), (2, vI r1), (3, vI r3), (10, vI r55), (11, vI r60)]) _ _ (sub_of [1, 2, 3, 4, 0] rfl) ?_
              cases hF
              exact j66
          clear hF
          have hF := e72
          refine g_ifz hK 259 .ne (8) 267 (t1 := 262) (t2 := 267) (by decide +kernel) (by decide) rfl rfl (fun (hc59 : andv (shrv p2 14) 1 = 0) => ?_) (fun (hc59 : ¬ (andv (shrv p2 14) 1 = 0)) => ?_)
          · have hF := ite_t hc59 hF
            refine g_seg hK [.bipush 9] 262 264 (L1 := [(10, vI r55), (3, vI r3), (2, vI r1), (0, vR 0), (1, vI p2)]) (st1 := [vI 9, vI (shrv p2 10)]) (h1 := h4) (P := True ∧ True) (by decide +kernel) rfl rfl ⟨trivial, trivial⟩ ?_
            refine g_goto hK 264 (4) 268 (by decide +kernel) (by decide) ?_
            refine hK.2.1 _ _ ([(0, vR 0), (2, vI r1), (3, vI r3), (10, vI r55)]) _ _ (sub_of [3, 2, 1, 0] rfl) ?_
            cases hF
            exact j58
          · have hF := ite_f hc59 hF
            refine g_seg hK [.iconst 3] 267 268 (L1 := [(10, vI r55), (3, vI r3), (2, vI r1), (0, vR 0), (1, vI p2)]) (st1 := [vI 3, vI (shrv p2 10)]) (h1 := h4) (P := True ∧ True) (by decide +kernel) rfl rfl ⟨trivial, trivial⟩ ?_
            refine hK.2.1 _ _ ([(0, vR 0), (2, vI r1), (3, vI r3), (10, vI r55)]) _ _ (sub_of [3, 2, 1, 0] rfl) ?_
            cases hF
            exact j58
        · have hF := ite_f hc54 hF
          by_cases hc73 : r6 = 4
          · have hF := ite_t hc73 hF
            rw [show swT 20 406 0 5 [40, 111, 174, 217, 217, 303] r6 = 237 from by rw [hc73]; decide]
            refine g_seg hK [.iload_n 1, .bipush 6, .ishr, .iload_n 3, .iconst 1, .iadd] 237 244 (L1 := [(3, vI r3), (2, vI r1), (0, vR 0), (1, vI p2)]) (st1 := [vI (wr (r3 + 1)), vI (shrv p2 6)]) (h1 := h4) (P := True ∧ True ∧ True ∧ True ∧ True ∧ True ∧ True) (by decide +kernel) rfl rfl ⟨trivial, trivial, trivial, trivial, trivial, trivial, trivial⟩ ?_
            obtain ⟨r74, e75, hF⟩ := ob1_elim hF
            refine g_callS1 hK 244 60 (d1 := 0) (vs := [vI (shrv p2 6), vI (wr (r3 + 1))]) (rest := []) (h1 := h4) (r := vI r74) my_yL_low sw_X9_60 (by decide) (T_L_low (p1 := (shrv p2 6)) (p2 := (wr (r3 + 1))) (h := h4) (hF := e75)) rfl (Nat.le_of_ble_eq_true rfl) (by decide +kernel) ?_
            refine g_seg hK [.istore 10, .iload_n 1, .bipush 10, .ishr, .iload_n 1, .bipush 14, .ishr, .iconst 1, .iand] 247 259 (L1 := [(10, vI r74), (3, vI r3), (2, vI r1), (0, vR 0), (1, vI p2)]) (st1 := [vI (andv (shrv p2 14) 1), vI (shrv p2 10)]) (h1 := h4) (P := True ∧ True ∧ True ∧ True ∧ True ∧ True ∧ True ∧ True ∧ True ∧ True) (by decide +kernel) rfl rfl ⟨trivial, trivial, trivial, trivial, trivial, trivial, trivial, trivial, trivial, trivial⟩ ?_
            obtain ⟨s76, e91, hF⟩ := jn1_elim hF
            have j77 : K 268 [(0, vR 0), (2, vI r1), (3, vI r3), (10, vI r74)] [vI s76, vI (shrv p2 10)] h4 := by
              obtain ⟨r79, e80, hF⟩ := ob1_elim hF
              refine g_callS1 hK 268 60 (d1 := 0) (vs := [vI (shrv p2 10), vI s76]) (rest := []) (h1 := h4) (r := vI r79) my_yL_low sw_X9_60 (by decide) (T_L_low (p1 := (shrv p2 10)) (p2 := s76) (h := h4) (hF := e80)) rfl (Nat.le_of_ble_eq_true rfl) (by decide +kernel) ?_
              refine g_seg hK [.istore 11, .aload_n 0, .iload_n 2, .iload 10, .bipush 10, .iload 11, .iadd] 271 282 (L1 := [(11, vI r79), (0, vR 0), (2, vI r1), (3, vI r3), (10, vI r74)]) (st1 := [vI (wr (10 + r79)), vI r74, vI r1, vR 0]) (h1 := h4) (P := True ∧ True ∧ True ∧ True ∧ True ∧ True ∧ True ∧ True) (by decide +kernel) rfl rfl ⟨trivial, trivial, trivial, trivial, trivial, trivial, trivial, trivial⟩ ?_
              obtain ⟨r81, h82, e83, hF⟩ := ob2_elim hF
              refine g_callV1 hK 282 39 (d1 := 6) (ci := 6) (i := 0) (vs := [vI r1, vI r74, vI (wr (10 + r79))]) (rest := []) (h1 := h82) (r := vI r81) my_yX6_edit vw_X9_39 (by decide) (T_X_edit (p1 := r1) (p2 := r74) (p3 := (wr (10 + r79))) (h := h4) (hF := e83)) rfl rfl rfl (Nat.le_of_ble_eq_true rfl) (by decide +kernel) ?_
              refine g_seg hK [.iload 10, .iload_n 3] 285 288 (L1 := [(11, vI r79), (0, vR 0), (2, vI r1), (3, vI r3), (10, vI r74)]) (st1 := [vI r3, vI r74, vI r81]) (h1 := h82) (P := True ∧ True ∧ True) (by decide +kernel) rfl rfl ⟨trivial, trivial, trivial⟩ ?_
              obtain ⟨s84, e90, hF⟩ := jn1_elim hF
              have j85 : K 296 [(0, vR 0), (2, vI r1), (3, vI r3), (10, vI r74), (11, vI r79)] [vI s84, vI r81] h82 := by
                refine g_icmp hK 296 .ne (25) 321 (t1 := 299) (t2 := 321) (by decide +kernel) (by decide) rfl rfl (fun (hc87 : r81 = s84) => ?_) (fun (hc87 : ¬ (r81 = s84)) => ?_)
                · have hF := ite_t hc87 hF
                  refine g_seg hK [.iload 10, .iload_n 3] 299 302 (L1 := [(0, vR 0), (2, vI r1), (3, vI r3), (10, vI r74), (11, vI r79)]) (st1 := [vI r3, vI r74]) (h1 := h82) (P := True ∧ True ∧ True) (by decide +kernel) rfl rfl ⟨trivial, trivial, trivial⟩ ?_
                  refine g_icmp hK 302 .eq (15) 317 (t1 := 317) (t2 := 305) (by decide +kernel) (by decide) rfl rfl (fun (hc88 : r74 = r3) => ?_) (fun (hc88 : ¬ (r74 = r3)) => ?_)
                  · have hF := ite_t hc88 hF
                    refine g_seg hK [.iconst 1] 317 318 (L1 := [(0, vR 0), (2, vI r1), (3, vI r3), (10, vI r74), (11, vI r79)]) (st1 := [vI 1]) (h1 := h82) (P := True ∧ True) (by decide +kernel) rfl rfl ⟨trivial, trivial⟩ ?_
                    refine g_goto hK 318 (4) 322 (by decide +kernel) (by decide) ?_
                    cases hF
                    exact hR.2.1 322 _ _ _ (by decide +kernel) rfl (by decide) ⟨rfl, rfl⟩
                  · have hF := ite_f hc88 hF
                    refine g_seg hK [.aload_n 0, .iload_n 2, .iload 10] 305 309 (L1 := [(0, vR 0), (2, vI r1), (3, vI r3), (10, vI r74), (11, vI r79)]) (st1 := [vI r74, vI r1, vR 0]) (h1 := h82) (P := True ∧ True ∧ True ∧ True) (by decide +kernel) rfl rfl ⟨trivial, trivial, trivial, trivial⟩ ?_
                    refine g_callV1 hK 309 18 (d1 := 1) (ci := 6) (i := 0) (vs := [vI r1, vI r74]) (rest := []) (h1 := h82) (r := vI (F_X_line r1 r74 h82)) my_yX6_line vw_X9_18 (by decide) (T_X_line (p1 := r1) (p2 := r74) (h := h82) (hF := rfl)) rfl rfl rfl (Nat.le_of_ble_eq_true rfl) (by decide +kernel) ?_
                    refine g_seg hK [.iload 11] 312 314 (L1 := [(0, vR 0), (2, vI r1), (3, vI r3), (10, vI r74), (11, vI r79)]) (st1 := [vI r79, vI (F_X_line r1 r74 h82)]) (h1 := h82) (P := True ∧ True) (by decide +kernel) rfl rfl ⟨trivial, trivial⟩ ?_
                    refine g_icmp hK 314 .ne (7) 321 (t1 := 317) (t2 := 321) (by decide +kernel) (by decide) rfl rfl (fun (hc89 : F_X_line r1 r74 h82 = r79) => ?_) (fun (hc89 : ¬ (F_X_line r1 r74 h82 = r79)) => ?_)
                    · have hF := ite_t hc89 hF
                      refine g_seg hK [.iconst 1] 317 318 (L1 := [(0, vR 0), (2, vI r1), (3, vI r3), (10, vI r74), (11, vI r79)]) (st1 := [vI 1]) (h1 := h82) (P := True ∧ True) (by decide +kernel) rfl rfl ⟨trivial, trivial⟩ ?_
                      refine g_goto hK 318 (4) 322 (by decide +kernel) (by decide) ?_
                      cases hF
                      exact hR.2.1 322 _ _ _ (by decide +kernel) rfl (by decide) ⟨rfl, rfl⟩
                    · have hF := ite_f hc89 hF
                      refine g_seg hK [.iconst 0] 321 322 (L1 := [(0, vR 0), (2, vI r1), (3, vI r3), (10, vI r74), (11, vI r79)]) (st1 := [vI 0]) (h1 := h82) (P := True ∧ True) (by decide +kernel) rfl rfl ⟨trivial, trivial⟩ ?_
                      cases hF
                      exact hR.2.1 322 _ _ _ (by decide +kernel) rfl (by decide) ⟨rfl, rfl⟩
                · have hF := ite_f hc87 hF
                  refine g_seg hK [.iconst 0] 321 322 (L1 := [(0, vR 0), (2, vI r1), (3, vI r3), (10, vI r74), (11, vI r79)]) (st1 := [vI 0]) (h1 := h82) (P := True ∧ True) (by decide +kernel) rfl rfl ⟨trivial, trivial⟩ ?_
                  cases hF
                  exact hR.2.1 322 _ _ _ (by decide +kernel) rfl (by decide) ⟨rfl, rfl⟩
              clear hF
              have hF := e90
              refine g_icmp hK 288 .ne (7) 295 (t1 := 291) (t2 := 295) (by decide +kernel) (by decide) rfl rfl (fun (hc86 : r74 = r3) => ?_) (fun (hc86 : ¬ (r74 = r3)) => ?_)
              · have hF := ite_t hc86 hF
                refine g_seg hK [.iconst (-1)] 291 292 (L1 := [(11, vI r79), (0, vR 0), (2, vI r1), (3, vI r3), (10, vI r74)]) (st1 := [vI (-1), vI r81]) (h1 := h82) (P := True ∧ True) (by decide +kernel) rfl rfl ⟨trivial, trivial⟩ ?_
                refine g_goto hK 292 (4) 296 (by decide +kernel) (by decide) ?_
                refine hK.2.1 _ _ ([(0, vR 0), (2, vI r1), (3, vI r3), (10, vI r74), (11, vI r79)]) _ _ (sub_of [1, 2, 3, 4, 0] rfl) ?_
                cases hF
                exact j85
              · have hF := ite_f hc86 hF
                refine g_seg hK [.iload_n 3] 295 296 (L1 := [(11, vI r79), (0, vR 0), (2, vI r1), (3, vI r3), (10, vI r74)]) (st1 := [vI r3, vI r81]) (h1 := h82) (P := True ∧ True) (by decide +kernel) rfl rfl ⟨trivial, trivial⟩ ?_
                refine hK.2.1 _ _ ([(0, vR 0), (2, vI r1), (3, vI r3), (10, vI r74), (11, vI r79)]) _ _ (sub_of [1, 2, 3, 4, 0] rfl) ?_
                cases hF
                exact j85
            clear hF
            have hF := e91
            refine g_ifz hK 259 .ne (8) 267 (t1 := 262) (t2 := 267) (by decide +kernel) (by decide) rfl rfl (fun (hc78 : andv (shrv p2 14) 1 = 0) => ?_) (fun (hc78 : ¬ (andv (shrv p2 14) 1 = 0)) => ?_)
            · have hF := ite_t hc78 hF
              refine g_seg hK [.bipush 9] 262 264 (L1 := [(10, vI r74), (3, vI r3), (2, vI r1), (0, vR 0), (1, vI p2)]) (st1 := [vI 9, vI (shrv p2 10)]) (h1 := h4) (P := True ∧ True) (by decide +kernel) rfl rfl ⟨trivial, trivial⟩ ?_
              refine g_goto hK 264 (4) 268 (by decide +kernel) (by decide) ?_
              refine hK.2.1 _ _ ([(0, vR 0), (2, vI r1), (3, vI r3), (10, vI r74)]) _ _ (sub_of [3, 2, 1, 0] rfl) ?_
              cases hF
              exact j77
            · have hF := ite_f hc78 hF
              refine g_seg hK [.iconst 3] 267 268 (L1 := [(10, vI r74), (3, vI r3), (2, vI r1), (0, vR 0), (1, vI p2)]) (st1 := [vI 3, vI (shrv p2 10)]) (h1 := h4) (P := True ∧ True) (by decide +kernel) rfl rfl ⟨trivial, trivial⟩ ?_
              refine hK.2.1 _ _ ([(0, vR 0), (2, vI r1), (3, vI r3), (10, vI r74)]) _ _ (sub_of [3, 2, 1, 0] rfl) ?_
              cases hF
              exact j77
          · have hF := ite_f hc73 hF
            by_cases hc92 : r6 = 5
            · have hF := ite_t hc92 hF
              rw [show swT 20 406 0 5 [40, 111, 174, 217, 217, 303] r6 = 323 from by rw [hc92]; decide]
              refine g_seg hK [.aload_n 0, .bipush 7] 323 326 (L1 := [(3, vI r3), (2, vI r1), (0, vR 0), (1, vI p2)]) (st1 := [vI 7, vR 0]) (h1 := h4) (P := True ∧ True ∧ True) (by decide +kernel) rfl rfl ⟨trivial, trivial, trivial⟩ ?_
              obtain ⟨r93, h94, e95, hF⟩ := ob2_elim hF
              refine g_callV1 hK 326 8 (d1 := 6) (ci := 6) (i := 0) (vs := [vI 7]) (rest := []) (h1 := h94) (r := vI r93) my_yX6_count vw_X9_8 (by decide) (T_X_count (p1 := 7) (h := h4) (hF := e95)) rfl rfl rfl (Nat.le_of_ble_eq_true rfl) (by decide +kernel) ?_
              refine g_seg hK [.istore 12, .aload_n 0, .bipush 12] 329 334 (L1 := [(12, vI r93), (3, vI r3), (2, vI r1), (0, vR 0), (1, vI p2)]) (st1 := [vI 12, vR 0]) (h1 := h94) (P := True ∧ True ∧ True ∧ True) (by decide +kernel) rfl rfl ⟨trivial, trivial, trivial, trivial⟩ ?_
              obtain ⟨r96, h97, e98, hF⟩ := ob2_elim hF
              refine g_callV1 hK 334 8 (d1 := 6) (ci := 6) (i := 0) (vs := [vI 12]) (rest := []) (h1 := h97) (r := vI r96) my_yX6_count vw_X9_8 (by decide) (T_X_count (p1 := 12) (h := h94) (hF := e98)) rfl rfl rfl (Nat.le_of_ble_eq_true rfl) (by decide +kernel) ?_
              refine g_seg hK [.istore 13, .aload_n 0, .bipush 13] 337 342 (L1 := [(13, vI r96), (12, vI r93), (3, vI r3), (2, vI r1), (0, vR 0), (1, vI p2)]) (st1 := [vI 13, vR 0]) (h1 := h97) (P := True ∧ True ∧ True ∧ True) (by decide +kernel) rfl rfl ⟨trivial, trivial, trivial, trivial⟩ ?_
              obtain ⟨r99, h100, e101, hF⟩ := ob2_elim hF
              refine g_callV1 hK 342 8 (d1 := 6) (ci := 6) (i := 0) (vs := [vI 13]) (rest := []) (h1 := h100) (r := vI r99) my_yX6_count vw_X9_8 (by decide) (T_X_count (p1 := 13) (h := h97) (hF := e101)) rfl rfl rfl (Nat.le_of_ble_eq_true rfl) (by decide +kernel) ?_
              refine g_seg hK [.istore 14, .aload_n 0, .iload_n 1, .iconst 4, .ishr, .iconst 1, .iand, .iconst 1] 345 354 (L1 := [(14, vI r99), (13, vI r96), (12, vI r93), (3, vI r3), (2, vI r1), (0, vR 0), (1, vI p2)]) (st1 := [vI 1, vI (andv (shrv p2 4) 1), vR 0]) (h1 := h100) (P := True ∧ True ∧ True ∧ True ∧ True ∧ True ∧ True ∧ True ∧ True) (by decide +kernel) rfl rfl ⟨trivial, trivial, trivial, trivial, trivial, trivial, trivial, trivial, trivial⟩ ?_
              obtain ⟨s102, e122, hF⟩ := jn1_elim hF
              have j103 : K 362 [(0, vR 0), (12, vI r93), (13, vI r96), (14, vI r99)] [vI s102, vR 0] h100 := by
                obtain ⟨r105, h106, e107, hF⟩ := ob2_elim hF
                refine g_callV1 hK 362 47 (d1 := 6) (ci := 6) (i := 0) (vs := [vI s102]) (rest := []) (h1 := h106) (r := vI r105) my_yX6_lay vw_X9_47 (by decide) (T_X_lay (p1 := s102) (h := h100) (hF := e107)) rfl rfl rfl (Nat.le_of_ble_eq_true rfl) (by decide +kernel) ?_
                refine g_seg hK [.istore 15, .iload 15, .bipush (-3)] 365 371 (L1 := [(15, vI r105), (0, vR 0), (12, vI r93), (13, vI r96), (14, vI r99)]) (st1 := [vI (-3), vI r105]) (h1 := h106) (P := True ∧ True ∧ True ∧ True) (by decide +kernel) rfl rfl ⟨trivial, trivial, trivial, trivial⟩ ?_
                refine g_icmp hK 371 .eq (49) 420 (t1 := 420) (t2 := 374) (by decide +kernel) (by decide) rfl rfl (fun (hc108 : r105 = (-3)) => ?_) (fun (hc108 : ¬ (r105 = (-3))) => ?_)
                · have hF := ite_t hc108 hF
                  refine g_seg hK [.iconst 1] 420 421 (L1 := [(15, vI r105), (0, vR 0), (12, vI r93), (13, vI r96), (14, vI r99)]) (st1 := [vI 1]) (h1 := h106) (P := True ∧ True) (by decide +kernel) rfl rfl ⟨trivial, trivial⟩ ?_
                  refine g_goto hK 421 (4) 425 (by decide +kernel) (by decide) ?_
                  cases hF
                  exact hR.2.1 425 _ _ _ (by decide +kernel) rfl (by decide) ⟨rfl, rfl⟩
                · have hF := ite_f hc108 hF
                  refine g_seg hK [.iload 15] 374 376 (L1 := [(15, vI r105), (0, vR 0), (12, vI r93), (13, vI r96), (14, vI r99)]) (st1 := [vI r105]) (h1 := h106) (P := True ∧ True) (by decide +kernel) rfl rfl ⟨trivial, trivial⟩ ?_
                  refine g_ifz hK 376 .lt (48) 424 (t1 := 424) (t2 := 379) (by decide +kernel) (by decide) rfl rfl (fun (hc109 : r105 < 0) => ?_) (fun (hc109 : ¬ (r105 < 0)) => ?_)
                  · have hF := ite_t hc109 hF
                    refine g_seg hK [.iconst 0] 424 425 (L1 := [(15, vI r105), (0, vR 0), (12, vI r93), (13, vI r96), (14, vI r99)]) (st1 := [vI 0]) (h1 := h106) (P := True ∧ True) (by decide +kernel) rfl rfl ⟨trivial, trivial⟩ ?_
                    cases hF
                    exact hR.2.1 425 _ _ _ (by decide +kernel) rfl (by decide) ⟨rfl, rfl⟩
                  · have hF := ite_f hc109 hF
                    refine g_seg hK [.aload_n 0, .bipush 12] 379 382 (L1 := [(15, vI r105), (0, vR 0), (12, vI r93), (13, vI r96), (14, vI r99)]) (st1 := [vI 12, vR 0]) (h1 := h106) (P := True ∧ True ∧ True) (by decide +kernel) rfl rfl ⟨trivial, trivial, trivial⟩ ?_
                    obtain ⟨r110, h111, e112, hF⟩ := ob2_elim hF
                    refine g_callV1 hK 382 8 (d1 := 6) (ci := 6) (i := 0) (vs := [vI 12]) (rest := []) (h1 := h111) (r := vI r110) my_yX6_count vw_X9_8 (by decide) (T_X_count (p1 := 12) (h := h106) (hF := e112)) rfl rfl rfl (Nat.le_of_ble_eq_true rfl) (by decide +kernel) ?_
                    refine g_seg hK [.iload 13, .iload 15, .iadd] 385 390 (L1 := [(15, vI r105), (0, vR 0), (12, vI r93), (13, vI r96), (14, vI r99)]) (st1 := [vI (wr (r96 + r105)), vI r110]) (h1 := h111) (P := True ∧ True ∧ True ∧ True) (by decide +kernel) rfl rfl ⟨trivial, trivial, trivial, trivial⟩ ?_
                    refine g_icmp hK 390 .ne (34) 424 (t1 := 393) (t2 := 424) (by decide +kernel) (by decide) rfl rfl (fun (hc113 : r110 = wr (r96 + r105)) => ?_) (fun (hc113 : ¬ (r110 = wr (r96 + r105))) => ?_)
                    · have hF := ite_t hc113 hF
                      refine g_seg hK [.aload_n 0, .bipush 13] 393 396 (L1 := [(15, vI r105), (0, vR 0), (12, vI r93), (13, vI r96), (14, vI r99)]) (st1 := [vI 13, vR 0]) (h1 := h111) (P := True ∧ True ∧ True) (by decide +kernel) rfl rfl ⟨trivial, trivial, trivial⟩ ?_
                      obtain ⟨r114, h115, e116, hF⟩ := ob2_elim hF
                      refine g_callV1 hK 396 8 (d1 := 6) (ci := 6) (i := 0) (vs := [vI 13]) (rest := []) (h1 := h115) (r := vI r114) my_yX6_count vw_X9_8 (by decide) (T_X_count (p1 := 13) (h := h111) (hF := e116)) rfl rfl rfl (Nat.le_of_ble_eq_true rfl) (by decide +kernel) ?_
                      refine g_seg hK [.iload 14, .iload 12, .iadd, .iload 15, .isub] 399 407 (L1 := [(15, vI r105), (0, vR 0), (12, vI r93), (13, vI r96), (14, vI r99)]) (st1 := [vI (wr ((wr (r99 + r93)) - r105)), vI r114]) (h1 := h115) (P := True ∧ True ∧ True ∧ True ∧ True ∧ True) (by decide +kernel) rfl rfl ⟨trivial, trivial, trivial, trivial, trivial, trivial⟩ ?_
                      refine g_icmp hK 407 .ne (17) 424 (t1 := 410) (t2 := 424) (by decide +kernel) (by decide) rfl rfl (fun (hc117 : r114 = wr ((wr (r99 + r93)) - r105)) => ?_) (fun (hc117 : ¬ (r114 = wr ((wr (r99 + r93)) - r105))) => ?_)
                      · have hF := ite_t hc117 hF
                        refine g_seg hK [.aload_n 0, .iconst 2] 410 412 (L1 := [(15, vI r105), (0, vR 0), (12, vI r93), (13, vI r96), (14, vI r99)]) (st1 := [vI 2, vR 0]) (h1 := h115) (P := True ∧ True ∧ True) (by decide +kernel) rfl rfl ⟨trivial, trivial, trivial⟩ ?_
                        obtain ⟨r118, h119, e120, hF⟩ := ob2_elim hF
                        refine g_callV1 hK 412 8 (d1 := 6) (ci := 6) (i := 0) (vs := [vI 2]) (rest := []) (h1 := h119) (r := vI r118) my_yX6_count vw_X9_8 (by decide) (T_X_count (p1 := 2) (h := h115) (hF := e120)) rfl rfl rfl (Nat.le_of_ble_eq_true rfl) (by decide +kernel) ?_
                        refine g_seg hK [.bipush 15] 415 417 (L1 := [(15, vI r105), (0, vR 0), (12, vI r93), (13, vI r96), (14, vI r99)]) (st1 := [vI 15, vI r118]) (h1 := h119) (P := True ∧ True) (by decide +kernel) rfl rfl ⟨trivial, trivial⟩ ?_
                        refine g_icmp hK 417 .ge (7) 424 (t1 := 420) (t2 := 424) (by decide +kernel) (by decide) rfl rfl (fun (hc121 : r118 < 15) => ?_) (fun (hc121 : ¬ (r118 < 15)) => ?_)
                        · have hF := ite_t hc121 hF
                          refine g_seg hK [.iconst 1] 420 421 (L1 := [(15, vI r105), (0, vR 0), (12, vI r93), (13, vI r96), (14, vI r99)]) (st1 := [vI 1]) (h1 := h119) (P := True ∧ True) (by decide +kernel) rfl rfl ⟨trivial, trivial⟩ ?_
                          refine g_goto hK 421 (4) 425 (by decide +kernel) (by decide) ?_
                          cases hF
                          exact hR.2.1 425 _ _ _ (by decide +kernel) rfl (by decide) ⟨rfl, rfl⟩
                        · have hF := ite_f hc121 hF
                          refine g_seg hK [.iconst 0] 424 425 (L1 := [(15, vI r105), (0, vR 0), (12, vI r93), (13, vI r96), (14, vI r99)]) (st1 := [vI 0]) (h1 := h119) (P := True ∧ True) (by decide +kernel) rfl rfl ⟨trivial, trivial⟩ ?_
                          cases hF
                          exact hR.2.1 425 _ _ _ (by decide +kernel) rfl (by decide) ⟨rfl, rfl⟩
                      · have hF := ite_f hc117 hF
                        refine g_seg hK [.iconst 0] 424 425 (L1 := [(15, vI r105), (0, vR 0), (12, vI r93), (13, vI r96), (14, vI r99)]) (st1 := [vI 0]) (h1 := h115) (P := True ∧ True) (by decide +kernel) rfl rfl ⟨trivial, trivial⟩ ?_
                        cases hF
                        exact hR.2.1 425 _ _ _ (by decide +kernel) rfl (by decide) ⟨rfl, rfl⟩
                    · have hF := ite_f hc113 hF
                      refine g_seg hK [.iconst 0] 424 425 (L1 := [(15, vI r105), (0, vR 0), (12, vI r93), (13, vI r96), (14, vI r99)]) (st1 := [vI 0]) (h1 := h111) (P := True ∧ True) (by decide +kernel) rfl rfl ⟨trivial, trivial⟩ ?_
                      cases hF
                      exact hR.2.1 425 _ _ _ (by decide +kernel) rfl (by decide) ⟨rfl, rfl⟩
              clear hF
              have hF := e122
              refine g_icmp hK 354 .ne (7) 361 (t1 := 357) (t2 := 361) (by decide +kernel) (by decide) rfl rfl (fun (hc104 : andv (shrv p2 4) 1 = 1) => ?_) (fun (hc104 : ¬ (andv (shrv p2 4) 1 = 1)) => ?_)
              · have hF := ite_t hc104 hF
                refine g_seg hK [.iconst 1] 357 358 (L1 := [(14, vI r99), (13, vI r96), (12, vI r93), (3, vI r3), (2, vI r1), (0, vR 0), (1, vI p2)]) (st1 := [vI 1, vR 0]) (h1 := h100) (P := True ∧ True) (by decide +kernel) rfl rfl ⟨trivial, trivial⟩ ?_
                refine g_goto hK 358 (4) 362 (by decide +kernel) (by decide) ?_
                refine hK.2.1 _ _ ([(0, vR 0), (12, vI r93), (13, vI r96), (14, vI r99)]) _ _ (sub_of [5, 2, 1, 0] rfl) ?_
                cases hF
                exact j103
              · have hF := ite_f hc104 hF
                refine g_seg hK [.iconst 0] 361 362 (L1 := [(14, vI r99), (13, vI r96), (12, vI r93), (3, vI r3), (2, vI r1), (0, vR 0), (1, vI p2)]) (st1 := [vI 0, vR 0]) (h1 := h100) (P := True ∧ True) (by decide +kernel) rfl rfl ⟨trivial, trivial⟩ ?_
                refine hK.2.1 _ _ ([(0, vR 0), (12, vI r93), (13, vI r96), (14, vI r99)]) _ _ (sub_of [5, 2, 1, 0] rfl) ?_
                cases hF
                exact j103
            · have hF := ite_f hc92 hF
              rw [show swT 20 406 0 5 [40, 111, 174, 217, 217, 303] r6 = 426 from by unfold swT; rw [if_pos (by omega)]; decide]
              refine g_seg hK [.iload_n 1, .bipush 6, .ishr, .iload_n 3, .iconst 1, .iadd] 426 433 (L1 := [(3, vI r3), (2, vI r1), (0, vR 0), (1, vI p2)]) (st1 := [vI (wr (r3 + 1)), vI (shrv p2 6)]) (h1 := h4) (P := True ∧ True ∧ True ∧ True ∧ True ∧ True ∧ True) (by decide +kernel) rfl rfl ⟨trivial, trivial, trivial, trivial, trivial, trivial, trivial⟩ ?_
              obtain ⟨r123, e124, hF⟩ := ob1_elim hF
              refine g_callS1 hK 433 60 (d1 := 0) (vs := [vI (shrv p2 6), vI (wr (r3 + 1))]) (rest := []) (h1 := h4) (r := vI r123) my_yL_low sw_X9_60 (by decide) (T_L_low (p1 := (shrv p2 6)) (p2 := (wr (r3 + 1))) (h := h4) (hF := e124)) rfl (Nat.le_of_ble_eq_true rfl) (by decide +kernel) ?_
              refine g_seg hK [.istore 16, .iload_n 1, .bipush 10, .ishr, .iload_n 1, .bipush 14, .ishr, .iconst 1, .iand] 436 448 (L1 := [(16, vI r123), (3, vI r3), (2, vI r1), (0, vR 0), (1, vI p2)]) (st1 := [vI (andv (shrv p2 14) 1), vI (shrv p2 10)]) (h1 := h4) (P := True ∧ True ∧ True ∧ True ∧ True ∧ True ∧ True ∧ True ∧ True ∧ True) (by decide +kernel) rfl rfl ⟨trivial, trivial, trivial, trivial, trivial, trivial, trivial, trivial, trivial, trivial⟩ ?_
              obtain ⟨s125, e144, hF⟩ := jn1_elim hF
              have j126 : K 457 [(0, vR 0), (1, vI p2), (2, vI r1), (3, vI r3), (16, vI r123)] [vI s125, vI (shrv p2 10)] h4 := by
                obtain ⟨r128, e129, hF⟩ := ob1_elim hF
                refine g_callS1 hK 457 60 (d1 := 0) (vs := [vI (shrv p2 10), vI s125]) (rest := []) (h1 := h4) (r := vI r128) my_yL_low sw_X9_60 (by decide) (T_L_low (p1 := (shrv p2 10)) (p2 := s125) (h := h4) (hF := e129)) rfl (Nat.le_of_ble_eq_true rfl) (by decide +kernel) ?_
                refine g_seg hK [.istore 17, .iload_n 1, .bipush 15, .ishr, .iconst 3, .iand] 460 468 (L1 := [(17, vI r128), (0, vR 0), (1, vI p2), (2, vI r1), (3, vI r3), (16, vI r123)]) (st1 := [vI (andv (shrv p2 15) 3)]) (h1 := h4) (P := True ∧ True ∧ True ∧ True ∧ True ∧ True ∧ True) (by decide +kernel) rfl rfl ⟨trivial, trivial, trivial, trivial, trivial, trivial, trivial⟩ ?_
                obtain ⟨s130, e143, hF⟩ := jn1_elim hF
                have j131 : K 483 [(0, vR 0), (2, vI r1), (3, vI r3), (16, vI r123)] [vI s130] h4 := by
                  refine g_seg hK [.istore 17, .aload_n 0, .iload_n 2, .iload 16, .iload 17] 483 491 (L1 := [(17, vI s130), (0, vR 0), (2, vI r1), (3, vI r3), (16, vI r123)]) (st1 := [vI s130, vI r123, vI r1, vR 0]) (h1 := h4) (P := True ∧ True ∧ True ∧ True ∧ True ∧ True) (by decide +kernel) rfl rfl ⟨trivial, trivial, trivial, trivial, trivial, trivial⟩ ?_
                  obtain ⟨r133, h134, e135, hF⟩ := ob2_elim hF
                  refine g_callV1 hK 491 39 (d1 := 6) (ci := 6) (i := 0) (vs := [vI r1, vI r123, vI s130]) (rest := []) (h1 := h134) (r := vI r133) my_yX6_edit vw_X9_39 (by decide) (T_X_edit (p1 := r1) (p2 := r123) (p3 := s130) (h := h4) (hF := e135)) rfl rfl rfl (Nat.le_of_ble_eq_true rfl) (by decide +kernel) ?_
                  refine g_seg hK [.iload_n 3, .bipush 14] 494 497 (L1 := [(17, vI s130), (0, vR 0), (2, vI r1), (3, vI r3), (16, vI r123)]) (st1 := [vI 14, vI r3, vI r133]) (h1 := h134) (P := True ∧ True ∧ True) (by decide +kernel) rfl rfl ⟨trivial, trivial, trivial⟩ ?_
                  obtain ⟨s136, e142, hF⟩ := jn1_elim hF
                  have j137 : K 508 [(0, vR 0), (2, vI r1), (3, vI r3), (16, vI r123), (17, vI s130)] [vI s136, vI r133] h134 := by
                    refine g_icmp hK 508 .ne (25) 533 (t1 := 511) (t2 := 533) (by decide +kernel) (by decide) rfl rfl (fun (hc139 : r133 = s136) => ?_) (fun (hc139 : ¬ (r133 = s136)) => ?_)
                    · have hF := ite_t hc139 hF
                      refine g_seg hK [.iload_n 3, .bipush 14] 511 514 (L1 := [(0, vR 0), (2, vI r1), (3, vI r3), (16, vI r123), (17, vI s130)]) (st1 := [vI 14, vI r3]) (h1 := h134) (P := True ∧ True ∧ True) (by decide +kernel) rfl rfl ⟨trivial, trivial, trivial⟩ ?_
                      refine g_icmp hK 514 .eq (15) 529 (t1 := 529) (t2 := 517) (by decide +kernel) (by decide) rfl rfl (fun (hc140 : r3 = 14) => ?_) (fun (hc140 : ¬ (r3 = 14)) => ?_)
                      · have hF := ite_t hc140 hF
                        refine g_seg hK [.iconst 1] 529 530 (L1 := [(0, vR 0), (2, vI r1), (3, vI r3), (16, vI r123), (17, vI s130)]) (st1 := [vI 1]) (h1 := h134) (P := True ∧ True) (by decide +kernel) rfl rfl ⟨trivial, trivial⟩ ?_
                        refine g_goto hK 530 (4) 534 (by decide +kernel) (by decide) ?_
                        cases hF
                        exact hR.2.1 534 _ _ _ (by decide +kernel) rfl (by decide) ⟨rfl, rfl⟩
                      · have hF := ite_f hc140 hF
                        refine g_seg hK [.aload_n 0, .iload_n 2, .iload 16] 517 521 (L1 := [(0, vR 0), (2, vI r1), (3, vI r3), (16, vI r123), (17, vI s130)]) (st1 := [vI r123, vI r1, vR 0]) (h1 := h134) (P := True ∧ True ∧ True ∧ True) (by decide +kernel) rfl rfl ⟨trivial, trivial, trivial, trivial⟩ ?_
                        refine g_callV1 hK 521 18 (d1 := 1) (ci := 6) (i := 0) (vs := [vI r1, vI r123]) (rest := []) (h1 := h134) (r := vI (F_X_line r1 r123 h134)) my_yX6_line vw_X9_18 (by decide) (T_X_line (p1 := r1) (p2 := r123) (h := h134) (hF := rfl)) rfl rfl rfl (Nat.le_of_ble_eq_true rfl) (by decide +kernel) ?_
                        refine g_seg hK [.iload 17] 524 526 (L1 := [(0, vR 0), (2, vI r1), (3, vI r3), (16, vI r123), (17, vI s130)]) (st1 := [vI s130, vI (F_X_line r1 r123 h134)]) (h1 := h134) (P := True ∧ True) (by decide +kernel) rfl rfl ⟨trivial, trivial⟩ ?_
                        refine g_icmp hK 526 .ne (7) 533 (t1 := 529) (t2 := 533) (by decide +kernel) (by decide) rfl rfl (fun (hc141 : F_X_line r1 r123 h134 = s130) => ?_) (fun (hc141 : ¬ (F_X_line r1 r123 h134 = s130)) => ?_)
                        · have hF := ite_t hc141 hF
                          refine g_seg hK [.iconst 1] 529 530 (L1 := [(0, vR 0), (2, vI r1), (3, vI r3), (16, vI r123), (17, vI s130)]) (st1 := [vI 1]) (h1 := h134) (P := True ∧ True) (by decide +kernel) rfl rfl ⟨trivial, trivial⟩ ?_
                          refine g_goto hK 530 (4) 534 (by decide +kernel) (by decide) ?_
                          cases hF
                          exact hR.2.1 534 _ _ _ (by decide +kernel) rfl (by decide) ⟨rfl, rfl⟩
                        · have hF := ite_f hc141 hF
                          refine g_seg hK [.iconst 0] 533 534 (L1 := [(0, vR 0), (2, vI r1), (3, vI r3), (16, vI r123), (17, vI s130)]) (st1 := [vI 0]) (h1 := h134) (P := True ∧ True) (by decide +kernel) rfl rfl ⟨trivial, trivial⟩ ?_
                          cases hF
                          exact hR.2.1 534 _ _ _ (by decide +kernel) rfl (by decide) ⟨rfl, rfl⟩
                    · have hF := ite_f hc139 hF
                      refine g_seg hK [.iconst 0] 533 534 (L1 := [(0, vR 0), (2, vI r1), (3, vI r3), (16, vI r123), (17, vI s130)]) (st1 := [vI 0]) (h1 := h134) (P := True ∧ True) (by decide +kernel) rfl rfl ⟨trivial, trivial⟩ ?_
                      cases hF
                      exact hR.2.1 534 _ _ _ (by decide +kernel) rfl (by decide) ⟨rfl, rfl⟩
                  clear hF
                  have hF := e142
                  refine g_icmp hK 497 .ne (8) 505 (t1 := 500) (t2 := 505) (by decide +kernel) (by decide) rfl rfl (fun (hc138 : r3 = 14) => ?_) (fun (hc138 : ¬ (r3 = 14)) => ?_)
                  · have hF := ite_t hc138 hF
                    refine g_seg hK [.bipush (-3)] 500 502 (L1 := [(17, vI s130), (0, vR 0), (2, vI r1), (3, vI r3), (16, vI r123)]) (st1 := [vI (-3), vI r133]) (h1 := h134) (P := True ∧ True) (by decide +kernel) rfl rfl ⟨trivial, trivial⟩ ?_
                    refine g_goto hK 502 (6) 508 (by decide +kernel) (by decide) ?_
                    refine hK.2.1 _ _ ([(0, vR 0), (2, vI r1), (3, vI r3), (16, vI r123), (17, vI s130)]) _ _ (sub_of [1, 2, 3, 4, 0] rfl) ?_
                    cases hF
                    exact j137
                  · have hF := ite_f hc138 hF
                    refine g_seg hK [.iload_n 3, .iconst 1, .iadd] 505 508 (L1 := [(17, vI s130), (0, vR 0), (2, vI r1), (3, vI r3), (16, vI r123)]) (st1 := [vI (wr (r3 + 1)), vI r133]) (h1 := h134) (P := True ∧ True ∧ True ∧ True) (by decide +kernel) rfl rfl ⟨trivial, trivial, trivial, trivial⟩ ?_
                    refine hK.2.1 _ _ ([(0, vR 0), (2, vI r1), (3, vI r3), (16, vI r123), (17, vI s130)]) _ _ (sub_of [1, 2, 3, 4, 0] rfl) ?_
                    cases hF
                    exact j137
                clear hF
                have hF := e143
                refine g_ifz hK 468 .ne (13) 481 (t1 := 471) (t2 := 481) (by decide +kernel) (by decide) rfl rfl (fun (hc132 : andv (shrv p2 15) 3 = 0) => ?_) (fun (hc132 : ¬ (andv (shrv p2 15) 3 = 0)) => ?_)
                · have hF := ite_t hc132 hF
                  refine g_seg hK [.bipush 6, .iload 17, .iconst 3, .irem, .iadd] 471 478 (L1 := [(17, vI r128), (0, vR 0), (1, vI p2), (2, vI r1), (3, vI r3), (16, vI r123)]) (st1 := [vI (wr (6 + (remv r128 3)))]) (h1 := h4) (P := True ∧ True ∧ True ∧ (¬ 3 = 0) ∧ True ∧ True) (by decide +kernel) rfl rfl ⟨trivial, trivial, trivial, (by decide), trivial, trivial⟩ ?_
                  refine g_goto hK 478 (5) 483 (by decide +kernel) (by decide) ?_
                  refine hK.2.1 _ _ ([(0, vR 0), (2, vI r1), (3, vI r3), (16, vI r123)]) _ _ (sub_of [1, 3, 4, 5] rfl) ?_
                  cases hF
                  exact j131
                · have hF := ite_f hc132 hF
                  refine g_seg hK [.iload 17] 481 483 (L1 := [(17, vI r128), (0, vR 0), (1, vI p2), (2, vI r1), (3, vI r3), (16, vI r123)]) (st1 := [vI r128]) (h1 := h4) (P := True ∧ True) (by decide +kernel) rfl rfl ⟨trivial, trivial⟩ ?_
                  refine hK.2.1 _ _ ([(0, vR 0), (2, vI r1), (3, vI r3), (16, vI r123)]) _ _ (sub_of [1, 3, 4, 5] rfl) ?_
                  cases hF
                  exact j131
              clear hF
              have hF := e144
              refine g_ifz hK 448 .ne (8) 456 (t1 := 451) (t2 := 456) (by decide +kernel) (by decide) rfl rfl (fun (hc127 : andv (shrv p2 14) 1 = 0) => ?_) (fun (hc127 : ¬ (andv (shrv p2 14) 1 = 0)) => ?_)
              · have hF := ite_t hc127 hF
                refine g_seg hK [.bipush 9] 451 453 (L1 := [(16, vI r123), (3, vI r3), (2, vI r1), (0, vR 0), (1, vI p2)]) (st1 := [vI 9, vI (shrv p2 10)]) (h1 := h4) (P := True ∧ True) (by decide +kernel) rfl rfl ⟨trivial, trivial⟩ ?_
                refine g_goto hK 453 (4) 457 (by decide +kernel) (by decide) ?_
                refine hK.2.1 _ _ ([(0, vR 0), (1, vI p2), (2, vI r1), (3, vI r3), (16, vI r123)]) _ _ (sub_of [3, 4, 2, 1, 0] rfl) ?_
                cases hF
                exact j126
              · have hF := ite_f hc127 hF
                refine g_seg hK [.iconst 3] 456 457 (L1 := [(16, vI r123), (3, vI r3), (2, vI r1), (0, vR 0), (1, vI p2)]) (st1 := [vI 3, vI (shrv p2 10)]) (h1 := h4) (P := True ∧ True) (by decide +kernel) rfl rfl ⟨trivial, trivial⟩ ?_
                refine hK.2.1 _ _ ([(0, vR 0), (1, vI p2), (2, vI r1), (3, vI r3), (16, vI r123)]) _ _ (sub_of [3, 4, 2, 1, 0] rfl) ?_
                cases hF
                exact j126

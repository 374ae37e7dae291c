/-! ===== the law's body ===== -/
/-- what a call of cell answers -/
def clv (xs : Nat → Int32) (nn : Nat) (e : Int) : Int := if e < (nn : Int) then (xs e.toNat).toInt else wr ((wr (7919 * (wr (e + 3)))) * (wr (e + 11)))
def CELLR (xs : Nat → Int32) (nn : Nat) (K : KT) : Prop := ∀ (pc : Nat) (e : Int) (L : ML) (st : List MV) (h : MH), 0 ≤ e → st.length ≤ 4 → dk code pc (.invokestatic 76) 3 = true → K (pc + 3) L (vI (clv xs nn e) :: st) h → K pc L (vI e :: vR 100 :: st) h
set_option maxRecDepth 100000 in
theorem my_yL_isView : MY yL_isView cL_isView 13 (Option.some Jvm.ClassFile.FieldType.boolean) 1 := ⟨(tb_in 533 (by decide +kernel) (by decide +kernel)), (tb_in 20 (by decide +kernel) (by decide +kernel)), ⟨by decide +kernel, by decide +kernel, by decide +kernel⟩, by decide⟩
set_option maxRecDepth 100000 in
theorem sw_X9_72 : SW RX9 72 yL_isView := ⟨(tb_in 531 (by decide +kernel) (by decide +kernel)), (tb_in 532 (by decide +kernel) (by decide +kernel))⟩
set_option maxRecDepth 100000 in
theorem my_yL_does : MY yL_does cL_does 18 (Option.some Jvm.ClassFile.FieldType.boolean) 2 := ⟨(tb_in 651 (by decide +kernel) (by decide +kernel)), (tb_in 20 (by decide +kernel) (by decide +kernel)), ⟨by decide +kernel, by decide +kernel, by decide +kernel⟩, by decide⟩
set_option maxRecDepth 100000 in
theorem sw_X9_80 : SW RX9 80 yL_does := ⟨(tb_in 649 (by decide +kernel) (by decide +kernel)), (tb_in 650 (by decide +kernel) (by decide +kernel))⟩
set_option maxRecDepth 100000 in
theorem my_yL_isHunk : MY yL_isHunk cL_isHunk 14 (Option.some Jvm.ClassFile.FieldType.boolean) 2 := ⟨(tb_in 588 (by decide +kernel) (by decide +kernel)), (tb_in 20 (by decide +kernel) (by decide +kernel)), ⟨by decide +kernel, by decide +kernel, by decide +kernel⟩, by decide⟩
set_option maxRecDepth 100000 in
theorem sw_X9_84 : SW RX9 84 yL_isHunk := ⟨(tb_in 586 (by decide +kernel) (by decide +kernel)), (tb_in 587 (by decide +kernel) (by decide +kernel))⟩
set_option maxRecDepth 100000 in
theorem my_yL_isLaid : MY yL_isLaid cL_isLaid 12 (Option.some Jvm.ClassFile.FieldType.boolean) 2 := ⟨(tb_in 599 (by decide +kernel) (by decide +kernel)), (tb_in 20 (by decide +kernel) (by decide +kernel)), ⟨by decide +kernel, by decide +kernel, by decide +kernel⟩, by decide⟩
set_option maxRecDepth 100000 in
theorem sw_X9_87 : SW RX9 87 yL_isLaid := ⟨(tb_in 597 (by decide +kernel) (by decide +kernel)), (tb_in 598 (by decide +kernel) (by decide +kernel))⟩
set_option maxRecDepth 100000 in
theorem my_yL_isLeast : MY yL_isLeast cL_isLeast 8 (Option.some Jvm.ClassFile.FieldType.boolean) 1 := ⟨(tb_in 640 (by decide +kernel) (by decide +kernel)), (tb_in 20 (by decide +kernel) (by decide +kernel)), ⟨by decide +kernel, by decide +kernel, by decide +kernel⟩, by decide⟩
set_option maxRecDepth 100000 in
theorem sw_X9_91 : SW RX9 91 yL_isLeast := ⟨(tb_in 638 (by decide +kernel) (by decide +kernel)), (tb_in 639 (by decide +kernel) (by decide +kernel))⟩
def F_L_law_L64 (xs : Nat → Int32) (nn : Nat)  : Nat → Int → MH → Option (Sum (Int × MH) (Int × MH))
  | 0, _, _ => none
  | n + 1, x2, h => if x2 < 60 then (gd (0 ≤ x2) (ob2 (F_L_does (clv xs nn x2) h) (fun (r3 : Int) (h4 : MH) => if r3 = 0 then (some (Sum.inl (0, h4))) else (jk1 (fun (h7 : MH) => ob2 (F_X_count 7 h7) (fun (r9 : Int) (h10 : MH) => jk2 (fun (s14 : Int) (h15 : MH) => if s14 = 0 then (some (Sum.inl (0, h15))) else (jk1 (fun (h18 : MH) => jk1 (fun (h20 : MH) => F_L_law_L64 xs nn  n (wr (x2 + 1)) h20) (fun kj21 => if remv x2 20 = 13 then (ob2 (F_L_isLeast h18) (fun (r24 : Int) (h25 : MH) => if r24 = 0 then (some (Sum.inl (0, h25))) else (kj21 h25))) else (kj21 h18))) (fun kj19 => if remv x2 9 = 7 then (jn1 (if andv (shrv (clv xs nn x2) 3) 1 = 1 then (1) else (0)) (fun (s30 : Int) => ob2 (F_L_isLaid s30 h15) (fun (r33 : Int) (h34 : MH) => if r33 = 0 then (some (Sum.inl (0, h34))) else (kj19 h34)))) else (kj19 h15)))) (fun kj16 => jk1 (fun (h12 : MH) => kj16 1 h12) (fun kj13 => if r9 = 0 then (kj13 h10) else (if remv x2 3 = 2 then (ob1 (F_L_low (shrv (clv xs nn x2) 7) r9) (fun (r42 : Int) => ob2 (F_L_isHunk r42 h10) (fun (r44 : Int) (h45 : MH) => if r44 = 0 then (kj16 0 h45) else (kj13 h45)))) else (kj13 h10)))))) (fun kj8 => if remv x2 2 = 1 then (ob2 (F_L_isView h4) (fun (r50 : Int) (h51 : MH) => if r50 = 0 then (some (Sum.inl (0, h51))) else (kj8 h51))) else (kj8 h4)))))) else (some (Sum.inr (x2, h)))
def F_L_law (xs : Nat → Int32) (nn : Nat) (h : MH) : Option (Int × MH) :=
  ob2 (F_L_isView h) (fun (r1 : Int) (h2 : MH) => if r1 = 0 then (some (0, h2)) else (ob2 (F_X_count 14 h2) (fun (r5 : Int) (h6 : MH) => if r5 = 1 then (ob2 (F_X_count 15 h6) (fun (r9 : Int) (h10 : MH) => if r9 = 0 then (ob2 (F_X_undo h10) (fun (r13 : Int) (h14 : MH) => if r13 = (-2) then (ob2 (F_X_restore h14) (fun (r17 : Int) (h18 : MH) => if r17 = (-2) then (ob2 (F_X_lay 1 h18) (fun (r21 : Int) (h22 : MH) => if r21 = 0 then (os (F_L_law_L64 xs nn FUEL 0 h22) (fun (a : Int × MH) => some a) (fun (q28 : Int × MH) => some (1, q28.2))) else (some (0, h22)))) else (some (0, h18)))) else (some (0, h14)))) else (some (0, h10)))) else (some (0, h6)))))
set_option maxHeartbeats 4000000 in
set_option maxRecDepth 100000 in
theorem LT_L_law_L64 {xs : Nat → Int32} {nn : Nat} {K : KT} (hK : Rules RX9 code 6 ret flX9 8 K) (hC : CELLR xs nn K) {Post : Option MV → MH → Prop} (hR : R_ret code ret Post K) : ∀ (n : Nat) (x2 : Int) (h : MH) (out : Sum (Int × MH) (Int × MH)), F_L_law_L64 xs nn n x2 h = some out → (∀ a : Int × MH, out = Sum.inl a → Post (some (vI a.1)) a.2) → (∀ q : Int × MH, out = Sum.inr q → K 202 [(0, vR 100), (1, vR 0), (2, vI q.1)] [] q.2) → K 64 [(0, vR 100), (1, vR 0), (2, vI x2)] [] h := by
  intro n
  induction n with
  | zero =>
    intro x2 h out hF
    cases hF
  | succ n ih =>
    intro x2 h out hF hRet hE
    unfold F_L_law_L64 at hF
    refine g_seg hK [.iload_n 2, .bipush 60] 64 67 (L1 := [(0, vR 100), (1, vR 0), (2, vI x2)]) (st1 := [vI 60, vI x2]) (h1 := h) (P := True ∧ True ∧ True) (by decide +kernel) rfl rfl ⟨trivial, trivial, trivial⟩ ?_
    refine g_icmp hK 67 .ge (135) 202 (t1 := 70) (t2 := 202) (by decide +kernel) (by decide) rfl rfl (fun (hc1 : x2 < 60) => ?_) (fun (hc1 : ¬ (x2 < 60)) => ?_)
    · have hF := ite_t hc1 hF
      refine g_seg hK [.aload_n 0, .iload_n 2] 70 72 (L1 := [(0, vR 100), (1, vR 0), (2, vI x2)]) (st1 := [vI x2, vR 100]) (h1 := h) (P := True ∧ True ∧ True) (by decide +kernel) rfl rfl ⟨trivial, trivial, trivial⟩ ?_
      obtain ⟨hg2, hF⟩ := gd_elim hF
      refine hC 72 x2 _ _ _ hg2 (Nat.le_of_ble_eq_true rfl) (by decide +kernel) ?_
      refine g_seg hK [.istore_n 3, .aload_n 1, .iload_n 3] 75 78 (L1 := [(3, vI (clv xs nn x2)), (0, vR 100), (1, vR 0), (2, vI x2)]) (st1 := [vI (clv xs nn x2), vR 0]) (h1 := h) (P := True ∧ True ∧ True ∧ True) (by decide +kernel) rfl rfl ⟨trivial, trivial, trivial, trivial⟩ ?_
      obtain ⟨r3, h4, e5, hF⟩ := ob2_elim hF
      refine g_callS1 hK 78 80 (d1 := 7) (vs := [vR 0, vI (clv xs nn x2)]) (rest := []) (h1 := h4) (r := vI r3) my_yL_does sw_X9_80 (by decide) (T_L_does (p2 := (clv xs nn x2)) (h := h) (hF := e5)) rfl (Nat.le_of_ble_eq_true rfl) (by decide +kernel) ?_
      refine g_ifz hK 81 .eq (17) 98 (t1 := 98) (t2 := 84) (by decide +kernel) (by decide) rfl rfl (fun (hc6 : r3 = 0) => ?_) (fun (hc6 : ¬ (r3 = 0)) => ?_)
      · have hF := ite_t hc6 hF
        refine g_seg hK [.iconst 0] 98 99 (L1 := [(3, vI (clv xs nn x2)), (0, vR 100), (1, vR 0), (2, vI x2)]) (st1 := [vI 0]) (h1 := h4) (P := True ∧ True) (by decide +kernel) rfl rfl ⟨trivial, trivial⟩ ?_
        cases hF
        exact hR.2.1 99 _ _ _ (by decide +kernel) rfl (by decide) (hRet _ rfl)
      · have hF := ite_f hc6 hF
        refine g_seg hK [.iload_n 2, .iconst 2, .irem, .iconst 1] 84 88 (L1 := [(3, vI (clv xs nn x2)), (0, vR 100), (1, vR 0), (2, vI x2)]) (st1 := [vI 1, vI (remv x2 2)]) (h1 := h4) (P := True ∧ True ∧ (¬ 2 = 0) ∧ True ∧ True) (by decide +kernel) rfl rfl ⟨trivial, trivial, (by decide), trivial, trivial⟩ ?_
        obtain ⟨kj8, e48, hF⟩ := jk1_elim hF
        have j8 : ∀ (h7 : MH), kj8 h7 = some out → K 100 [(0, vR 100), (1, vR 0), (2, vI x2), (3, vI (clv xs nn x2))] [] h7 := by
          intro h7 hF
          have hF := (e48 h7).symm.trans hF
          refine g_seg hK [.aload_n 1, .bipush 7] 100 103 (L1 := [(0, vR 100), (1, vR 0), (2, vI x2), (3, vI (clv xs nn x2))]) (st1 := [vI 7, vR 0]) (h1 := h7) (P := True ∧ True ∧ True) (by decide +kernel) rfl rfl ⟨trivial, trivial, trivial⟩ ?_
          obtain ⟨r9, h10, e11, hF⟩ := ob2_elim hF
          refine g_callV1 hK 103 8 (d1 := 6) (ci := 6) (i := 0) (vs := [vI 7]) (rest := []) (h1 := h10) (r := vI r9) my_yX6_count vw_X9_8 (by decide) (T_X_count (p1 := 7) (h := h7) (hF := e11)) rfl rfl rfl (Nat.le_of_ble_eq_true rfl) (by decide +kernel) ?_
          refine g_seg hK [.istore 4, .iload 4] 106 110 (L1 := [(4, vI r9), (0, vR 100), (1, vR 0), (2, vI x2), (3, vI (clv xs nn x2))]) (st1 := [vI r9]) (h1 := h10) (P := True ∧ True ∧ True) (by decide +kernel) rfl rfl ⟨trivial, trivial, trivial⟩ ?_
          obtain ⟨kj16, e38, hF⟩ := jk2_elim hF
          have j16 : ∀ (s14 : Int) (h15 : MH), kj16 s14 h15 = some out → K 141 [(0, vR 100), (1, vR 0), (2, vI x2), (3, vI (clv xs nn x2))] [vI s14] h15 := by
            intro s14 h15 hF
            have hF := (e38 s14 h15).symm.trans hF
            refine g_seg hK [.istore 5, .iload 5] 141 145 (L1 := [(5, vI s14), (0, vR 100), (1, vR 0), (2, vI x2), (3, vI (clv xs nn x2))]) (st1 := [vI s14]) (h1 := h15) (P := True ∧ True ∧ True) (by decide +kernel) rfl rfl ⟨trivial, trivial, trivial⟩ ?_
            refine g_ifz hK 145 .eq (49) 194 (t1 := 194) (t2 := 148) (by decide +kernel) (by decide) rfl rfl (fun (hc17 : s14 = 0) => ?_) (fun (hc17 : ¬ (s14 = 0)) => ?_)
            · have hF := ite_t hc17 hF
              refine g_seg hK [.iconst 0] 194 195 (L1 := [(5, vI s14), (0, vR 100), (1, vR 0), (2, vI x2), (3, vI (clv xs nn x2))]) (st1 := [vI 0]) (h1 := h15) (P := True ∧ True) (by decide +kernel) rfl rfl ⟨trivial, trivial⟩ ?_
              cases hF
              exact hR.2.1 195 _ _ _ (by decide +kernel) rfl (by decide) (hRet _ rfl)
            · have hF := ite_f hc17 hF
              refine g_seg hK [.iload_n 2, .bipush 9, .irem, .bipush 7] 148 154 (L1 := [(5, vI s14), (0, vR 100), (1, vR 0), (2, vI x2), (3, vI (clv xs nn x2))]) (st1 := [vI 7, vI (remv x2 9)]) (h1 := h15) (P := True ∧ True ∧ (¬ 9 = 0) ∧ True ∧ True) (by decide +kernel) rfl rfl ⟨trivial, trivial, (by decide), trivial, trivial⟩ ?_
              obtain ⟨kj19, e28, hF⟩ := jk1_elim hF
              have j19 : ∀ (h18 : MH), kj19 h18 = some out → K 178 [(0, vR 100), (1, vR 0), (2, vI x2)] [] h18 := by
                intro h18 hF
                have hF := (e28 h18).symm.trans hF
                refine g_seg hK [.iload_n 2, .bipush 20, .irem, .bipush 13] 178 184 (L1 := [(0, vR 100), (1, vR 0), (2, vI x2)]) (st1 := [vI 13, vI (remv x2 20)]) (h1 := h18) (P := True ∧ True ∧ (¬ 20 = 0) ∧ True ∧ True) (by decide +kernel) rfl rfl ⟨trivial, trivial, (by decide), trivial, trivial⟩ ?_
                obtain ⟨kj21, e22, hF⟩ := jk1_elim hF
                have j21 : ∀ (h20 : MH), kj21 h20 = some out → K 196 [(0, vR 100), (1, vR 0), (2, vI x2)] [] h20 := by
                  intro h20 hF
                  have hF := (e22 h20).symm.trans hF
                  refine g_seg hK [.iinc 2 1] 196 199 (L1 := [(2, vI (wr (x2 + 1))), (0, vR 100), (1, vR 0)]) (st1 := []) (h1 := h20) (P := True ∧ True) (by decide +kernel) rfl rfl ⟨trivial, trivial⟩ ?_
                  refine g_goto hK 199 (-135) 64 (by decide +kernel) (by decide) ?_
                  refine hK.2.1 _ _ ([(0, vR 100), (1, vR 0), (2, vI (wr (x2 + 1)))]) _ _ (sub_of [1, 2, 0] rfl) ?_
                  exact ih _ _ _ hF hRet hE
                refine g_icmp hK 184 .ne (12) 196 (t1 := 187) (t2 := 196) (by decide +kernel) (by decide) rfl rfl (fun (hc23 : remv x2 20 = 13) => ?_) (fun (hc23 : ¬ (remv x2 20 = 13)) => ?_)
                · have hF := ite_t hc23 hF
                  refine g_seg hK [.aload_n 1] 187 188 (L1 := [(0, vR 100), (1, vR 0), (2, vI x2)]) (st1 := [vR 0]) (h1 := h18) (P := True ∧ True) (by decide +kernel) rfl rfl ⟨trivial, trivial⟩ ?_
                  obtain ⟨r24, h25, e26, hF⟩ := ob2_elim hF
                  refine g_callS1 hK 188 91 (d1 := 7) (vs := [vR 0]) (rest := []) (h1 := h25) (r := vI r24) my_yL_isLeast sw_X9_91 (by decide) (T_L_isLeast (h := h18) (hF := e26)) rfl (Nat.le_of_ble_eq_true rfl) (by decide +kernel) ?_
                  refine g_ifz hK 191 .ne (5) 196 (t1 := 194) (t2 := 196) (by decide +kernel) (by decide) rfl rfl (fun (hc27 : r24 = 0) => ?_) (fun (hc27 : ¬ (r24 = 0)) => ?_)
                  · have hF := ite_t hc27 hF
                    refine g_seg hK [.iconst 0] 194 195 (L1 := [(0, vR 100), (1, vR 0), (2, vI x2)]) (st1 := [vI 0]) (h1 := h25) (P := True ∧ True) (by decide +kernel) rfl rfl ⟨trivial, trivial⟩ ?_
                    cases hF
                    exact hR.2.1 195 _ _ _ (by decide +kernel) rfl (by decide) (hRet _ rfl)
                  · have hF := ite_f hc27 hF
                    exact j21 _ hF
                · have hF := ite_f hc23 hF
                  exact j21 _ hF
              refine g_icmp hK 154 .ne (24) 178 (t1 := 157) (t2 := 178) (by decide +kernel) (by decide) rfl rfl (fun (hc29 : remv x2 9 = 7) => ?_) (fun (hc29 : ¬ (remv x2 9 = 7)) => ?_)
              · have hF := ite_t hc29 hF
                refine g_seg hK [.aload_n 1, .iload_n 3, .iconst 3, .ishr, .iconst 1, .iand, .iconst 1] 157 164 (L1 := [(5, vI s14), (0, vR 100), (1, vR 0), (2, vI x2), (3, vI (clv xs nn x2))]) (st1 := [vI 1, vI (andv (shrv (clv xs nn x2) 3) 1), vR 0]) (h1 := h15) (P := True ∧ True ∧ True ∧ True ∧ True ∧ True ∧ True ∧ True) (by decide +kernel) rfl rfl ⟨trivial, trivial, trivial, trivial, trivial, trivial, trivial, trivial⟩ ?_
                obtain ⟨s30, e37, hF⟩ := jn1_elim hF
                have j31 : K 172 [(0, vR 100), (1, vR 0), (2, vI x2)] [vI s30, vR 0] h15 := by
                  obtain ⟨r33, h34, e35, hF⟩ := ob2_elim hF
                  refine g_callS1 hK 172 87 (d1 := 7) (vs := [vR 0, vI s30]) (rest := []) (h1 := h34) (r := vI r33) my_yL_isLaid sw_X9_87 (by decide) (T_L_isLaid (p2 := s30) (h := h15) (hF := e35)) rfl (Nat.le_of_ble_eq_true rfl) (by decide +kernel) ?_
                  refine g_ifz hK 175 .eq (19) 194 (t1 := 194) (t2 := 178) (by decide +kernel) (by decide) rfl rfl (fun (hc36 : r33 = 0) => ?_) (fun (hc36 : ¬ (r33 = 0)) => ?_)
                  · have hF := ite_t hc36 hF
                    refine g_seg hK [.iconst 0] 194 195 (L1 := [(0, vR 100), (1, vR 0), (2, vI x2)]) (st1 := [vI 0]) (h1 := h34) (P := True ∧ True) (by decide +kernel) rfl rfl ⟨trivial, trivial⟩ ?_
                    cases hF
                    exact hR.2.1 195 _ _ _ (by decide +kernel) rfl (by decide) (hRet _ rfl)
                  · have hF := ite_f hc36 hF
                    exact j19 _ hF
                clear hF
                have hF := e37
                refine g_icmp hK 164 .ne (7) 171 (t1 := 167) (t2 := 171) (by decide +kernel) (by decide) rfl rfl (fun (hc32 : andv (shrv (clv xs nn x2) 3) 1 = 1) => ?_) (fun (hc32 : ¬ (andv (shrv (clv xs nn x2) 3) 1 = 1)) => ?_)
                · have hF := ite_t hc32 hF
                  refine g_seg hK [.iconst 1] 167 168 (L1 := [(5, vI s14), (0, vR 100), (1, vR 0), (2, vI x2), (3, vI (clv xs nn x2))]) (st1 := [vI 1, vR 0]) (h1 := h15) (P := True ∧ True) (by decide +kernel) rfl rfl ⟨trivial, trivial⟩ ?_
                  refine g_goto hK 168 (4) 172 (by decide +kernel) (by decide) ?_
                  refine hK.2.1 _ _ ([(0, vR 100), (1, vR 0), (2, vI x2)]) _ _ (sub_of [1, 2, 3] rfl) ?_
                  cases hF
                  exact j31
                · have hF := ite_f hc32 hF
                  refine g_seg hK [.iconst 0] 171 172 (L1 := [(5, vI s14), (0, vR 100), (1, vR 0), (2, vI x2), (3, vI (clv xs nn x2))]) (st1 := [vI 0, vR 0]) (h1 := h15) (P := True ∧ True) (by decide +kernel) rfl rfl ⟨trivial, trivial⟩ ?_
                  refine hK.2.1 _ _ ([(0, vR 100), (1, vR 0), (2, vI x2)]) _ _ (sub_of [1, 2, 3] rfl) ?_
                  cases hF
                  exact j31
              · have hF := ite_f hc29 hF
                refine hK.2.1 _ _ ([(0, vR 100), (1, vR 0), (2, vI x2)]) _ _ (sub_of [1, 2, 3] rfl) ?_
                exact j19 _ hF
          obtain ⟨kj13, e39, hF⟩ := jk1_elim hF
          have j13 : ∀ (h12 : MH), kj13 h12 = some out → K 136 [(0, vR 100), (1, vR 0), (2, vI x2), (3, vI (clv xs nn x2))] [] h12 := by
            intro h12 hF
            have hF := (e39 h12).symm.trans hF
            refine g_seg hK [.iconst 1] 136 137 (L1 := [(0, vR 100), (1, vR 0), (2, vI x2), (3, vI (clv xs nn x2))]) (st1 := [vI 1]) (h1 := h12) (P := True ∧ True) (by decide +kernel) rfl rfl ⟨trivial, trivial⟩ ?_
            refine g_goto hK 137 (4) 141 (by decide +kernel) (by decide) ?_
            exact j16 _ _ hF
          refine g_ifz hK 110 .eq (26) 136 (t1 := 136) (t2 := 113) (by decide +kernel) (by decide) rfl rfl (fun (hc40 : r9 = 0) => ?_) (fun (hc40 : ¬ (r9 = 0)) => ?_)
          · have hF := ite_t hc40 hF
            refine hK.2.1 _ _ ([(0, vR 100), (1, vR 0), (2, vI x2), (3, vI (clv xs nn x2))]) _ _ (sub_of [1, 2, 3, 4] rfl) ?_
            exact j13 _ hF
          · have hF := ite_f hc40 hF
            refine g_seg hK [.iload_n 2, .iconst 3, .irem, .iconst 2] 113 117 (L1 := [(4, vI r9), (0, vR 100), (1, vR 0), (2, vI x2), (3, vI (clv xs nn x2))]) (st1 := [vI 2, vI (remv x2 3)]) (h1 := h10) (P := True ∧ True ∧ (¬ 3 = 0) ∧ True ∧ True) (by decide +kernel) rfl rfl ⟨trivial, trivial, (by decide), trivial, trivial⟩ ?_
            refine g_icmp hK 117 .ne (19) 136 (t1 := 120) (t2 := 136) (by decide +kernel) (by decide) rfl rfl (fun (hc41 : remv x2 3 = 2) => ?_) (fun (hc41 : ¬ (remv x2 3 = 2)) => ?_)
            · have hF := ite_t hc41 hF
              refine g_seg hK [.aload_n 1, .iload_n 3, .bipush 7, .ishr, .iload 4] 120 127 (L1 := [(4, vI r9), (0, vR 100), (1, vR 0), (2, vI x2), (3, vI (clv xs nn x2))]) (st1 := [vI r9, vI (shrv (clv xs nn x2) 7), vR 0]) (h1 := h10) (P := True ∧ True ∧ True ∧ True ∧ True ∧ True) (by decide +kernel) rfl rfl ⟨trivial, trivial, trivial, trivial, trivial, trivial⟩ ?_
              obtain ⟨r42, e43, hF⟩ := ob1_elim hF
              refine g_callS1 hK 127 60 (d1 := 0) (vs := [vI (shrv (clv xs nn x2) 7), vI r9]) (rest := [vR 0]) (h1 := h10) (r := vI r42) my_yL_low sw_X9_60 (by decide) (T_L_low (p1 := (shrv (clv xs nn x2) 7)) (p2 := r9) (h := h10) (hF := e43)) rfl (Nat.le_of_ble_eq_true rfl) (by decide +kernel) ?_
              obtain ⟨r44, h45, e46, hF⟩ := ob2_elim hF
              refine g_callS1 hK 130 84 (d1 := 7) (vs := [vR 0, vI r42]) (rest := []) (h1 := h45) (r := vI r44) my_yL_isHunk sw_X9_84 (by decide) (T_L_isHunk (p2 := r42) (h := h10) (hF := e46)) rfl (Nat.le_of_ble_eq_true rfl) (by decide +kernel) ?_
              refine g_ifz hK 133 .eq (7) 140 (t1 := 140) (t2 := 136) (by decide +kernel) (by decide) rfl rfl (fun (hc47 : r44 = 0) => ?_) (fun (hc47 : ¬ (r44 = 0)) => ?_)
              · have hF := ite_t hc47 hF
                refine g_seg hK [.iconst 0] 140 141 (L1 := [(4, vI r9), (0, vR 100), (1, vR 0), (2, vI x2), (3, vI (clv xs nn x2))]) (st1 := [vI 0]) (h1 := h45) (P := True ∧ True) (by decide +kernel) rfl rfl ⟨trivial, trivial⟩ ?_
                refine hK.2.1 _ _ ([(0, vR 100), (1, vR 0), (2, vI x2), (3, vI (clv xs nn x2))]) _ _ (sub_of [1, 2, 3, 4] rfl) ?_
                exact j16 _ _ hF
              · have hF := ite_f hc47 hF
                refine hK.2.1 _ _ ([(0, vR 100), (1, vR 0), (2, vI x2), (3, vI (clv xs nn x2))]) _ _ (sub_of [1, 2, 3, 4] rfl) ?_
                exact j13 _ hF
            · have hF := ite_f hc41 hF
              refine hK.2.1 _ _ ([(0, vR 100), (1, vR 0), (2, vI x2), (3, vI (clv xs nn x2))]) _ _ (sub_of [1, 2, 3, 4] rfl) ?_
              exact j13 _ hF
        refine g_icmp hK 88 .ne (12) 100 (t1 := 91) (t2 := 100) (by decide +kernel) (by decide) rfl rfl (fun (hc49 : remv x2 2 = 1) => ?_) (fun (hc49 : ¬ (remv x2 2 = 1)) => ?_)
        · have hF := ite_t hc49 hF
          refine g_seg hK [.aload_n 1] 91 92 (L1 := [(3, vI (clv xs nn x2)), (0, vR 100), (1, vR 0), (2, vI x2)]) (st1 := [vR 0]) (h1 := h4) (P := True ∧ True) (by decide +kernel) rfl rfl ⟨trivial, trivial⟩ ?_
          obtain ⟨r50, h51, e52, hF⟩ := ob2_elim hF
          refine g_callS1 hK 92 72 (d1 := 7) (vs := [vR 0]) (rest := []) (h1 := h51) (r := vI r50) my_yL_isView sw_X9_72 (by decide) (T_L_isView (h := h4) (hF := e52)) rfl (Nat.le_of_ble_eq_true rfl) (by decide +kernel) ?_
          refine g_ifz hK 95 .ne (5) 100 (t1 := 98) (t2 := 100) (by decide +kernel) (by decide) rfl rfl (fun (hc53 : r50 = 0) => ?_) (fun (hc53 : ¬ (r50 = 0)) => ?_)
          · have hF := ite_t hc53 hF
            refine g_seg hK [.iconst 0] 98 99 (L1 := [(3, vI (clv xs nn x2)), (0, vR 100), (1, vR 0), (2, vI x2)]) (st1 := [vI 0]) (h1 := h51) (P := True ∧ True) (by decide +kernel) rfl rfl ⟨trivial, trivial⟩ ?_
            cases hF
            exact hR.2.1 99 _ _ _ (by decide +kernel) rfl (by decide) (hRet _ rfl)
          · have hF := ite_f hc53 hF
            refine hK.2.1 _ _ ([(0, vR 100), (1, vR 0), (2, vI x2), (3, vI (clv xs nn x2))]) _ _ (sub_of [1, 2, 3, 0] rfl) ?_
            exact j8 _ hF
        · have hF := ite_f hc49 hF
          refine hK.2.1 _ _ ([(0, vR 100), (1, vR 0), (2, vI x2), (3, vI (clv xs nn x2))]) _ _ (sub_of [1, 2, 3, 0] rfl) ?_
          exact j8 _ hF
    · have hF := ite_f hc1 hF
      cases hF
      exact hE _ rfl
set_option maxHeartbeats 4000000 in
set_option maxRecDepth 100000 in
theorem T_L_law {xs : Nat → Int32} {nn : Nat} {K : KT} (hK : Rules RX9 code 6 ret flX9 8 K) (hC : CELLR xs nn K) {h h' : MH} {r : Int} (hR : R_ret code ret (fun r2 h2 => r2 = some (vI r) ∧ h2 = h') K) (hF : F_L_law xs nn h = some (r, h')) : K 8 [(0, vR 100), (1, vR 0)] [] h := by
  unfold F_L_law at hF
  refine g_seg hK [.aload_n 1] 8 9 (L1 := [(0, vR 100), (1, vR 0)]) (st1 := [vR 0]) (h1 := h) (P := True ∧ True) (by decide +kernel) rfl rfl ⟨trivial, trivial⟩ ?_
  obtain ⟨r1, h2, e3, hF⟩ := ob2_elim hF
  refine g_callS1 hK 9 72 (d1 := 7) (vs := [vR 0]) (rest := []) (h1 := h2) (r := vI r1) my_yL_isView sw_X9_72 (by decide) (T_L_isView (h := h) (hF := e3)) rfl (Nat.le_of_ble_eq_true rfl) (by decide +kernel) ?_
  refine g_ifz hK 12 .eq (48) 60 (t1 := 60) (t2 := 15) (by decide +kernel) (by decide) rfl rfl (fun (hc4 : r1 = 0) => ?_) (fun (hc4 : ¬ (r1 = 0)) => ?_)
  · have hF := ite_t hc4 hF
    refine g_seg hK [.iconst 0] 60 61 (L1 := [(0, vR 100), (1, vR 0)]) (st1 := [vI 0]) (h1 := h2) (P := True ∧ True) (by decide +kernel) rfl rfl ⟨trivial, trivial⟩ ?_
    cases hF
    exact hR.2.1 61 _ _ _ (by decide +kernel) rfl (by decide) ⟨rfl, rfl⟩
  · have hF := ite_f hc4 hF
    refine g_seg hK [.aload_n 1, .bipush 14] 15 18 (L1 := [(0, vR 100), (1, vR 0)]) (st1 := [vI 14, vR 0]) (h1 := h2) (P := True ∧ True ∧ True) (by decide +kernel) rfl rfl ⟨trivial, trivial, trivial⟩ ?_
    obtain ⟨r5, h6, e7, hF⟩ := ob2_elim hF
    refine g_callV1 hK 18 8 (d1 := 6) (ci := 6) (i := 0) (vs := [vI 14]) (rest := []) (h1 := h6) (r := vI r5) my_yX6_count vw_X9_8 (by decide) (T_X_count (p1 := 14) (h := h2) (hF := e7)) rfl rfl rfl (Nat.le_of_ble_eq_true rfl) (by decide +kernel) ?_
    refine g_seg hK [.iconst 1] 21 22 (L1 := [(0, vR 100), (1, vR 0)]) (st1 := [vI 1, vI r5]) (h1 := h6) (P := True ∧ True) (by decide +kernel) rfl rfl ⟨trivial, trivial⟩ ?_
    refine g_icmp hK 22 .ne (38) 60 (t1 := 25) (t2 := 60) (by decide +kernel) (by decide) rfl rfl (fun (hc8 : r5 = 1) => ?_) (fun (hc8 : ¬ (r5 = 1)) => ?_)
    · have hF := ite_t hc8 hF
      refine g_seg hK [.aload_n 1, .bipush 15] 25 28 (L1 := [(0, vR 100), (1, vR 0)]) (st1 := [vI 15, vR 0]) (h1 := h6) (P := True ∧ True ∧ True) (by decide +kernel) rfl rfl ⟨trivial, trivial, trivial⟩ ?_
      obtain ⟨r9, h10, e11, hF⟩ := ob2_elim hF
      refine g_callV1 hK 28 8 (d1 := 6) (ci := 6) (i := 0) (vs := [vI 15]) (rest := []) (h1 := h10) (r := vI r9) my_yX6_count vw_X9_8 (by decide) (T_X_count (p1 := 15) (h := h6) (hF := e11)) rfl rfl rfl (Nat.le_of_ble_eq_true rfl) (by decide +kernel) ?_
      refine g_ifz hK 31 .ne (29) 60 (t1 := 34) (t2 := 60) (by decide +kernel) (by decide) rfl rfl (fun (hc12 : r9 = 0) => ?_) (fun (hc12 : ¬ (r9 = 0)) => ?_)
      · have hF := ite_t hc12 hF
        refine g_seg hK [.aload_n 1] 34 35 (L1 := [(0, vR 100), (1, vR 0)]) (st1 := [vR 0]) (h1 := h10) (P := True ∧ True) (by decide +kernel) rfl rfl ⟨trivial, trivial⟩ ?_
        obtain ⟨r13, h14, e15, hF⟩ := ob2_elim hF
        refine g_callV1 hK 35 57 (d1 := 5) (ci := 6) (i := 0) (vs := []) (rest := []) (h1 := h14) (r := vI r13) my_yX6_undo vw_X9_57 (by decide) (T_X_undo (h := h10) (hF := e15)) rfl rfl rfl (Nat.le_of_ble_eq_true rfl) (by decide +kernel) ?_
        refine g_seg hK [.bipush (-2)] 38 40 (L1 := [(0, vR 100), (1, vR 0)]) (st1 := [vI (-2), vI r13]) (h1 := h14) (P := True ∧ True) (by decide +kernel) rfl rfl ⟨trivial, trivial⟩ ?_
        refine g_icmp hK 40 .ne (20) 60 (t1 := 43) (t2 := 60) (by decide +kernel) (by decide) rfl rfl (fun (hc16 : r13 = (-2)) => ?_) (fun (hc16 : ¬ (r13 = (-2))) => ?_)
        · have hF := ite_t hc16 hF
          refine g_seg hK [.aload_n 1] 43 44 (L1 := [(0, vR 100), (1, vR 0)]) (st1 := [vR 0]) (h1 := h14) (P := True ∧ True) (by decide +kernel) rfl rfl ⟨trivial, trivial⟩ ?_
          obtain ⟨r17, h18, e19, hF⟩ := ob2_elim hF
          refine g_callV1 hK 44 51 (d1 := 6) (ci := 6) (i := 0) (vs := []) (rest := []) (h1 := h18) (r := vI r17) my_yX6_restore vw_X9_51 (by decide) (T_X_restore (h := h14) (hF := e19)) rfl rfl rfl (Nat.le_of_ble_eq_true rfl) (by decide +kernel) ?_
          refine g_seg hK [.bipush (-2)] 47 49 (L1 := [(0, vR 100), (1, vR 0)]) (st1 := [vI (-2), vI r17]) (h1 := h18) (P := True ∧ True) (by decide +kernel) rfl rfl ⟨trivial, trivial⟩ ?_
          refine g_icmp hK 49 .ne (11) 60 (t1 := 52) (t2 := 60) (by decide +kernel) (by decide) rfl rfl (fun (hc20 : r17 = (-2)) => ?_) (fun (hc20 : ¬ (r17 = (-2))) => ?_)
          · have hF := ite_t hc20 hF
            refine g_seg hK [.aload_n 1, .iconst 1] 52 54 (L1 := [(0, vR 100), (1, vR 0)]) (st1 := [vI 1, vR 0]) (h1 := h18) (P := True ∧ True ∧ True) (by decide +kernel) rfl rfl ⟨trivial, trivial, trivial⟩ ?_
            obtain ⟨r21, h22, e23, hF⟩ := ob2_elim hF
            refine g_callV1 hK 54 47 (d1 := 6) (ci := 6) (i := 0) (vs := [vI 1]) (rest := []) (h1 := h22) (r := vI r21) my_yX6_lay vw_X9_47 (by decide) (T_X_lay (p1 := 1) (h := h18) (hF := e23)) rfl rfl rfl (Nat.le_of_ble_eq_true rfl) (by decide +kernel) ?_
            refine g_ifz hK 57 .eq (5) 62 (t1 := 62) (t2 := 60) (by decide +kernel) (by decide) rfl rfl (fun (hc24 : r21 = 0) => ?_) (fun (hc24 : ¬ (r21 = 0)) => ?_)
            · have hF := ite_t hc24 hF
              refine g_seg hK [.iconst 0, .istore_n 2] 62 64 (L1 := [(2, vI 0), (0, vR 100), (1, vR 0)]) (st1 := []) (h1 := h22) (P := True ∧ True ∧ True) (by decide +kernel) rfl rfl ⟨trivial, trivial, trivial⟩ ?_
              refine hK.2.1 _ _ ([(0, vR 100), (1, vR 0), (2, vI 0)]) _ _ (sub_of [1, 2, 0] rfl) ?_
              obtain ⟨out29, e27, hr30, hx31⟩ := os_elim hF
              refine LT_L_law_L64 hK hC hR _ _ _ out29 e27 ?_ ?_
              · intro a ha
                have hF := hr30 a ha
                cases hF
                exact ⟨rfl, rfl⟩
              · intro q28 hq
                have hF := hx31 q28 hq
                refine g_seg hK [.iconst 1] 202 203 (L1 := [(0, vR 100), (1, vR 0), (2, vI q28.1)]) (st1 := [vI 1]) (h1 := q28.2) (P := True ∧ True) (by decide +kernel) rfl rfl ⟨trivial, trivial⟩ ?_
                cases hF
                exact hR.2.1 203 _ _ _ (by decide +kernel) rfl (by decide) ⟨rfl, rfl⟩
            · have hF := ite_f hc24 hF
              refine g_seg hK [.iconst 0] 60 61 (L1 := [(0, vR 100), (1, vR 0)]) (st1 := [vI 0]) (h1 := h22) (P := True ∧ True) (by decide +kernel) rfl rfl ⟨trivial, trivial⟩ ?_
              cases hF
              exact hR.2.1 61 _ _ _ (by decide +kernel) rfl (by decide) ⟨rfl, rfl⟩
          · have hF := ite_f hc20 hF
            refine g_seg hK [.iconst 0] 60 61 (L1 := [(0, vR 100), (1, vR 0)]) (st1 := [vI 0]) (h1 := h18) (P := True ∧ True) (by decide +kernel) rfl rfl ⟨trivial, trivial⟩ ?_
            cases hF
            exact hR.2.1 61 _ _ _ (by decide +kernel) rfl (by decide) ⟨rfl, rfl⟩
        · have hF := ite_f hc16 hF
          refine g_seg hK [.iconst 0] 60 61 (L1 := [(0, vR 100), (1, vR 0)]) (st1 := [vI 0]) (h1 := h14) (P := True ∧ True) (by decide +kernel) rfl rfl ⟨trivial, trivial⟩ ?_
          cases hF
          exact hR.2.1 61 _ _ _ (by decide +kernel) rfl (by decide) ⟨rfl, rfl⟩
      · have hF := ite_f hc12 hF
        refine g_seg hK [.iconst 0] 60 61 (L1 := [(0, vR 100), (1, vR 0)]) (st1 := [vI 0]) (h1 := h10) (P := True ∧ True) (by decide +kernel) rfl rfl ⟨trivial, trivial⟩ ?_
        cases hF
        exact hR.2.1 61 _ _ _ (by decide +kernel) rfl (by decide) ⟨rfl, rfl⟩
    · have hF := ite_f hc8 hF
      refine g_seg hK [.iconst 0] 60 61 (L1 := [(0, vR 100), (1, vR 0)]) (st1 := [vI 0]) (h1 := h6) (P := True ∧ True) (by decide +kernel) rfl rfl ⟨trivial, trivial⟩ ?_
      cases hF
      exact hR.2.1 61 _ _ _ (by decide +kernel) rfl (by decide) ⟨rfl, rfl⟩

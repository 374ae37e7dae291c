/-! ===== String.length, String.indexOf ===== -/
set_option maxRecDepth 100000 in
theorem my_yJ0_coder_7d493 : MY yJ0_coder_7d493 cJ0_coder_7d493 1 (Option.some Jvm.ClassFile.FieldType.byte) 0 := ⟨(tb_in 619 (by decide +kernel) (by decide +kernel)), (tb_in 29 (by decide +kernel) (by decide +kernel)), ⟨by decide +kernel, by decide +kernel, by decide +kernel⟩, by decide⟩
set_option maxRecDepth 100000 in
theorem vw_J0_335 : VW RJ0 335 yJ0_coder_7d493 := ⟨(tb_in 616 (by decide +kernel) (by decide +kernel)), (tb_in 617 (by decide +kernel) (by decide +kernel)), (tb_in 618 (by decide +kernel) (by decide +kernel))⟩
set_option maxRecDepth 100000 in
theorem fl_J0_9 : Cond.fieldLink RJ0 9 "java/lang/String" "value" "[B" ∈ TB := (tb_in 664 (by decide +kernel) (by decide +kernel))
set_option maxRecDepth 100000 in
theorem fl_J0_15 : Cond.fieldLink RJ0 15 "java/lang/String" "coder" "B" ∈ TB := (tb_in 665 (by decide +kernel) (by decide +kernel))
set_option maxRecDepth 100000 in
theorem fl_J0_38 : Cond.fieldLink RJ0 38 "java/lang/String" "COMPACT_STRINGS" "Z" ∈ TB := (tb_in 620 (by decide +kernel) (by decide +kernel))
theorem flok_J0 : flok RJ0 fl0 := flok_of (fun q hq => by cases hq)
theorem getD_out {α : Type} {l : List α} {i : Nat} {d : α} (h : l.length ≤ i) : l.getD i d = d := by
  rw [List.getD_eq_getElem?_getD, List.getElem?_eq_none h]
  rfl
/-- the bytes of the literal -/
def sgB (i : Nat) : Int := [97, 98, 99, 100, 101, 102, 46, 123, 125].getD i 0
theorem sgB_32 (i : Nat) : (([[97, 98, 99, 100, 101, 102, 46, 123, 125]] : List (List Int32)).getD 0 []).getD i 0 = Int32.ofInt (sgB i) := by
  unfold sgB
  by_cases h : i < 9
  · have key : (List.range 9).all (fun i => decide ((([[97, 98, 99, 100, 101, 102, 46, 123, 125]] : List (List Int32)).getD 0 []).getD i 0 = Int32.ofInt (([97, 98, 99, 100, 101, 102, 46, 123, 125] : List Int).getD i 0))) = true := by decide +kernel
    have k := List.all_eq_true.mp key i (List.mem_range.mpr h)
    rwa [decide_eq_true_eq] at k
  · have a : ([97, 98, 99, 100, 101, 102, 46, 123, 125] : List Int32).getD i 0 = 0 := getD_out (by show 9 ≤ i; omega)
    have b : ([97, 98, 99, 100, 101, 102, 46, 123, 125] : List Int).getD i 0 = 0 := getD_out (by show 9 ≤ i; omega)
    rw [b]
    exact a.trans (by decide)
theorem sgB_in (i : Nat) : inR (sgB i) := by
  unfold inR sgB
  by_cases h : i < 9
  · have key : (List.range 9).all (fun i => decide (-2147483648 ≤ ([97, 98, 99, 100, 101, 102, 46, 123, 125] : List Int).getD i 0 ∧ ([97, 98, 99, 100, 101, 102, 46, 123, 125] : List Int).getD i 0 ≤ 2147483647)) = true := by decide +kernel
    have k := List.all_eq_true.mp key i (List.mem_range.mpr h)
    rwa [decide_eq_true_eq] at k
  · rw [List.getD_eq_getElem?_getD, List.getElem?_eq_none (by show 9 ≤ i; omega)]
    decide
/-- what the literal answers to a judgement K -/
def SRules (own : String) (cc : ByteArray) (ret : Option FieldType) (Post : Option MV → MH → Prop) (K : KT) : Prop :=
  (∀ (pc idx : Nat) (L : ML) (st : List MV) (h : MH), Cond.fieldLink own idx "java/lang/String" "value" "[B" ∈ TB → dk cc pc (.getfield idx) 3 = true → K (pc + 3) L (vR 102 :: st) h → K pc L (vR 101 :: st) h) ∧
  (∀ (pc idx : Nat) (L : ML) (st : List MV) (h : MH), Cond.fieldLink own idx "java/lang/String" "coder" "B" ∈ TB → dk cc pc (.getfield idx) 3 = true → K (pc + 3) L (vI 0 :: st) h → K pc L (vR 101 :: st) h) ∧
  (∀ (pc idx : Nat) (L : ML) (st : List MV) (h : MH), Cond.fieldLink own idx "java/lang/String" "COMPACT_STRINGS" "Z" ∈ TB → dk cc pc (.getstatic idx) 3 = true → K (pc + 3) L (vI 1 :: st) h → K pc L st h) ∧
  (∀ (pc : Nat) (L : ML) (st : List MV) (h : MH), dk cc pc .arraylength 1 = true → K (pc + 1) L (vI 9 :: st) h → K pc L (vR 102 :: st) h) ∧
  (∀ (pc : Nat) (L : ML) (st : List MV) (h : MH) (j : Int), 0 ≤ j ∧ j < 9 → dk cc pc .baload 1 = true → K (pc + 1) L (vI (sgB j.toNat) :: st) h → K pc L (vI j :: vR 102 :: st) h) ∧
  (∀ (pc : Nat) (L : ML) (st : List MV) (h : MH) (x : Int), dk cc pc .ishr 1 = true → K (pc + 1) L (vI x :: st) h → K pc L (vI 0 :: vI x :: st) h) ∧
  (∀ (pc : Nat) (L : ML) (st : List MV) (h : MH) (x z : Int), (Int32.ofInt x).toInt8.toInt32 = Int32.ofInt z → inR z → dk cc pc .i2b 1 = true → K (pc + 1) L (vI z :: st) h → K pc L (vI x :: st) h) ∧
  (∀ (pc : Nat) (L : ML) (h : MH), dk cc pc .ireturn 1 = true → ret = some .byte → Post (some (vI 0)) h → K pc L [vI 0] h)
theorem con_ofS {own : String} {cc : ByteArray} {nL : Nat} {ret : Option FieldType} {fl : Nat → Option (Nat × Nat)} {d : Nat} {y : MethodName} {vs : List MV} {h : MH} {r : Option MV} {h' : MH} (hy : plainName y.cls = true) (hyo : y.cls = own) (hf : flok own fl) (hc : vs.all (fun v => !c2 v) = true) (hn : vs.length ≤ nL)
    (hK : ∀ K : KT, Rules own cc nL ret fl d K → R_ret cc ret (fun r' h2 => r' = r ∧ h2 = h') K → SRules own cc ret (fun r' h2 => r' = r ∧ h2 = h') K → K 0 (entL 0 vs) [] h) : CON d y cc nL ret vs h r h' := by
  intro l D cI cS ad hov
  refine Met.ofW hy rfl ?_
  intro p e s m args below meth c s₁ B hml hv
  obtain ⟨rfl, hw, hKK, hE⟩ := hv
  have hx := B.exec
  have hb := B.bytes
  have hr := B.returns
  have hts := atoms_spec (ws := Cond.code y cc nL ret :: TB) B.pre
  have hown : s.vm.findClass own = some m.cls := by rw [← hyo]; exact findClass_of_methodNamed B.named
  have hlocks := B.notSynchronized
  have hX : CX own cc nL ret p s m (vs.map (tv ad)).toArray meth c D cI cS ad (inA ad) := ⟨hx, hb, hml, hr, hown, fun w hw => hts w (List.mem_cons_of_mem _ hw), hKK, hlocks, hE⟩
  have hM : RMX d (headSpec (Cond.code y cc nL ret :: TB) (rmd d)).room 0 0 := ⟨Nat.le_refl _, Nat.le_refl _, Nat.le_refl _, Nat.le_refl _⟩
  have hRu := rules_ok (l := l) (e := e) (below := below) (Q := MQ below (QM D cI cS ad r h') (vs.map (tv ad)).toArray s 0 0 (inA ad)) hX hM hf
  rw [lg_entry_eq]
  have hl := lv_entry (vs.map (tv ad)) (n := nL) (by rw [entL_len ad vs hc]; exact hn)
  generalize (lg_sl (vs.map (tv ad)) ++ List.replicate (nL - (lg_sl (vs.map (tv ad))).length) Slot.unset).toArray = ls at hl ⊢
  rw [entL_args ad vs 0 hc] at hl
  have hS1 := hE.2.1.1 0 (by decide)
  refine hK _ hRu ?_ ?_ (entL_ok vs 0 hov) (fun v hv => by cases hv) s.heap ls [] hw va_S.rf hl
  · refine ⟨?_, ?_, ?_, ?_, ?_⟩
    · intro pc L h z hd hr2 ⟨e1, e2⟩ hoL hoS H ls locs hw hS hl
      subst e1; subst e2
      exact W.iret hx hb (by rw [hr, hr2]) (fun t ht hW => ⟨rfl, fun v hv => by cases hv; exact hoS _ List.mem_cons_self, by rw [ht]; exact hw, hS.F ht⟩) hS.2.2 (dk_eq hd)
    · intro pc L h z hd hr2 hz ⟨e1, e2⟩ hoL hoS H ls locs hw hS hl
      subst e1; subst e2
      exact W.zret (ty := .boolean) hx hb (by rw [hr, hr2]) (by rcases hz with rfl | rfl <;> decide) (fun t ht hW => ⟨rfl, fun v hv => by cases hv; exact hoS _ List.mem_cons_self, by rw [ht]; exact hw, hS.F ht⟩) hS.2.2 (dk_eq hd)
    · intro pc L h o hd hr2 ⟨e1, e2⟩ hoL hoS H ls locs hw hS hl
      subst e1; subst e2
      obtain ⟨n, hr2⟩ := hr2
      refine W.aret (v := tv ad (vO o)) (rt := .object n) hx hb (by rw [hr, hr2]) (Or.inl ⟨n, rfl⟩) ?_ (fun t ht hW => ⟨rfl, fun v hv => by cases hv; exact trivial, by rw [ht]; exact hw, hS.F ht⟩) hS.2.2 (dk_eq hd)
      cases o with
      | none => exact Or.inl rfl
      | some i => exact Or.inr ⟨_, rfl⟩
    · intro pc L h z hd hr2 ⟨e1, e2⟩ hoL hoS H ls locs hw hS hl
      subst e1; subst e2
      exact W.dret hx hb (by rw [hr, hr2]) (fun t ht hW => ⟨rfl, fun v hv => by cases hv; exact trivial, by rw [ht]; exact hw, hS.F ht⟩) hS.2.2 (dk_eq hd)
    · intro pc L h hd hr2 ⟨e1, e2⟩ hoL hoS H ls locs hw hS hl
      subst e1; subst e2
      exact W.vret hx hb (by rw [hr, hr2]) (fun t ht hW => ⟨rfl, fun v hv => (by cases hv), by rw [ht]; exact hw, hS.F ht⟩) hS.2.2 (dk_eq hd)
  · refine ⟨?_, ?_, ?_, ?_, ?_, ?_, ?_, ?_⟩
    · intro pc idx L st h hlk hd hk hoL hoS H ls locs hw hS hl
      have hoR : ∀ v ∈ st, okV v := fun v hv => hoS v (List.mem_cons_of_mem _ hv)
      exact vk_getf hx hb hS1.2.2.1 hS hown (hts _ (List.mem_cons_of_mem _ hlk)) (fun _ z => z) (dk_eq hd) (hk hoL (okc (v := vR 102) trivial hoR) H ls locs hw hS hl)
    · intro pc idx L st h hlk hd hk hoL hoS H ls locs hw hS hl
      have hoR : ∀ v ∈ st, okV v := fun v hv => hoS v (List.mem_cons_of_mem _ hv)
      exact vk_getf hx hb hS1.2.1 hS hown (hts _ (List.mem_cons_of_mem _ hlk)) (fun _ z => z) (dk_eq hd) (hk hoL (okc (v := vI 0) (by show inR 0; unfold inR; omega) hoR) H ls locs hw hS hl)
    · intro pc idx L st h hlk hd hk hoL hoS H ls locs hw hS hl
      exact va_gets hx hb hE.2.2 hS hown (hts _ (List.mem_cons_of_mem _ hlk)) (fun _ z => z) (dk_eq hd) (hk hoL (okc (v := vI 1) (by show inR 1; unfold inR; omega) hoS) H ls locs hw hS hl)
    · intro pc L st h hd hk hoL hoS H ls locs hw hS hl
      have hoR : ∀ v ∈ st, okV v := fun v hv => hoS v (List.mem_cons_of_mem _ hv)
      exact va_tlen hx hb hS1.2.2.2 hS (v := Int32.ofInt 9) rfl (dk_eq hd) (hk hoL (okc (v := vI 9) (by show inR 9; unfold inR; omega) hoR) H ls locs hw hS hl)
    · intro pc L st h j hj hd hk hoL hoS H ls locs hw hS hl
      have hjR : inR j := hoS (vI j) List.mem_cons_self
      have hoR : ∀ v ∈ st, okV v := fun v hv => hoS v (List.mem_cons_of_mem _ (List.mem_cons_of_mem _ hv))
      refine va_tb hx hb hS1.2.2.2 hS (i := Int32.ofInt j) (oi_in hjR hj) (v := .int (Int32.ofInt (sgB j.toNat))) ?_ (dk_eq hd) (hk hoL (okc (v := vI (sgB j.toNat)) (sgB_in _) hoR) H ls locs hw hS hl)
      rw [oi_clamp hj.1 hjR]
      exact congrArg Value.int (sgB_32 _)
    · intro pc L st h x hd hk hoL hoS H ls locs hw hS hl
      have hxR : inR x := hoS (vI x) (List.mem_cons_of_mem _ List.mem_cons_self)
      have hoR : ∀ v ∈ st, okV v := fun v hv => hoS v (List.mem_cons_of_mem _ (List.mem_cons_of_mem _ hv))
      have k9 := hk hoL (okc (v := vI x) hxR hoR) H ls locs hw hS hl
      refine lv_ishr hx hb (dk_eq hd) ?_
      have e9 : Int32.ofInt x >>> (Int32.ofInt 0 &&& 31) = Int32.ofInt x := by
        rw [show (Int32.ofInt 0 &&& 31) = 0 by decide]
        first
          | exact Int32.shiftRight_zero
          | simp
      rw [e9]
      exact k9
    · intro pc L st h x z hz hzR hd hk hoL hoS H ls locs hw hS hl
      have hoR : ∀ v ∈ st, okV v := fun v hv => hoS v (List.mem_cons_of_mem _ hv)
      exact lv_i2b hx hb (dk_eq hd) hz (hk hoL (okc (v := vI z) hzR hoR) H ls locs hw hS hl)
    · intro pc L h hd hr2 ⟨e1, e2⟩ hoL hoS H ls locs hw hS hl
      subst e1; subst e2
      exact W.zret (ty := .byte) hx hb (by rw [hr, hr2]) (by decide) (fun t ht hW => ⟨rfl, fun v hv => by cases hv; exact hoS _ List.mem_cons_self, by rw [ht]; exact hw, hS.F ht⟩) hS.2.2 (dk_eq hd)
set_option maxHeartbeats 4000000 in
set_option maxRecDepth 100000 in
theorem T_S_coder (h : MH) : CON 0 yJ0_coder_7d493 cJ0_coder_7d493 1 (Option.some Jvm.ClassFile.FieldType.byte) [vR 101] h (some (vI 0)) h := by
  refine con_ofS (own := RJ0) (fl := fl0) (by decide +kernel) rfl flok_J0 rfl (Nat.le_of_ble_eq_true rfl) ?_
  intro K hK hR hS
  show K 0 [(0, vR 101)] [] h
  refine hS.2.2.1 0 38 _ _ _ fl_J0_38 (by decide +kernel) ?_
  refine g_ifz hK 3 .eq (10) 13 (t1 := 13) (t2 := 6) (by decide +kernel) (by decide) rfl rfl (fun (hc : (1 : Int) = 0) => absurd hc (by decide)) (fun _ => ?_)
  refine g_seg hK [.aload_n 0] 6 7 (L1 := [(0, vR 101)]) (st1 := [vR 101]) (h1 := h) (P := True ∧ True) (by decide +kernel) rfl rfl ⟨trivial, trivial⟩ ?_
  refine hS.2.1 7 15 _ _ _ fl_J0_15 (by decide +kernel) ?_
  refine g_goto hK 10 4 14 (by decide +kernel) (by decide) ?_
  exact hS.2.2.2.2.2.2.2 14 _ _ (by decide +kernel) rfl ⟨rfl, rfl⟩
set_option maxHeartbeats 4000000 in
set_option maxRecDepth 100000 in
theorem T_S_length (h : MH) : CON 1 yJ0_length_8abf5 cJ0_length_8abf5 1 (Option.some Jvm.ClassFile.FieldType.int) [vR 101] h (some (vI sg_length)) h := by
  refine con_ofS (own := RJ0) (fl := fl0) (by decide +kernel) rfl flok_J0 rfl (Nat.le_of_ble_eq_true rfl) ?_
  intro K hK hR hS
  show K 0 [(0, vR 101)] [] h
  refine g_seg hK [.aload_n 0] 0 1 (L1 := [(0, vR 101)]) (st1 := [vR 101]) (h1 := h) (P := True ∧ True) (by decide +kernel) rfl rfl ⟨trivial, trivial⟩ ?_
  refine hS.1 1 9 _ _ _ fl_J0_9 (by decide +kernel) ?_
  refine hS.2.2.2.1 4 _ _ _ (by decide +kernel) ?_
  refine g_seg hK [.aload_n 0] 5 6 (L1 := [(0, vR 101)]) (st1 := [vR 101, vI 9]) (h1 := h) (P := True ∧ True) (by decide +kernel) rfl rfl ⟨trivial, trivial⟩ ?_
  refine g_callG1 hK 6 335 (d1 := 0) (vs := []) (rest := [vI 9]) (r := vI 0) rfl my_yJ0_coder_7d493 vw_J0_335 (by decide) (T_S_coder h) rfl (Nat.le_of_ble_eq_true rfl) (by decide +kernel) ?_
  refine hS.2.2.2.2.2.1 9 _ _ _ _ (by decide +kernel) ?_
  exact hR.1 10 _ _ _ (by decide +kernel) rfl ⟨rfl, rfl⟩

/-! ===== String.length, String.indexOf ===== -/
set_option maxRecDepth 100000 in
theorem my_yJ0_indexOf_7cf53 : MY yJ0_indexOf_7cf53 cJ0_indexOf_7cf53 3 (Option.some Jvm.ClassFile.FieldType.int) 2 := ⟨(tb_in 280 (by decide +kernel) (by decide +kernel)), (tb_in 60 (by decide +kernel) (by decide +kernel)), ⟨by decide +kernel, by decide +kernel, by decide +kernel⟩, by decide⟩
set_option maxRecDepth 100000 in
theorem my_yJ0_isLatin1_aae02 : MY yJ0_isLatin1_aae02 cJ0_isLatin1_aae02 1 (Option.some Jvm.ClassFile.FieldType.boolean) 0 := ⟨(tb_in 284 (by decide +kernel) (by decide +kernel)), (tb_in 60 (by decide +kernel) (by decide +kernel)), ⟨by decide +kernel, by decide +kernel, by decide +kernel⟩, by decide⟩
set_option maxRecDepth 100000 in
theorem my_yJ0_coder_7d493 : MY yJ0_coder_7d493 cJ0_coder_7d493 1 (Option.some Jvm.ClassFile.FieldType.byte) 0 := ⟨(tb_in 294 (by decide +kernel) (by decide +kernel)), (tb_in 60 (by decide +kernel) (by decide +kernel)), ⟨by decide +kernel, by decide +kernel, by decide +kernel⟩, by decide⟩
set_option maxRecDepth 100000 in
theorem my_yJ1_indexOf_4cfef : MY yJ1_indexOf_4cfef cJ1_indexOf_4cfef 4 (Option.some Jvm.ClassFile.FieldType.int) 4 := ⟨(tb_in 297 (by decide +kernel) (by decide +kernel)), (tb_in 61 (by decide +kernel) (by decide +kernel)), ⟨by decide +kernel, by decide +kernel, by decide +kernel⟩, by decide⟩
set_option maxRecDepth 100000 in
theorem my_yJ1_canEncode_9a6ad : MY yJ1_canEncode_9a6ad cJ1_canEncode_9a6ad 1 (Option.some Jvm.ClassFile.FieldType.boolean) 1 := ⟨(tb_in 300 (by decide +kernel) (by decide +kernel)), (tb_in 61 (by decide +kernel) (by decide +kernel)), ⟨by decide +kernel, by decide +kernel, by decide +kernel⟩, by decide⟩
set_option maxRecDepth 100000 in
theorem my_yJ1_indexOfChar_4cfef : MY yJ1_indexOfChar_4cfef cJ1_indexOfChar_4cfef 6 (Option.some Jvm.ClassFile.FieldType.int) 4 := ⟨(tb_in 309 (by decide +kernel) (by decide +kernel)), (tb_in 61 (by decide +kernel) (by decide +kernel)), ⟨by decide +kernel, by decide +kernel, by decide +kernel⟩, by decide⟩
set_option maxRecDepth 100000 in
theorem vw_J0_335 : VW RJ0 335 yJ0_coder_7d493 := ⟨(tb_in 291 (by decide +kernel) (by decide +kernel)), (tb_in 292 (by decide +kernel) (by decide +kernel)), (tb_in 293 (by decide +kernel) (by decide +kernel))⟩
set_option maxRecDepth 100000 in
theorem vw_J0_633 : VW RJ0 633 yJ0_indexOf_7cf53 := ⟨(tb_in 277 (by decide +kernel) (by decide +kernel)), (tb_in 278 (by decide +kernel) (by decide +kernel)), (tb_in 279 (by decide +kernel) (by decide +kernel))⟩
set_option maxRecDepth 100000 in
theorem vw_J0_492 : VW RJ0 492 yJ0_isLatin1_aae02 := ⟨(tb_in 281 (by decide +kernel) (by decide +kernel)), (tb_in 282 (by decide +kernel) (by decide +kernel)), (tb_in 283 (by decide +kernel) (by decide +kernel))⟩
set_option maxRecDepth 100000 in
theorem vw_J0_505 : VW RJ0 505 yJ0_length_8abf5 := ⟨(tb_in 287 (by decide +kernel) (by decide +kernel)), (tb_in 288 (by decide +kernel) (by decide +kernel)), (tb_in 289 (by decide +kernel) (by decide +kernel))⟩
set_option maxRecDepth 100000 in
theorem sw_J0_637 : SW RJ0 637 yJ1_indexOf_4cfef := ⟨(tb_in 295 (by decide +kernel) (by decide +kernel)), (tb_in 296 (by decide +kernel) (by decide +kernel))⟩
set_option maxRecDepth 100000 in
theorem sw_J1_88 : SW RJ1 88 yJ1_canEncode_9a6ad := ⟨(tb_in 298 (by decide +kernel) (by decide +kernel)), (tb_in 299 (by decide +kernel) (by decide +kernel))⟩
set_option maxRecDepth 100000 in
theorem sw_J1_95 : SW RJ1 95 yJ1_indexOfChar_4cfef := ⟨(tb_in 307 (by decide +kernel) (by decide +kernel)), (tb_in 308 (by decide +kernel) (by decide +kernel))⟩
set_option maxRecDepth 100000 in
theorem mw_J1_92 : MW RJ1 92 Lib.Math.max.name Lib.Math.max.code := ⟨(tb_in 301 (by decide +kernel) (by decide +kernel)), (tb_in 302 (by decide +kernel) (by decide +kernel)), (tb_in 62 (by decide +kernel) (by decide +kernel)), (tb_in 303 (by decide +kernel) (by decide +kernel))⟩
set_option maxRecDepth 100000 in
theorem mw_J1_38 : MW RJ1 38 Lib.Math.min.name Lib.Math.min.code := ⟨(tb_in 304 (by decide +kernel) (by decide +kernel)), (tb_in 305 (by decide +kernel) (by decide +kernel)), (tb_in 62 (by decide +kernel) (by decide +kernel)), (tb_in 306 (by decide +kernel) (by decide +kernel))⟩
set_option maxRecDepth 100000 in
theorem fl_J0_9 : Cond.fieldLink RJ0 9 "java/lang/String" "value" "[B" ∈ TB := (tb_in 1048 (by decide +kernel) (by decide +kernel))
set_option maxRecDepth 100000 in
theorem fl_J0_15 : Cond.fieldLink RJ0 15 "java/lang/String" "coder" "B" ∈ TB := (tb_in 1047 (by decide +kernel) (by decide +kernel))
set_option maxRecDepth 100000 in
theorem fl_J0_38 : Cond.fieldLink RJ0 38 "java/lang/String" "COMPACT_STRINGS" "Z" ∈ TB := (tb_in 285 (by decide +kernel) (by decide +kernel))
theorem flok_J0 : flok RJ0 fl0 := flok_of (fun q hq => by cases hq)
theorem flok_J1 : flok RJ1 fl0 := flok_of (fun q hq => by cases hq)
theorem getD_out {α : Type} {l : List α} {i : Nat} {d : α} (h : l.length ≤ i) : l.getD i d = d := by
  rw [List.getD_eq_getElem?_getD, List.getElem?_eq_none h]
  rfl
/-- the bytes of the literal -/
def sgB (i : Nat) : Int := [97, 98, 99, 100, 101, 102, 46, 123, 125].getD i 0
theorem sgB_32 (i : Nat) : (([[97, 98, 99, 100, 101, 102, 46, 123, 125]] : List (List Int32)).getD 0 []).getD i 0 = Int32.ofInt (sgB i) := by
  unfold sgB
  by_cases h : i < 9
  · have key : (List.range 9).all (fun i => decide ((([[97, 98, 99, 100, 101, 102, 46, 123, 125]] : List (List Int32)).getD 0 []).getD i 0 = Int32.ofInt (([97, 98, 99, 100, 101, 102, 46, 123, 125] : List Int).getD i 0))) = true := by decide +kernel
    have k := List.all_eq_true.mp key i (List.mem_range.mpr h)
    rwa [decide_eq_true_eq] at k
  · have a : ([97, 98, 99, 100, 101, 102, 46, 123, 125] : List Int32).getD i 0 = 0 := getD_out (by show 9 ≤ i; omega)
    have b : ([97, 98, 99, 100, 101, 102, 46, 123, 125] : List Int).getD i 0 = 0 := getD_out (by show 9 ≤ i; omega)
    rw [b]
    exact a.trans (by decide)
theorem sgB_in (i : Nat) : inR (sgB i) := by
  unfold inR sgB
  by_cases h : i < 9
  · have key : (List.range 9).all (fun i => decide (-2147483648 ≤ ([97, 98, 99, 100, 101, 102, 46, 123, 125] : List Int).getD i 0 ∧ ([97, 98, 99, 100, 101, 102, 46, 123, 125] : List Int).getD i 0 ≤ 2147483647)) = true := by decide +kernel
    have k := List.all_eq_true.mp key i (List.mem_range.mpr h)
    rwa [decide_eq_true_eq] at k
  · rw [List.getD_eq_getElem?_getD, List.getElem?_eq_none (by show 9 ≤ i; omega)]
    decide
/-- what the literal answers to a judgement K -/
def SRules (own : String) (cc : ByteArray) (ret : Option FieldType) (Post : Option MV → MH → Prop) (K : KT) : Prop :=
  (∀ (pc idx : Nat) (L : ML) (st : List MV) (h : MH), Cond.fieldLink own idx "java/lang/String" "value" "[B" ∈ TB → dk cc pc (.getfield idx) 3 = true → K (pc + 3) L (vR 102 :: st) h → K pc L (vR 101 :: st) h) ∧
  (∀ (pc idx : Nat) (L : ML) (st : List MV) (h : MH), Cond.fieldLink own idx "java/lang/String" "coder" "B" ∈ TB → dk cc pc (.getfield idx) 3 = true → K (pc + 3) L (vI 0 :: st) h → K pc L (vR 101 :: st) h) ∧
  (∀ (pc idx : Nat) (L : ML) (st : List MV) (h : MH), Cond.fieldLink own idx "java/lang/String" "COMPACT_STRINGS" "Z" ∈ TB → dk cc pc (.getstatic idx) 3 = true → K (pc + 3) L (vI 1 :: st) h → K pc L st h) ∧
  (∀ (pc : Nat) (L : ML) (st : List MV) (h : MH), dk cc pc .arraylength 1 = true → K (pc + 1) L (vI 9 :: st) h → K pc L (vR 102 :: st) h) ∧
  (∀ (pc : Nat) (L : ML) (st : List MV) (h : MH) (j : Int), 0 ≤ j ∧ j < 9 → dk cc pc .baload 1 = true → K (pc + 1) L (vI (sgB j.toNat) :: st) h → K pc L (vI j :: vR 102 :: st) h) ∧
  (∀ (pc : Nat) (L : ML) (st : List MV) (h : MH) (x : Int), dk cc pc .ishr 1 = true → K (pc + 1) L (vI x :: st) h → K pc L (vI 0 :: vI x :: st) h) ∧
  (∀ (pc : Nat) (L : ML) (st : List MV) (h : MH) (x z : Int), (Int32.ofInt x).toInt8.toInt32 = Int32.ofInt z → inR z → dk cc pc .i2b 1 = true → K (pc + 1) L (vI z :: st) h → K pc L (vI x :: st) h) ∧
  (∀ (pc : Nat) (L : ML) (h : MH), dk cc pc .ireturn 1 = true → ret = some .byte → Post (some (vI 0)) h → K pc L [vI 0] h)
theorem con_ofS {own : String} {cc : ByteArray} {nL : Nat} {ret : Option FieldType} {fl : Nat → Option (Nat × Nat)} {d : Nat} {y : MethodName} {vs : List MV} {h : MH} {r : Option MV} {h' : MH} (hy : plainName y.cls = true) (hyo : y.cls = own) (hf : flok own fl) (hc : vs.all (fun v => !c2 v) = true) (hn : vs.length ≤ nL)
    (hK : ∀ K : KT, Rules own cc nL ret fl d K → R_ret cc ret (fun r' h2 => r' = r ∧ h2 = h') K → SRules own cc ret (fun r' h2 => r' = r ∧ h2 = h') K → K 0 (entL 0 vs) [] h) : CON d y cc nL ret vs h r h' := by
  intro l D cI cS ad hov
  refine Met.ofW hy rfl ?_
  intro p e s m args below meth c s₁ B hml hv
  obtain ⟨rfl, hw, hKK, hE⟩ := hv
  have hx := B.exec
  have hb := B.bytes
  have hr := B.returns
  have hts := atoms_spec (ws := Cond.code y cc nL ret :: TB) B.pre
  have hown : s.vm.findClass own = some m.cls := by rw [← hyo]; exact findClass_of_methodNamed B.named
  have hlocks := B.notSynchronized
  have hX : CX own cc nL ret p s m (vs.map (tv ad)).toArray meth c D cI cS ad (inA ad) := ⟨hx, hb, hml, hr, hown, fun w hw => hts w (List.mem_cons_of_mem _ hw), hKK, hlocks, hE⟩
  have hM : RMX d (headSpec (Cond.code y cc nL ret :: TB) (rmd d)).room 0 0 := ⟨Nat.le_refl _, Nat.le_refl _, Nat.le_refl _, Nat.le_refl _⟩
  have hRu := rules_ok (l := l) (e := e) (below := below) (Q := MQ below (QM D cI cS ad r h') (vs.map (tv ad)).toArray s 0 0 (inA ad)) hX hM hf
  rw [lg_entry_eq]
  have hl := lv_entry (vs.map (tv ad)) (n := nL) (by rw [entL_len ad vs hc]; exact hn)
  generalize (lg_sl (vs.map (tv ad)) ++ List.replicate (nL - (lg_sl (vs.map (tv ad))).length) Slot.unset).toArray = ls at hl ⊢
  rw [entL_args ad vs 0 hc] at hl
  have hS1 := hE.2.1.1 0 (by decide)
  refine hK _ hRu ?_ ?_ (entL_ok vs 0 hov) (fun v hv => by cases hv) s.heap ls [] hw va_S.rf hl
  · refine ⟨?_, ?_, ?_, ?_, ?_⟩
    · intro pc L h z hd hr2 ⟨e1, e2⟩ hoL hoS H ls locs hw hS hl
      subst e1; subst e2
      exact W.iret hx hb (by rw [hr, hr2]) (fun t ht hW => ⟨rfl, fun v hv => by cases hv; exact hoS _ List.mem_cons_self, by rw [ht]; exact hw, hS.F ht⟩) hS.2.2 (dk_eq hd)
    · intro pc L h z hd hr2 hz ⟨e1, e2⟩ hoL hoS H ls locs hw hS hl
      subst e1; subst e2
      exact W.zret (ty := .boolean) hx hb (by rw [hr, hr2]) (by rcases hz with rfl | rfl <;> decide) (fun t ht hW => ⟨rfl, fun v hv => by cases hv; exact hoS _ List.mem_cons_self, by rw [ht]; exact hw, hS.F ht⟩) hS.2.2 (dk_eq hd)
    · intro pc L h o hd hr2 ⟨e1, e2⟩ hoL hoS H ls locs hw hS hl
      subst e1; subst e2
      obtain ⟨n, hr2⟩ := hr2
      refine W.aret (v := tv ad (vO o)) (rt := .object n) hx hb (by rw [hr, hr2]) (Or.inl ⟨n, rfl⟩) ?_ (fun t ht hW => ⟨rfl, fun v hv => by cases hv; exact trivial, by rw [ht]; exact hw, hS.F ht⟩) hS.2.2 (dk_eq hd)
      cases o with
      | none => exact Or.inl rfl
      | some i => exact Or.inr ⟨_, rfl⟩
    · intro pc L h z hd hr2 ⟨e1, e2⟩ hoL hoS H ls locs hw hS hl
      subst e1; subst e2
      exact W.dret hx hb (by rw [hr, hr2]) (fun t ht hW => ⟨rfl, fun v hv => by cases hv; exact trivial, by rw [ht]; exact hw, hS.F ht⟩) hS.2.2 (dk_eq hd)
    · intro pc L h hd hr2 ⟨e1, e2⟩ hoL hoS H ls locs hw hS hl
      subst e1; subst e2
      exact W.vret hx hb (by rw [hr, hr2]) (fun t ht hW => ⟨rfl, fun v hv => (by cases hv), by rw [ht]; exact hw, hS.F ht⟩) hS.2.2 (dk_eq hd)
  · refine ⟨?_, ?_, ?_, ?_, ?_, ?_, ?_, ?_⟩
    · intro pc idx L st h hlk hd hk hoL hoS H ls locs hw hS hl
      have hoR : ∀ v ∈ st, okV v := fun v hv => hoS v (List.mem_cons_of_mem _ hv)
      exact vk_getf hx hb hS1.2.2.1 hS hown (hts _ (List.mem_cons_of_mem _ hlk)) (fun _ z => z) (dk_eq hd) (hk hoL (okc (v := vR 102) trivial hoR) H ls locs hw hS hl)
    · intro pc idx L st h hlk hd hk hoL hoS H ls locs hw hS hl
      have hoR : ∀ v ∈ st, okV v := fun v hv => hoS v (List.mem_cons_of_mem _ hv)
      exact vk_getf hx hb hS1.2.1 hS hown (hts _ (List.mem_cons_of_mem _ hlk)) (fun _ z => z) (dk_eq hd) (hk hoL (okc (v := vI 0) (by show inR 0; unfold inR; omega) hoR) H ls locs hw hS hl)
    · intro pc idx L st h hlk hd hk hoL hoS H ls locs hw hS hl
      exact va_gets hx hb hE.2.2 hS hown (hts _ (List.mem_cons_of_mem _ hlk)) (fun _ z => z) (dk_eq hd) (hk hoL (okc (v := vI 1) (by show inR 1; unfold inR; omega) hoS) H ls locs hw hS hl)
    · intro pc L st h hd hk hoL hoS H ls locs hw hS hl
      have hoR : ∀ v ∈ st, okV v := fun v hv => hoS v (List.mem_cons_of_mem _ hv)
      exact va_tlen hx hb hS1.2.2.2 hS (v := Int32.ofInt 9) rfl (dk_eq hd) (hk hoL (okc (v := vI 9) (by show inR 9; unfold inR; omega) hoR) H ls locs hw hS hl)
    · intro pc L st h j hj hd hk hoL hoS H ls locs hw hS hl
      have hjR : inR j := hoS (vI j) List.mem_cons_self
      have hoR : ∀ v ∈ st, okV v := fun v hv => hoS v (List.mem_cons_of_mem _ (List.mem_cons_of_mem _ hv))
      refine va_tb hx hb hS1.2.2.2 hS (i := Int32.ofInt j) (oi_in hjR hj) (v := .int (Int32.ofInt (sgB j.toNat))) ?_ (dk_eq hd) (hk hoL (okc (v := vI (sgB j.toNat)) (sgB_in _) hoR) H ls locs hw hS hl)
      rw [oi_clamp hj.1 hjR]
      exact congrArg Value.int (sgB_32 _)
    · intro pc L st h x hd hk hoL hoS H ls locs hw hS hl
      have hxR : inR x := hoS (vI x) (List.mem_cons_of_mem _ List.mem_cons_self)
      have hoR : ∀ v ∈ st, okV v := fun v hv => hoS v (List.mem_cons_of_mem _ (List.mem_cons_of_mem _ hv))
      have k9 := hk hoL (okc (v := vI x) hxR hoR) H ls locs hw hS hl
      refine lv_ishr hx hb (dk_eq hd) ?_
      have e9 : Int32.ofInt x >>> (Int32.ofInt 0 &&& 31) = Int32.ofInt x := by
        rw [show (Int32.ofInt 0 &&& 31) = 0 by decide]
        first
          | exact Int32.shiftRight_zero
          | simp
      rw [e9]
      exact k9
    · intro pc L st h x z hz hzR hd hk hoL hoS H ls locs hw hS hl
      have hoR : ∀ v ∈ st, okV v := fun v hv => hoS v (List.mem_cons_of_mem _ hv)
      exact lv_i2b hx hb (dk_eq hd) hz (hk hoL (okc (v := vI z) hzR hoR) H ls locs hw hS hl)
    · intro pc L h hd hr2 ⟨e1, e2⟩ hoL hoS H ls locs hw hS hl
      subst e1; subst e2
      exact W.zret (ty := .byte) hx hb (by rw [hr, hr2]) (by decide) (fun t ht hW => ⟨rfl, fun v hv => by cases hv; exact hoS _ List.mem_cons_self, by rw [ht]; exact hw, hS.F ht⟩) hS.2.2 (dk_eq hd)
set_option maxHeartbeats 4000000 in
set_option maxRecDepth 100000 in
theorem T_S_coder (h : MH) : CON 0 yJ0_coder_7d493 cJ0_coder_7d493 1 (Option.some Jvm.ClassFile.FieldType.byte) [vR 101] h (some (vI 0)) h := by
  refine con_ofS (own := RJ0) (fl := fl0) (by decide +kernel) rfl flok_J0 rfl (Nat.le_of_ble_eq_true rfl) ?_
  intro K hK hR hS
  show K 0 [(0, vR 101)] [] h
  refine hS.2.2.1 0 38 _ _ _ fl_J0_38 (by decide +kernel) ?_
  refine g_ifz hK 3 .eq (10) 13 (t1 := 13) (t2 := 6) (by decide +kernel) (by decide) rfl rfl (fun (hc : (1 : Int) = 0) => absurd hc (by decide)) (fun _ => ?_)
  refine g_seg hK [.aload_n 0] 6 7 (L1 := [(0, vR 101)]) (st1 := [vR 101]) (h1 := h) (P := True ∧ True) (by decide +kernel) rfl rfl ⟨trivial, trivial⟩ ?_
  refine hS.2.1 7 15 _ _ _ fl_J0_15 (by decide +kernel) ?_
  refine g_goto hK 10 4 14 (by decide +kernel) (by decide) ?_
  exact hS.2.2.2.2.2.2.2 14 _ _ (by decide +kernel) rfl ⟨rfl, rfl⟩
set_option maxHeartbeats 4000000 in
set_option maxRecDepth 100000 in
theorem T_S_isLatin1 (h : MH) : CON 0 yJ0_isLatin1_aae02 cJ0_isLatin1_aae02 1 (Option.some Jvm.ClassFile.FieldType.boolean) [vR 101] h (some (vI 1)) h := by
  refine con_ofS (own := RJ0) (fl := fl0) (by decide +kernel) rfl flok_J0 rfl (Nat.le_of_ble_eq_true rfl) ?_
  intro K hK hR hS
  show K 0 [(0, vR 101)] [] h
  refine hS.2.2.1 0 38 _ _ _ fl_J0_38 (by decide +kernel) ?_
  refine g_ifz hK 3 .eq (14) 17 (t1 := 17) (t2 := 6) (by decide +kernel) (by decide) rfl rfl (fun (hc : (1 : Int) = 0) => absurd hc (by decide)) (fun _ => ?_)
  refine g_seg hK [.aload_n 0] 6 7 (L1 := [(0, vR 101)]) (st1 := [vR 101]) (h1 := h) (P := True ∧ True) (by decide +kernel) rfl rfl ⟨trivial, trivial⟩ ?_
  refine hS.2.1 7 15 _ _ _ fl_J0_15 (by decide +kernel) ?_
  refine g_ifz hK 10 .ne (7) 17 (t1 := 13) (t2 := 17) (by decide +kernel) (by decide) rfl rfl (fun _ => ?_) (fun (hc : ¬ (0 : Int) = 0) => absurd rfl hc)
  refine g_seg hK [.iconst 1] 13 14 (L1 := [(0, vR 101)]) (st1 := [vI 1]) (h1 := h) (P := True ∧ True) (by decide +kernel) rfl rfl ⟨trivial, trivial⟩ ?_
  refine g_goto hK 14 4 18 (by decide +kernel) (by decide) ?_
  exact hR.2.1 18 _ _ _ (by decide +kernel) rfl (Or.inr rfl) ⟨rfl, rfl⟩
set_option maxHeartbeats 4000000 in
set_option maxRecDepth 100000 in
theorem T_S_length (h : MH) : CON 1 yJ0_length_8abf5 cJ0_length_8abf5 1 (Option.some Jvm.ClassFile.FieldType.int) [vR 101] h (some (vI sg_length)) h := by
  refine con_ofS (own := RJ0) (fl := fl0) (by decide +kernel) rfl flok_J0 rfl (Nat.le_of_ble_eq_true rfl) ?_
  intro K hK hR hS
  show K 0 [(0, vR 101)] [] h
  refine g_seg hK [.aload_n 0] 0 1 (L1 := [(0, vR 101)]) (st1 := [vR 101]) (h1 := h) (P := True ∧ True) (by decide +kernel) rfl rfl ⟨trivial, trivial⟩ ?_
  refine hS.1 1 9 _ _ _ fl_J0_9 (by decide +kernel) ?_
  refine hS.2.2.2.1 4 _ _ _ (by decide +kernel) ?_
  refine g_seg hK [.aload_n 0] 5 6 (L1 := [(0, vR 101)]) (st1 := [vR 101, vI 9]) (h1 := h) (P := True ∧ True) (by decide +kernel) rfl rfl ⟨trivial, trivial⟩ ?_
  refine g_callG1 hK 6 335 (d1 := 0) (vs := []) (rest := [vI 9]) (r := vI 0) rfl my_yJ0_coder_7d493 vw_J0_335 (by decide) (T_S_coder h) rfl (Nat.le_of_ble_eq_true rfl) (by decide +kernel) ?_
  refine hS.2.2.2.2.2.1 9 _ _ _ _ (by decide +kernel) ?_
  exact hR.1 10 _ _ _ (by decide +kernel) rfl ⟨rfl, rfl⟩
set_option maxHeartbeats 4000000 in
set_option maxRecDepth 100000 in
theorem T_S_canEncode (c : Int) (h : MH) : CON 0 yJ1_canEncode_9a6ad cJ1_canEncode_9a6ad 1 (Option.some Jvm.ClassFile.FieldType.boolean) [vI c] h (some (vI (if 0 ≤ c ∧ c ≤ 255 then 1 else 0))) h := by
  refine con_ofS (own := RJ1) (fl := fl0) (by decide +kernel) rfl flok_J1 rfl (Nat.le_of_ble_eq_true rfl) ?_
  intro K hK hR hS
  show K 0 [(0, vI c)] [] h
  refine g_seg hK [.iload_n 0] 0 1 (L1 := [(0, vI c)]) (st1 := [vI c]) (h1 := h) (P := True ∧ True) (by decide +kernel) rfl rfl ⟨trivial, trivial⟩ ?_
  have no : ¬ (0 ≤ c ∧ c ≤ 255) → K 15 [(0, vI c)] [] h := by
    intro q
    refine g_seg hK [.iconst 0] 15 16 (L1 := [(0, vI c)]) (st1 := [vI 0]) (h1 := h) (P := True ∧ True) (by decide +kernel) rfl rfl ⟨trivial, trivial⟩ ?_
    exact hR.2.1 16 _ _ _ (by decide +kernel) rfl (Or.inl rfl) ⟨by rw [if_neg q], rfl⟩
  refine g_ifz hK 1 .lt (14) 15 (t1 := 15) (t2 := 4) (by decide +kernel) (by decide) rfl rfl (fun (hc : c < 0) => no (by omega)) (fun (hc : ¬ c < 0) => ?_)
  refine g_seg hK [.iload_n 0, .sipush 255] 4 8 (L1 := [(0, vI c)]) (st1 := [vI 255, vI c]) (h1 := h) (P := True ∧ True ∧ True) (by decide +kernel) rfl rfl ⟨trivial, trivial, trivial⟩ ?_
  refine g_icmp hK 8 .gt (7) 15 (t1 := 11) (t2 := 15) (by decide +kernel) (by decide) rfl rfl (fun (hc2 : c ≤ 255) => ?_) (fun (hc2 : ¬ c ≤ 255) => no (by omega))
  refine g_seg hK [.iconst 1] 11 12 (L1 := [(0, vI c)]) (st1 := [vI 1]) (h1 := h) (P := True ∧ True) (by decide +kernel) rfl rfl ⟨trivial, trivial⟩ ?_
  refine g_goto hK 12 4 16 (by decide +kernel) (by decide) ?_
  exact hR.2.1 16 _ _ _ (by decide +kernel) rfl (Or.inr rfl) ⟨by rw [if_pos ⟨by omega, hc2⟩], rfl⟩
/-- where a byte stands from a place on -/
def sgF (b : Int) : Nat → Nat → Int
  | 0, _ => -1
  | n + 1, i => if sgB i = b then (i : Int) else sgF b n (i + 1)
def byt (c : Int) : Int := if c < 128 then c else c - 256
theorem byt_ok {c : Int} (hc : 0 ≤ c ∧ c ≤ 255) : (Int32.ofInt c).toInt8.toInt32 = Int32.ofInt (byt c) ∧ inR (byt c) ∧ sgF (byt c) 9 0 = sg_indexOf c := by
  have key : (List.range 256).all (fun n => decide ((Int32.ofInt (n : Int)).toInt8.toInt32 = Int32.ofInt (byt (n : Int)) ∧ (-2147483648 ≤ byt (n : Int) ∧ byt (n : Int) ≤ 2147483647) ∧ sgF (byt (n : Int)) 9 0 = sg_indexOf (n : Int))) = true := by decide +kernel
  have k := List.all_eq_true.mp key c.toNat (List.mem_range.mpr (by omega))
  rw [decide_eq_true_eq] at k
  rw [show ((c.toNat : Nat) : Int) = c by omega] at k
  exact k
theorem sg_out {c : Int} (hc : ¬ (0 ≤ c ∧ c ≤ 255)) : sg_indexOf c = -1 := by
  unfold sg_indexOf
  rw [if_neg (by omega), if_neg (by omega), if_neg (by omega), if_neg (by omega), if_neg (by omega), if_neg (by omega), if_neg (by omega), if_neg (by omega), if_neg (by omega)]
set_option maxHeartbeats 4000000 in
set_option maxRecDepth 100000 in
theorem T_S_indexOfChar {c : Int} (hc : 0 ≤ c ∧ c ≤ 255) (h : MH) : CON 0 yJ1_indexOfChar_4cfef cJ1_indexOfChar_4cfef 6 (Option.some Jvm.ClassFile.FieldType.int) [vR 102, vI c, vI 0, vI 9] h (some (vI (sg_indexOf c))) h := by
  refine con_ofS (own := RJ1) (fl := fl0) (by decide +kernel) rfl flok_J1 rfl (Nat.le_of_ble_eq_true rfl) ?_
  intro K hK hR hS
  obtain ⟨b1, b2, b3⟩ := byt_ok hc
  show K 0 [(0, vR 102), (1, vI c), (2, vI 0), (3, vI 9)] [] h
  refine g_seg hK [.iload_n 1] 0 1 (L1 := [(0, vR 102), (1, vI c), (2, vI 0), (3, vI 9)]) (st1 := [vI c]) (h1 := h) (P := True ∧ True) (by decide +kernel) rfl rfl ⟨trivial, trivial⟩ ?_
  refine hS.2.2.2.2.2.2.1 1 _ _ _ _ _ b1 b2 (by decide +kernel) ?_
  rw [← b3] at hR
  generalize byt c = b at hR ⊢
  have loop : ∀ (n i : Nat), i + n = 9 → K 7 [(5, vI (i : Int)), (4, vI b), (0, vR 102), (3, vI 9)] [] h ∨ ¬ sgF b n i = sgF b 9 0 := by
    intro n
    induction n with
    | zero =>
      intro i hi
      by_cases q : sgF b 0 i = sgF b 9 0
      · refine Or.inl ?_
        have hi9 : i = 9 := by omega
        subst hi9
        refine g_seg hK [.iload 5, .iload_n 3] 7 10 (L1 := [(5, vI 9), (4, vI b), (0, vR 102), (3, vI 9)]) (st1 := [vI 9, vI 9]) (h1 := h) (P := True ∧ True ∧ True) (by decide +kernel) rfl rfl ⟨trivial, trivial, trivial⟩ ?_
        refine g_icmp hK 10 .ge (21) 31 (t1 := 13) (t2 := 31) (by decide +kernel) (by decide) rfl rfl (fun (hc2 : (9 : Int) < 9) => absurd hc2 (by decide)) (fun _ => ?_)
        refine g_seg hK [.iconst (-1)] 31 32 (L1 := [(5, vI 9), (4, vI b), (0, vR 102), (3, vI 9)]) (st1 := [vI (-1)]) (h1 := h) (P := True ∧ True) (by decide +kernel) rfl rfl ⟨trivial, trivial⟩ ?_
        exact hR.1 32 _ _ _ (by decide +kernel) rfl ⟨by rw [← q]; rfl, rfl⟩
      · exact Or.inr q
    | succ n ih =>
      intro i hi
      by_cases q : sgF b (n + 1) i = sgF b 9 0
      · refine Or.inl ?_
        have i9 : 0 ≤ (i : Int) ∧ (i : Int) < 9 := by omega
        have w1 : wr ((i : Int) + 1) = ((i + 1 : Nat) : Int) := by rw [wr_id (by omega)]; omega
        refine g_seg hK [.iload 5, .iload_n 3] 7 10 (L1 := [(5, vI (i : Int)), (4, vI b), (0, vR 102), (3, vI 9)]) (st1 := [vI 9, vI (i : Int)]) (h1 := h) (P := True ∧ True ∧ True) (by decide +kernel) rfl rfl ⟨trivial, trivial, trivial⟩ ?_
        refine g_icmp hK 10 .ge (21) 31 (t1 := 13) (t2 := 31) (by decide +kernel) (by decide) rfl rfl (fun _ => ?_) (fun (hc2 : ¬ (i : Int) < 9) => absurd i9.2 hc2)
        refine g_seg hK [.aload_n 0, .iload 5] 13 16 (L1 := [(5, vI (i : Int)), (4, vI b), (0, vR 102), (3, vI 9)]) (st1 := [vI (i : Int), vR 102]) (h1 := h) (P := True ∧ True ∧ True) (by decide +kernel) rfl rfl ⟨trivial, trivial, trivial⟩ ?_
        refine hS.2.2.2.2.1 16 _ _ _ _ i9 (by decide +kernel) ?_
        refine g_seg hK [.iload 4] 17 19 (L1 := [(5, vI (i : Int)), (4, vI b), (0, vR 102), (3, vI 9)]) (st1 := [vI b, vI (sgB i)]) (h1 := h) (P := True ∧ True) (by decide +kernel) rfl rfl ⟨trivial, trivial⟩ ?_
        rw [sgF] at q
        refine g_icmp hK 19 .ne (6) 25 (t1 := 22) (t2 := 25) (by decide +kernel) (by decide) rfl rfl (fun (hc3 : sgB i = b) => ?_) (fun (hc3 : ¬ sgB i = b) => ?_)
        · rw [if_pos hc3] at q
          refine g_seg hK [.iload 5] 22 24 (L1 := [(5, vI (i : Int)), (4, vI b), (0, vR 102), (3, vI 9)]) (st1 := [vI (i : Int)]) (h1 := h) (P := True ∧ True) (by decide +kernel) rfl rfl ⟨trivial, trivial⟩ ?_
          exact hR.1 24 _ _ _ (by decide +kernel) rfl ⟨by rw [← q], rfl⟩
        · rw [if_neg hc3] at q
          refine g_seg hK [.iinc 5 1] 25 28 (L1 := [(5, vI (wr ((i : Int) + 1))), (4, vI b), (0, vR 102), (3, vI 9)]) (st1 := []) (h1 := h) (P := True ∧ True) (by decide +kernel) rfl rfl ⟨trivial, trivial⟩ ?_
          refine g_goto hK 28 (-21) 7 (by decide +kernel) (by decide) ?_
          rw [w1]
          exact (ih (i + 1) (by omega)).resolve_right (fun z => z q)
      · exact Or.inr q
  refine g_seg hK [.istore 4, .iload_n 2, .istore 5] 2 7 (L1 := [(5, vI 0), (4, vI b), (0, vR 102), (1, vI c), (2, vI 0), (3, vI 9)]) (st1 := []) (h1 := h) (P := True ∧ True ∧ True ∧ True) (by decide +kernel) rfl rfl ⟨trivial, trivial, trivial, trivial⟩ ?_
  refine hK.2.1 _ _ ([(5, vI 0), (4, vI b), (0, vR 102), (3, vI 9)]) _ _ (sub_of [0, 1, 2, 5] rfl) ?_
  exact (loop 9 0 rfl).resolve_right (fun z => z rfl)
set_option maxHeartbeats 4000000 in
set_option maxRecDepth 100000 in
theorem T_S_indexOfL (c : Int) (h : MH) : CON 1 yJ1_indexOf_4cfef cJ1_indexOf_4cfef 4 (Option.some Jvm.ClassFile.FieldType.int) [vR 102, vI c, vI 0, vI 9] h (some (vI (sg_indexOf c))) h := by
  refine con_ofS (own := RJ1) (fl := fl0) (by decide +kernel) rfl flok_J1 rfl (Nat.le_of_ble_eq_true rfl) ?_
  intro K hK hR hS
  show K 0 [(0, vR 102), (1, vI c), (2, vI 0), (3, vI 9)] [] h
  refine g_seg hK [.iload_n 1] 0 1 (L1 := [(0, vR 102), (1, vI c), (2, vI 0), (3, vI 9)]) (st1 := [vI c]) (h1 := h) (P := True ∧ True) (by decide +kernel) rfl rfl ⟨trivial, trivial⟩ ?_
  refine g_callS1 hK 1 88 (d1 := 0) (vs := [vI c]) (rest := []) (r := vI (if 0 ≤ c ∧ c ≤ 255 then 1 else 0)) my_yJ1_canEncode_9a6ad sw_J1_88 (by decide) (T_S_canEncode c h) rfl (Nat.le_of_ble_eq_true rfl) (by decide +kernel) ?_
  by_cases hc : 0 ≤ c ∧ c ≤ 255
  · rw [if_pos hc]
    refine g_ifz hK 4 .ne (5) 9 (t1 := 7) (t2 := 9) (by decide +kernel) (by decide) rfl rfl (fun (q : (1 : Int) = 0) => absurd q (by decide)) (fun _ => ?_)
    refine g_seg hK [.iload_n 2, .iconst 0] 9 11 (L1 := [(0, vR 102), (1, vI c), (2, vI 0), (3, vI 9)]) (st1 := [vI 0, vI 0]) (h1 := h) (P := True ∧ True ∧ True) (by decide +kernel) rfl rfl ⟨trivial, trivial, trivial⟩ ?_
    refine g_mmax hK 11 92 (by decide) mw_J1_92 (Nat.le_of_ble_eq_true rfl) (by decide +kernel) ?_
    refine g_seg hK [.istore_n 2, .iload_n 3, .aload_n 0] 14 17 (L1 := [(2, vI (imax 0 0)), (0, vR 102), (1, vI c), (3, vI 9)]) (st1 := [vR 102, vI 9]) (h1 := h) (P := True ∧ True ∧ True ∧ True) (by decide +kernel) rfl rfl ⟨trivial, trivial, trivial, trivial⟩ ?_
    refine hS.2.2.2.1 17 _ _ _ (by decide +kernel) ?_
    refine g_mmin hK 18 38 (by decide) mw_J1_38 (Nat.le_of_ble_eq_true rfl) (by decide +kernel) ?_
    refine g_seg hK [.istore_n 3, .iload_n 2, .iload_n 3] 21 24 (L1 := [(3, vI (imin 9 9)), (2, vI (imax 0 0)), (0, vR 102), (1, vI c)]) (st1 := [vI (imin 9 9), vI (imax 0 0)]) (h1 := h) (P := True ∧ True ∧ True ∧ True) (by decide +kernel) rfl rfl ⟨trivial, trivial, trivial, trivial⟩ ?_
    rw [show imax 0 0 = 0 from rfl, show imin 9 9 = 9 from rfl]
    refine g_icmp hK 24 .lt (5) 29 (t1 := 29) (t2 := 27) (by decide +kernel) (by decide) rfl rfl (fun _ => ?_) (fun (q : ¬ (0 : Int) < 9) => absurd (by decide) q)
    refine g_seg hK [.aload_n 0, .iload_n 1, .iload_n 2, .iload_n 3] 29 33 (L1 := [(3, vI 9), (2, vI 0), (0, vR 102), (1, vI c)]) (st1 := [vI 9, vI 0, vI c, vR 102]) (h1 := h) (P := True ∧ True ∧ True ∧ True ∧ True) (by decide +kernel) rfl rfl ⟨trivial, trivial, trivial, trivial, trivial⟩ ?_
    refine g_callS1 hK 33 95 (d1 := 0) (vs := [vR 102, vI c, vI 0, vI 9]) (rest := []) (r := vI (sg_indexOf c)) my_yJ1_indexOfChar_4cfef sw_J1_95 (by decide) (T_S_indexOfChar hc h) rfl (Nat.le_of_ble_eq_true rfl) (by decide +kernel) ?_
    exact hR.1 36 _ _ _ (by decide +kernel) rfl ⟨rfl, rfl⟩
  · rw [if_neg hc]
    refine g_ifz hK 4 .ne (5) 9 (t1 := 7) (t2 := 9) (by decide +kernel) (by decide) rfl rfl (fun _ => ?_) (fun (q : ¬ (0 : Int) = 0) => absurd rfl q)
    refine g_seg hK [.iconst (-1)] 7 8 (L1 := [(0, vR 102), (1, vI c), (2, vI 0), (3, vI 9)]) (st1 := [vI (-1)]) (h1 := h) (P := True ∧ True) (by decide +kernel) rfl rfl ⟨trivial, trivial⟩ ?_
    exact hR.1 8 _ _ _ (by decide +kernel) rfl ⟨by rw [sg_out hc], rfl⟩
set_option maxHeartbeats 4000000 in
set_option maxRecDepth 100000 in
theorem T_S_indexOf2 (c : Int) (h : MH) : CON 2 yJ0_indexOf_7cf53 cJ0_indexOf_7cf53 3 (Option.some Jvm.ClassFile.FieldType.int) [vR 101, vI c, vI 0] h (some (vI (sg_indexOf c))) h := by
  refine con_ofS (own := RJ0) (fl := fl0) (by decide +kernel) rfl flok_J0 rfl (Nat.le_of_ble_eq_true rfl) ?_
  intro K hK hR hS
  show K 0 [(0, vR 101), (1, vI c), (2, vI 0)] [] h
  refine g_seg hK [.aload_n 0] 0 1 (L1 := [(0, vR 101), (1, vI c), (2, vI 0)]) (st1 := [vR 101]) (h1 := h) (P := True ∧ True) (by decide +kernel) rfl rfl ⟨trivial, trivial⟩ ?_
  refine g_callG1 hK 1 492 (d1 := 0) (vs := []) (rest := []) (r := vI 1) rfl my_yJ0_isLatin1_aae02 vw_J0_492 (by decide) (T_S_isLatin1 h) rfl (Nat.le_of_ble_eq_true rfl) (by decide +kernel) ?_
  refine g_ifz hK 4 .eq (19) 23 (t1 := 23) (t2 := 7) (by decide +kernel) (by decide) rfl rfl (fun (q : (1 : Int) = 0) => absurd q (by decide)) (fun _ => ?_)
  refine g_seg hK [.aload_n 0] 7 8 (L1 := [(0, vR 101), (1, vI c), (2, vI 0)]) (st1 := [vR 101]) (h1 := h) (P := True ∧ True) (by decide +kernel) rfl rfl ⟨trivial, trivial⟩ ?_
  refine hS.1 8 9 _ _ _ fl_J0_9 (by decide +kernel) ?_
  refine g_seg hK [.iload_n 1, .iload_n 2, .aload_n 0] 11 14 (L1 := [(0, vR 101), (1, vI c), (2, vI 0)]) (st1 := [vR 101, vI 0, vI c, vR 102]) (h1 := h) (P := True ∧ True ∧ True ∧ True) (by decide +kernel) rfl rfl ⟨trivial, trivial, trivial, trivial⟩ ?_
  refine g_callG1 hK 14 505 (d1 := 1) (vs := []) (rest := [vI 0, vI c, vR 102]) (r := vI sg_length) rfl my_yJ0_length_8abf5 vw_J0_505 (by decide) (T_S_length h) rfl (Nat.le_of_ble_eq_true rfl) (by decide +kernel) ?_
  refine g_callS1 hK 17 637 (d1 := 1) (vs := [vR 102, vI c, vI 0, vI 9]) (rest := []) (r := vI (sg_indexOf c)) my_yJ1_indexOf_4cfef sw_J0_637 (by decide) (T_S_indexOfL c h) rfl (Nat.le_of_ble_eq_true rfl) (by decide +kernel) ?_
  refine g_goto hK 20 16 36 (by decide +kernel) (by decide) ?_
  exact hR.1 36 _ _ _ (by decide +kernel) rfl ⟨rfl, rfl⟩
set_option maxHeartbeats 4000000 in
set_option maxRecDepth 100000 in
theorem T_S_indexOf (c : Int) (h : MH) : CON 3 yJ0_indexOf_0f7a4 cJ0_indexOf_0f7a4 2 (Option.some Jvm.ClassFile.FieldType.int) [vR 101, vI c] h (some (vI (sg_indexOf c))) h := by
  refine con_ofS (own := RJ0) (fl := fl0) (by decide +kernel) rfl flok_J0 rfl (Nat.le_of_ble_eq_true rfl) ?_
  intro K hK hR hS
  show K 0 [(0, vR 101), (1, vI c)] [] h
  refine g_seg hK [.aload_n 0, .iload_n 1, .iconst 0] 0 3 (L1 := [(0, vR 101), (1, vI c)]) (st1 := [vI 0, vI c, vR 101]) (h1 := h) (P := True ∧ True ∧ True ∧ True) (by decide +kernel) rfl rfl ⟨trivial, trivial, trivial, trivial⟩ ?_
  refine g_callG1 hK 3 633 (d1 := 2) (vs := [vI c, vI 0]) (rest := []) (r := vI (sg_indexOf c)) rfl my_yJ0_indexOf_7cf53 vw_J0_633 (by decide) (T_S_indexOf2 c h) rfl (Nat.le_of_ble_eq_true rfl) (by decide +kernel) ?_
  exact hR.1 6 _ _ _ (by decide +kernel) rfl ⟨rfl, rfl⟩

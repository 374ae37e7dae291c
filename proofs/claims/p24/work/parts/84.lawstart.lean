/-! ===== the law's start ===== -/
/-! THE CLAIM OUT OF ONE WALK OF THE LAW'S BODY. Your part is whole_start (and what it stands on); all else here is the same for every law, but numbers. -/
def R_law : String := "HunkSlidesLaw"
def lw_P (b : Addr) (xs : List Int32) (args : Array Value) (s : State) : Prop := args = #[.ref b] ∧ s.IntsAt b xs ∧ xs.length ≤ 260 ∧ (Jvm.Cond.and given_1 narrow_1).before args s = true
/-- what a walk over the start with the record d0 says of its end, said of the start itself -/
theorem lw_closed {s t : State} {o : Outcome} {d0 : Drawn} {L : List Loc} {k n : Nat} (hd0 : s.drawn.sameBut d0 lw_cs) (hv : ∃ v, o = .returned v) (hW : (s.setDrawn d0).WarmedH t.vm) (hs : (s.setDrawn d0).sameButNew ({ t with vm := s.vm } : State) L k n) : State.butDraws s t lw_cs (fun t1 => Framed s o t1 L k n) := by
  have h2 : t.drawn = d0 := congrArg State.drawn hs.1
  refine ⟨⟨hv, hW, State.sameButNew.setDrawn hs s.drawn⟩, ?_, by decide⟩
  rw [h2]
  exact hd0
def lw_Q (_ : Array Value) (s : State) (o : Outcome) (t : State) : Prop := o = .returned (some (.int 1)) ∧ State.butDraws s t lw_cs (fun t1 => Framed s o t1 [] 600000 7302250)
def lw_Z (below : List Frame) (a : Array Value) (s : State) : State → Prop := fun t => ∃ o, t.status = .running ∧ Ended t below o ∧ lw_Q a s o t
/-- the law's own end, with 1 on the stack, nothing written that was there before, its room as the claim has it; d0: the record of draws at this point (at the entry s.drawn: begin with 'refine W.base ?_' and 'have hd0 := Drawn.sameBut.refl s.drawn lw_cs') -/
theorem lw_ret {p : Program} {l : Launch} {e : Env} {s : State} {m : MethodId} {below : List Frame} {meth : Method} {c : Code} {b : Nat} {d0 : Drawn} (hd0 : s.drawn.sameBut d0 lw_cs) (hx : p.tables.exec = Jvm.exec) (hb : c.code = code) (hr : meth.sig.returnType = ret) (hlocks : meth.locks = false) {pc : Nat} {H : Heap} {ls : Array Slot} (hdg : decode code pc = .ok (.ireturn, 1)) : W p l e room_1 (s.setDrawn d0) m #[Value.ref b] below meth c H [] 600000 7302250 (lw_Z below #[Value.ref b] s) (F0 m pc ls [.int 1]) := by
  intro T hT X
  obtain ⟨fs, hret, hrun, hended, hW, hframe⟩ := X.leave (v := some (.int 1)) (hlocks := hlocks) (fun h => by rw [hr] at h; cases h)
  have hmeth' : T.vm.method? m = some meth := X.method'
  refine ⟨T.setFrames fs, ?_, .returned (some (.int 1)), hrun, hended, rfl, lw_closed hd0 ⟨_, rfl⟩ hW hframe⟩
  jvm_step X.here [X.here.top, hx, hb, hdg, hmeth', hr, ret, narrow_b1]
  (try refine ⟨rfl, ?_⟩); (try refine ⟨rfl, ?_⟩)
  first | (intro acts; rw [hret _ acts rfl rfl rfl]) | rw [hret _ _ rfl rfl rfl]
  exact Steps.refl _
/-- what holds at the law's entry: the machine, the code, the tables' words (any of lw_tbl by 'hts w (by decide +kernel)'), the script of L ints xs at the cell b, what the Statement gives of the start (any of its parts by flat_of_before) -/
def lw_At (p : Program) (s : State) (m : MethodId) (meth : Method) (c : Code) (b L : Nat) (xs : Nat → Int32) : Prop :=
  p.tables.exec = Jvm.exec ∧ c.code = code ∧ meth.sig.returnType = ret ∧ c.maxLocals = 6 ∧ s.vm.findClass R_law = some m.cls ∧ (∀ w ∈ lw_tbl, w.before #[Value.ref b] s = true) ∧ va_X b L xs s s.heap ∧ b < s.heap.size ∧ meth.locks = false ∧ (Jvm.Cond.and given_1 narrow_1).before #[Value.ref b] s = true
set_option maxRecDepth 100000 in
theorem nwc_L_9 : NEWC RL 9 6 := ⟨RX6, TX6, 9, tyX6, rfl, rfl, (tb_in 30 (by decide +kernel) (by decide +kernel)), (tb_in 31 (by decide +kernel) (by decide +kernel)), (tb_in 21 (by decide +kernel) (by decide +kernel)), in_X6, tyX6_ok, fun k hk => by rcases (show k = 0 ∨ k = 1 ∨ k = 2 ∨ k = 3 ∨ k = 4 ∨ k = 5 ∨ k = 6 ∨ k = 7 ∨ k = 8 by omega) with rfl | rfl | rfl | rfl | rfl | rfl | rfl | rfl | rfl <;> rfl⟩
set_option maxRecDepth 100000 in
theorem lki_L_71 : LKI RL 71 yX6_init := Or.inl (tb_in 32 (by decide +kernel) (by decide +kernel))
set_option maxRecDepth 100000 in
theorem myi_X6 : MYI yX6_init cX6_init 1 0 := ⟨⟨(tb_in 34 (by decide +kernel) (by decide +kernel)), (tb_in 21 (by decide +kernel) (by decide +kernel)), ⟨by decide +kernel, by decide +kernel, by decide +kernel⟩, by decide⟩, rfl, (tb_in 33 (by decide +kernel) (by decide +kernel))⟩
set_option maxRecDepth 100000 in
theorem my_yL_cell : MY yL_cell cL_cell 2 (Option.some Jvm.ClassFile.FieldType.int) 2 := ⟨(tb_in 526 (by decide +kernel) (by decide +kernel)), (tb_in 20 (by decide +kernel) (by decide +kernel)), ⟨by decide +kernel, by decide +kernel, by decide +kernel⟩, by decide⟩
set_option maxRecDepth 100000 in
theorem sw_X9_76 : SW RX9 76 yL_cell := ⟨(tb_in 524 (by decide +kernel) (by decide +kernel)), (tb_in 525 (by decide +kernel) (by decide +kernel))⟩
/-- what the script's cells answer to a judgement -/
def SCRR (n : Nat) (xs : Nat → Int32) (cc : ByteArray) (K : KT) : Prop :=
  (∀ (pc : Nat) (L : ML) (st : List MV) (h : MH), dk cc pc .arraylength 1 = true → K (pc + 1) L (vI (n : Int) :: st) h → K pc L (vR 100 :: st) h) ∧
  (∀ (pc : Nat) (L : ML) (st : List MV) (h : MH) (j : Int), 0 ≤ j ∧ j < (n : Int) → dk cc pc .iaload 1 = true → K (pc + 1) L (vI (xs j.toNat).toInt :: st) h → K pc L (vI j :: vR 100 :: st) h)
def PMC (D : va_G) (cI cS : ClassId) (ad : Nat → Nat) (h : MH) (n : Nat) (xs : Nat → Int32) (U : State) : Prop := PM D cI cS ad h U ∧ va_X (ad 100) n xs U U.heap ∧ ad 100 < U.heap.size ∧ ¬ inA ad (ad 100)
theorem PMC_blind {D : va_G} {cI cS : ClassId} {ad : Nat → Nat} {vs : List Value} {h : MH} {n : Nat} {xs : Nat → Int32} : FrameBlind (va_Pc vs (PMC D cI cS ad h n xs)) := fun a U g mk q =>
  ⟨q.1, ⟨q.2.1.1, va_K.moved (u := U) (U := U.calling g mk a) (Vm.Alike.refl U.vm) q.2.1.2.1, q.2.1.2.2.1.same rfl, vk_S.moved (u := U) (U := U.calling g mk a) (Vm.Alike.refl U.vm) q.2.1.2.2.2.1, va_Z.moved (u := U) (U := U.calling g mk a) (Vm.Alike.refl U.vm) q.2.1.2.2.2.2⟩, va_X.moved (u := U) (U := U.calling g mk a) (Vm.Alike.refl U.vm) q.2.2.1, q.2.2.2⟩
set_option maxHeartbeats 4000000 in
set_option maxRecDepth 100000 in
theorem cell_walk {n : Nat} {xs : Nat → Int32} {z : Int} (hz : 0 ≤ z) {h : MH} {K : KT} (hK : Rules RX9 cL_cell 2 (Option.some Jvm.ClassFile.FieldType.int) flX9 0 K) (hR : R_ret cL_cell (Option.some Jvm.ClassFile.FieldType.int) (fun r' h2 => r' = some (vI (clv xs n z)) ∧ h2 = h) K) (hS : SCRR n xs cL_cell K) : K 0 [(0, vR 100), (1, vI z)] [] h := by
  refine g_seg hK [.iload_n 1, .aload_n 0] 0 2 (L1 := [(0, vR 100), (1, vI z)]) (st1 := [vR 100, vI z]) (h1 := h) (P := True ∧ True ∧ True) (by decide +kernel) rfl rfl ⟨trivial, trivial, trivial⟩ ?_
  refine hS.1 2 _ _ _ (by decide +kernel) ?_
  refine g_icmp hK 3 .ge (9) 12 (t1 := 6) (t2 := 12) (by decide +kernel) (by decide) rfl rfl (fun (hc : z < (n : Int)) => ?_) (fun (hc : ¬ z < (n : Int)) => ?_)
  · refine g_seg hK [.aload_n 0, .iload_n 1] 6 8 (L1 := [(0, vR 100), (1, vI z)]) (st1 := [vI z, vR 100]) (h1 := h) (P := True ∧ True ∧ True) (by decide +kernel) rfl rfl ⟨trivial, trivial, trivial⟩ ?_
    refine hS.2 8 _ _ _ z ⟨hz, hc⟩ (by decide +kernel) ?_
    refine g_goto hK 9 (15) 24 (by decide +kernel) (by decide) ?_
    refine hR.1 24 _ _ _ (by decide +kernel) rfl ⟨?_, rfl⟩
    unfold clv
    rw [if_pos hc]
  · refine g_seg hK [.sipush 7919, .iload_n 1, .iconst 3, .iadd, .imul, .iload_n 1, .bipush 11, .iadd, .imul] 12 24 (L1 := [(0, vR 100), (1, vI z)]) (st1 := [vI (wr ((wr (7919 * (wr (z + 3)))) * (wr (z + 11))))]) (h1 := h) (P := True ∧ True ∧ True ∧ True ∧ True ∧ True ∧ True ∧ True ∧ True ∧ True) (by decide +kernel) rfl rfl ⟨trivial, trivial, trivial, trivial, trivial, trivial, trivial, trivial, trivial, trivial⟩ ?_
    refine hR.1 24 _ _ _ (by decide +kernel) rfl ⟨?_, rfl⟩
    unfold clv
    rw [if_neg hc]
set_option maxHeartbeats 4000000 in
set_option maxRecDepth 100000 in
theorem cell_ok {l : Launch} {D : va_G} {cI cS : ClassId} {ad : Nat → Nat} {n : Nat} {xs : Nat → Int32} {z : Int} {h : MH} (hz : 0 ≤ z) (hn : n ≤ 2048) (hov : inR z) : Met l yL_cell (Cond.code yL_cell cL_cell 2 (Option.some Jvm.ClassFile.FieldType.int) :: TB) (rmd 0) (va_Pc (([vR 100, vI z] : List MV).map (tv ad)) (PMC D cI cS ad h n xs)) (QM D cI cS ad (some (vI (clv xs n z))) h) 0 0 (inA ad) := by
  refine Met.ofW (by decide +kernel) rfl ?_
  intro p e s m args below meth c s₁ B hml hv
  obtain ⟨rfl, ⟨hw, hKK, hE⟩, hX0, hbl, hbA⟩ := hv
  have hx := B.exec
  have hb := B.bytes
  have hr := B.returns
  have hts := atoms_spec (ws := Cond.code yL_cell cL_cell 2 (Option.some Jvm.ClassFile.FieldType.int) :: TB) B.pre
  have hown : s.vm.findClass RX9 = some m.cls := findClass_of_methodNamed B.named
  have hlocks := B.notSynchronized
  have hX : CX RX9 cL_cell 2 (Option.some Jvm.ClassFile.FieldType.int) p s m (([vR 100, vI z] : List MV).map (tv ad)).toArray meth c D cI cS ad (inA ad) := ⟨hx, hb, hml, hr, hown, fun w hw => hts w (List.mem_cons_of_mem _ hw), hKK, hlocks, hE⟩
  have hM : RMX 0 (headSpec (Cond.code yL_cell cL_cell 2 (Option.some Jvm.ClassFile.FieldType.int) :: TB) (rmd 0)).room 0 0 := ⟨Nat.le_refl _, Nat.le_refl _, Nat.le_refl _, Nat.le_refl _⟩
  have hRu := rules_ok (l := l) (e := e) (below := below) (Q := MQ below (QM D cI cS ad (some (vI (clv xs n z))) h) (([vR 100, vI z] : List MV).map (tv ad)).toArray s 0 0 (inA ad)) hX hM flok_X9
  rw [lg_entry_eq]
  have hl := lv_entry (([vR 100, vI z] : List MV).map (tv ad)) (n := 2) (by rw [entL_len ad _ rfl]; exact Nat.le_refl 2)
  generalize (lg_sl (([vR 100, vI z] : List MV).map (tv ad)) ++ List.replicate (2 - (lg_sl (([vR 100, vI z] : List MV).map (tv ad))).length) Slot.unset).toArray = ls at hl ⊢
  rw [entL_args ad [vR 100, vI z] 0 rfl] at hl
  have hov2 : ∀ v ∈ ([vR 100, vI z] : List MV), okV v := okc (v := vR 100) trivial (okc (v := vI z) hov (fun v hv => by cases hv))
  refine cell_walk (n := n) (xs := xs) hz hRu ?_ ?_ (entL_ok [vR 100, vI z] 0 hov2) (fun v hv => by cases hv) s.heap ls [] hw va_S.rf hl
  · refine ⟨?_, ?_, ?_, ?_, ?_⟩
    · intro pc L h2 z hd hr2 ⟨e1, e2⟩ hoL hoS H ls locs hw2 hS hl
      rw [e2] at hw2
      refine W.iret hx hb (by rw [hr, hr2]) (fun t ht hW => ⟨?_, fun v hv => by cases hv; cases e1; exact hoS _ List.mem_cons_self, by rw [ht]; exact hw2, hS.F ht⟩) hS.2.2 (dk_eq hd)
      cases e1
      rfl
    · intro pc L h z hd hr2
      exact absurd hr2 (by decide)
    · intro pc L h o hd hr2
      obtain ⟨n, hr2⟩ := hr2
      exact absurd hr2 (by intro q; cases q)
    · intro pc L h z hd hr2
      exact absurd hr2 (by decide)
    · intro pc L h hd hr2
      exact absurd hr2 (by decide)
  · refine ⟨?_, ?_⟩
    · intro pc L st h hd hk hoL hoS H ls locs hw hS hl
      have hoR : ∀ v ∈ st, okV v := fun v hv => hoS v (List.mem_cons_of_mem _ hv)
      have k9 := hk hoL (okc (v := vI (n : Int)) (by show inR _; unfold inR; omega) hoR) H ls locs hw hS hl
      exact va_slen hx hb hX0 hbl hbA hS (dk_eq hd) k9
    · intro pc L st h j hj hd hk hoL hoS H ls locs hw hS hl
      have hjR : inR j := hoS (vI j) List.mem_cons_self
      have hoR : ∀ v ∈ st, okV v := fun v hv => hoS v (List.mem_cons_of_mem _ (List.mem_cons_of_mem _ hv))
      have k9 := hk hoL (okc (v := vI (xs j.toNat).toInt) (inR_toInt _) hoR) H ls locs hw hS hl
      refine va_sld hx hb hX0 hbl hbA hS (i := Int32.ofInt j) (oi_in hjR hj) (dk_eq hd) ?_
      rw [oi_clamp hj.1 hjR]
      simp only [List.map_cons, tv, oi_toInt] at k9
      exact k9
section CELLCALL
variable {p : Program} {l : Launch} {e : Env} {R : Room} {s : State} {m : MethodId} {args : Array Value} {below : List Frame} {meth : Method} {c : Code} {cells slots : Nat} {Q : State → Prop} {D : va_G} {cI cS : ClassId} {ad : Nat → Nat} {A : Nat → Prop} {nL : Nat}
variable {cc : ByteArray} {ret : Option FieldType} {pc : Nat}
theorem wm_cell (hX : CX RX9 cc nL ret p s m args meth c D cI cS ad A) {d : Nat} (hM : RMX d R cells slots) (hd1 : 0 < d) {n : Nat} {xs : Nat → Int32} (hXs : va_X (ad 100) n xs s s.heap) (hbl : ad 100 < s.heap.size) (hbA : ¬ A (ad 100)) (hn : n ≤ 2048) {z : Int} {rest : List MV} {L : ML} {h : MH} (hz : 0 ≤ z) (hrest : rest.length ≤ 4) (hd : decode cc pc = .ok (.invokestatic 76, 3))
    (hk : WM p l e R s m args below meth c cells slots Q D cI cS ad A nL (pc + 3) L (vI (clv xs n z) :: rest) h) : WM p l e R s m args below meth c cells slots Q D cI cS ad A nL pc L (vI z :: vR 100 :: rest) h := by
  obtain ⟨hx, hb, hml, hr, hown, hts, hK, hlocks, hE⟩ := hX
  intro hoL hoS H ls locs hw hS hl
  have hzR : inR z := hoS (vI z) List.mem_cons_self
  have hoR : ∀ v ∈ rest, okV v := fun v hv => hoS v (List.mem_cons_of_mem _ (List.mem_cons_of_mem _ hv))
  have hwin := wld_in hw
  have hsub := inA_sub hw
  have hmy := my_yL_cell
  have hsw := sw_X9_76
  have cw0 := callB_of (R := R) (s := s) (args := args) (own := RX9) (index := 76) (y := yL_cell) (bytes := cL_cell) (maxL := 2) (ret := Option.some Jvm.ClassFile.FieldType.int) (ws := Cond.code yL_cell cL_cell 2 (Option.some Jvm.ClassFile.FieldType.int) :: TB) (rm := rmd 0) (mc := 0) (ms := 0) (Ts := TB) 2 hts (good_all (by
      intro w hw
      rcases List.mem_cons.mp hw with rfl | hw
      · exact hmy.1
      · exact hw)) rfl rfl rfl (hts _ hmy.2.1) (hts _ hsw.1) hmy.2.2.1 ⟨by
      show 0 + 1 ≤ R.frames
      have := hM.1
      omega, by
      show 8 + (2 + 11) + 40 * 0 ≤ R.locals
      have := hM.2.1
      omega⟩
  have cw := And.intro cw0 (hts _ hsw.2)
  have hrun := va_runS (As := ([vR 100, vI z] : List MV).map (tv ad)) (rest := rest.map (tv ad)) (g := F0 m pc ls ((vI z :: vR 100 :: rest).map (tv ad))) (H := H) (locs := locs) (cells := cells) (slots := slots) (e := e) (below := below) (meth := meth)
    ⟨hx, hb, hml, hown, hts⟩ (cell_ok (l := l) (D := D) (cI := cI) (cS := cS) (ad := ad) (n := n) (xs := xs) (h := h) hz hn hzR) cw ⟨PMC_blind, fun U hU hW => ⟨by simp, ⟨by rw [hU]; exact hwin, va_K.moved hW.alike hK, by rw [hU]; exact EXT_down hE hS hW hsub⟩, by rw [hU]; exact (hXs.moved hW.alike).kept (hS.2.1 _ hbl hbA), by rw [hU]; exact Nat.lt_of_lt_of_le hbl hS.1, fun q => hbA (hsub _ q)⟩⟩ rfl (by simp) hl.1 (by simp) (lv_room (cat_sum hrest)) hd ⟨hM.2.2.1, hM.2.2.2⟩
  exact wm_back (idx := 76) hw hS hl hoL hoR hrun hk
end CELLCALL
theorem arrV_congr {cA : ClassId} {N : Nat} {f g : Nat → Value} (h : ∀ j, j < N → f j = g j) : arrV cA N f = arrV cA N g := by
  have e : (Array.ofFn (n := N) fun j => f j.val) = (Array.ofFn (n := N) fun j => g j.val) := by
    congr 1
    funext j
    exact h j.val j.isLt
  show ({ cls := cA, slots := Array.ofFn (n := N) fun j => f j.val, vm := .none } : Cell) = { cls := cA, slots := Array.ofFn (n := N) fun j => g j.val, vm := .none }
  rw [e]
/-- the whole world stands -/
theorem wld_all {D : va_G} {cI cS : ClassId} {ad : Nat → Nat} {base : Nat} {H : Heap} (hw : wldP D cI cS ad base 76 HZ H) : wld D cI cS ad (inB base) HZ H := by
  obtain ⟨hP, hD, hr, hsz, had⟩ := hw
  have hlen : (wsOf cI cS ad HZ).length = 76 := by simp [wsOf, NC]
  refine ⟨fun k q hq => ?_, ⟨fun i j x y hi hj hxy => ?_, fun k q hq => ?_⟩, hr⟩
  · have hk : k < 76 := by rw [← hlen]; exact (List.getElem?_eq_some_iff.mp hq).1
    rw [wsOf_at (by exact hk)] at hq
    cases hq
    have h1 := hP k _ (wsP_at hk)
    rcases (show kd k = 0 ∨ kd k = 1 ∨ 2 ≤ kd k by omega) with c | c | c
    · rw [cellP_i c] at h1
      rw [cellE_i c]
      exact h1
    · rw [cellP_s c] at h1
      rw [cellE_s c]
      have h1 : H[ad k]? = some (vp_cell cS (al k, .inr (.inr (.inr (.inr (fun j => if HZ k j = 0 then none else some (ad (rf k j)))))))) := h1
      show H[ad k]? = some (vp_cell cS (al k, .inr (.inr (.inr (.inr (fun j => some (ad (rf k j)))))))) 
      rw [h1, vp_cell_q, vp_cell_q]
      congr 1
      refine arrV_congr (fun j hj => ?_)
      have ek : k = 18 := by
        have key : (List.range NC).all (fun i => !(kd i == 1) || i == 18) = true := by decide +kernel
        have k2 := List.all_eq_true.mp key k (List.mem_range.mpr hk)
        simp [c] at k2
        exact k2
      subst ek
      have hj4 : j < 4 := hj
      have e1 : HZ 18 j = 1 := by rw [HZ_at (by decide), H0_18, if_pos hj4]
      show va_rf (if HZ 18 j = 0 then none else some (ad (rf 18 j))) = va_rf (some (ad (rf 18 j)))
      rw [e1, if_neg (by decide)]
    · obtain ⟨ci, hci⟩ : ∃ ci, kd k = ci + 2 := ⟨kd k - 2, by omega⟩
      rw [cellP_o hci] at h1
      rw [cellE_o hci]
      have e : (List.range (fn ci)).map (elP ad HZ ci k) = (List.range (fn ci)).map (fun j => if fc ci j = 2 then Value.ref (ad (rf k j)) else .int (Int32.ofInt (HZ k j))) := by
        apply List.map_congr_left
        intro j hj
        unfold elP
        by_cases q : fc ci j = 2
        · have e1 : HZ k j = 1 := by
            rw [HZ_at hk]
            unfold H0
            rw [if_pos ⟨c, by rw [hci, show ci + 2 - 2 = ci by omega]; exact q⟩]
          rw [if_pos q, if_pos q, e1, if_neg (by decide)]
        · rw [if_neg q, if_neg q]
      rw [← e]
      exact h1
  · have hi2 : i < 76 := by rw [← hlen]; exact (List.getElem?_eq_some_iff.mp hi).1
    have hj2 : j < 76 := by rw [← hlen]; exact (List.getElem?_eq_some_iff.mp hj).1
    rw [wsOf_at (by exact hi2)] at hi
    rw [wsOf_at (by exact hj2)] at hj
    cases hi; cases hj
    exact hD.1 i j _ _ (wsP_at hi2) (wsP_at hj2) hxy
  · have hk : k < 76 := by rw [← hlen]; exact (List.getElem?_eq_some_iff.mp hq).1
    rw [wsOf_at (by exact hk)] at hq
    cases hq
    exact hD.2 k (ad k, cellP cI cS ad HZ k) (wsP_at hk)
theorem flok_L : flok RL fl0 := flok_of (fun q hq => by cases hq)
section LAWR
variable {p : Program} {l : Launch} {e : Env} {R : Room} {s : State} {m : MethodId} {args : Array Value} {below : List Frame} {meth : Method} {c : Code} {Q : State → Prop} {D : va_G} {cI cS : ClassId} {ad : Nat → Nat} {base : Nat} {nL : Nat}
variable {own : String} {cc : ByteArray} {pc : Nat}
theorem wp_astore (hX : CXP own cc nL p s m args meth c D cI cS) {cells slots k i n : Nat} {L : ML} {st : List MV} {h : MH} (kk : Fin 4) (hk1 : kk.val = k) (hlt : k < nL) (hd : dk cc pc (.astore_n kk) 1 = true) (hk : WP p l e R s m args below meth c Q D cI cS ad base nL cells slots (pc + 1) (sto L k (vR i)) st n h) : WP p l e R s m args below meth c Q D cI cS ad base nL cells slots pc L (vR i :: st) n h := by
  obtain ⟨hx, hb, hml, hown, hts, hK, hNK⟩ := hX
  intro hoL hoS H ls locs hw hS hl
  subst hk1
  exact lv_astore_n hx hb (dk_eq hd) rfl hl hlt (sto_map ad L kk.val (vR i)) (fun ls' hl' => hk (sto_ok hoL (hoS _ List.mem_cons_self)) (fun w hw => hoS w (List.mem_cons_of_mem _ hw)) H ls' locs hw hS hl')
theorem wp_wm {cells slots cells' slots' : Nat} {L : ML} {st : List MV} (h1 : cells ≤ cells') (h2 : slots ≤ slots') (hk : WM p l e R s m args below meth c cells' slots' Q D cI cS ad (inB base) nL pc L st HZ) : WP p l e R s m args below meth c Q D cI cS ad base nL cells slots pc L st 76 HZ := by
  intro hoL hoS H ls locs hw hS hl
  exact W.widen h1 h2 (hk hoL hoS H ls locs (wld_all hw) hS hl)
end LAWR
set_option maxHeartbeats 4000000 in
set_option maxRecDepth 100000 in
/-- the classes, out of the tables -/
theorem law_known {s : State} {args : Array Value} (hTB : ∀ w ∈ TB, w.before args s = true) : ∃ D : va_G, ∀ (k : Nat) (q : vw_C), vwCl[k]? = some q → u_Kn s q.1 q.2.1 q.2.2 (D.1 k) (D.2 k) := by
  obtain ⟨c0, f0, k0⟩ := u_known (C := RX0) (T := TX0) (N := 2) (n := 2) hTB in_X0 (hTB _ (tb_in 99 (by decide +kernel) (by decide +kernel)))
  obtain ⟨c1, f1, k1⟩ := u_known (C := RX1) (T := TX1) (N := 2) (n := 2) hTB in_X1 (hTB _ (tb_in 83 (by decide +kernel) (by decide +kernel)))
  obtain ⟨c2, f2, k2⟩ := u_known (C := RX2) (T := TX2) (N := 10) (n := 10) hTB in_X2 (hTB _ (tb_in 138 (by decide +kernel) (by decide +kernel)))
  obtain ⟨c3, f3, k3⟩ := u_known (C := RX3) (T := TX3) (N := 2) (n := 2) hTB in_X3 (hTB _ (tb_in 39 (by decide +kernel) (by decide +kernel)))
  obtain ⟨c4, f4, k4⟩ := u_known (C := RX4) (T := TX4) (N := 7) (n := 7) hTB in_X4 (hTB _ (tb_in 53 (by decide +kernel) (by decide +kernel)))
  obtain ⟨c5, f5, k5⟩ := u_known (C := RX5) (T := TX5) (N := 5) (n := 5) hTB in_X5 (hTB _ (tb_in 114 (by decide +kernel) (by decide +kernel)))
  obtain ⟨c6, f6, k6⟩ := u_known (C := RX6) (T := TX6) (N := 9) (n := 9) hTB in_X6 (hTB _ (tb_in 31 (by decide +kernel) (by decide +kernel)))
  refine ⟨(fun k => if k = 0 then c0 else if k = 1 then c1 else if k = 2 then c2 else if k = 3 then c3 else if k = 4 then c4 else if k = 5 then c5 else c6, fun k => if k = 0 then f0 else if k = 1 then f1 else if k = 2 then f2 else if k = 3 then f3 else if k = 4 then f4 else if k = 5 then f5 else f6), ?_⟩
  intro k q hq
  match k, hq with
  | 0, hq => cases hq; exact k0
  | 1, hq => cases hq; exact k1
  | 2, hq => cases hq; exact k2
  | 3, hq => cases hq; exact k3
  | 4, hq => cases hq; exact k4
  | 5, hq => cases hq; exact k5
  | 6, hq => cases hq; exact k6
  | k + 7, hq => simp [vwCl] at hq
set_option maxHeartbeats 4000000 in
set_option maxRecDepth 100000 in
theorem law_nest {s : State} {args : Array Value} (hts : ∀ w ∈ lw_tbl, w.before args s = true) : NKt s := ⟨va_AO.of (hts _ (List.mem_of_getElem? (i := 89) (by decide +kernel))), va_Nw.of rfl (hts _ (List.mem_of_getElem? (i := 54) (by decide +kernel))), va_Nw.of rfl (hts _ (List.mem_of_getElem? (i := 90) (by decide +kernel))), va_Nw.of rfl (hts _ (List.mem_of_getElem? (i := 100) (by decide +kernel))), va_Nw.of rfl (hts _ (List.mem_of_getElem? (i := 115) (by decide +kernel))), va_Nw.of rfl (hts _ (List.mem_of_getElem? (i := 139) (by decide +kernel)))⟩
set_option maxHeartbeats 4000000 in
set_option maxRecDepth 100000 in
theorem law_arrays {s : State} {args : Array Value} (hts : ∀ w ∈ lw_tbl, w.before args s = true) {D : va_G} (hKc : ∀ (k : Nat) (q : vw_C), vwCl[k]? = some q → u_Kn s q.1 q.2.1 q.2.2 (D.1 k) (D.2 k)) : ∃ cI cS, va_K D vwCl (tysOf cI cS) s := by
  obtain ⟨cI, kI, compI, i1, i2, i3⟩ := Cond.arrayClass_spec (hts _ (TB_in ai_TB))
  obtain ⟨compS, cS, kS, j1, j2, j3, j4, j5⟩ := Cond.arrayOver_spec (n := "HunkSlides$State") (hts _ (List.mem_of_getElem? (i := 89) (by decide +kernel)))
  refine ⟨cI, cS, hKc, fun k q hq => ?_⟩
  match k, hq with
  | 0, hq => cases hq; exact ⟨fun n z => ⟨fun k h => (by cases h), kI, i2, compI, i3⟩, i1⟩
  | 1, hq => cases hq; exact ⟨fun n z => ⟨fun k h => (by cases h), kS, j3, compS, j4⟩, kS, compS, j3, j4, j1, j5⟩
  | k + 2, hq => simp at hq
set_option maxHeartbeats 4000000 in
set_option maxRecDepth 100000 in
theorem law_text {s : State} {b : Nat} (hts : ∀ w ∈ lw_tbl, w.before #[Value.ref b] s = true) (hgv : (Jvm.Cond.and given_1 narrow_1).before #[Value.ref b] s = true) :
    ∃ aK aV : Nat, vk_R "HunkSlides" sgIdx sgTx aK s ∧ vk_S 1 [9] [[97, 98, 99, 100, 101, 102, 46, 123, 125]] (fun _ => aK) (fun _ => aV) (inB s.heap.size) s s.heap ∧ va_Z "java/lang/String" "COMPACT_STRINGS" "Z" (.int 1) (inB s.heap.size) s s.heap := by
  have hfl := flat_of_before _ hgv
  have hA : ∀ a : Nat, a < s.heap.size → ¬ inB s.heap.size a := fun a ha => Nat.not_le.mpr ha
  obtain ⟨adK, adV, hS0, hev⟩ := vk_Sof (args := #[Value.ref b]) (s := s) (N := 1) (tm := fun _ => Term.string "HunkSlides" 223) (len := [9]) (byt := [[97, 98, 99, 100, 101, 102, 46, 123, 125]]) (A := inB s.heap.size)
    (fun i hi => by
      have : i = 0 := by omega
      subst this
      decide)
    (fun i _ => hfl _ (by decide +kernel)) (fun i _ => hfl _ (by decide +kernel)) (fun i _ => hfl _ (by decide +kernel))
    (fun i hi => by
      have : i = 0 := by omega
      subst this
      exact hfl _ (by decide +kernel))
    (fun i hi j hj => by
      have : i = 0 := by omega
      subst this
      have hj : j < 9 := hj
      rcases (show j = 0 ∨ j = 1 ∨ j = 2 ∨ j = 3 ∨ j = 4 ∨ j = 5 ∨ j = 6 ∨ j = 7 ∨ j = 8 by omega) with rfl | rfl | rfl | rfl | rfl | rfl | rfl | rfl | rfl
      · exact hfl _ (by decide +kernel)
      · exact hfl _ (by decide +kernel)
      · exact hfl _ (by decide +kernel)
      · exact hfl _ (by decide +kernel)
      · exact hfl _ (by decide +kernel)
      · exact hfl _ (by decide +kernel)
      · exact hfl _ (by decide +kernel)
      · exact hfl _ (by decide +kernel)
      · exact hfl _ (by decide +kernel))
    (fun i j hi hj hne => absurd (show i = j by omega) hne) hA
  refine ⟨adK 0, adV 0, vk_R.of (hts _ (List.mem_of_getElem? (i := 611) (by decide +kernel))) (hev 0 (by decide)), ⟨fun i hi => ?_, fun i j hi hj _ => by omega⟩, va_Zof (hts _ (List.mem_of_getElem? (i := 621) (by decide +kernel))) (hts _ (TB_in (tb_in 29 (by decide +kernel) (by decide +kernel)))) (va_eqi (hfl _ (by decide +kernel))) hA⟩
  have : i = 0 := by omega
  subst this
  exact hS0.1 0 (by decide)
set_option maxHeartbeats 4000000 in
set_option maxRecDepth 100000 in
/-- the law's own end -/
theorem lret_ok {p : Program} {l : Launch} {e : Env} {s : State} {m : MethodId} {below : List Frame} {meth : Method} {c : Code} {D : va_G} {cI cS : ClassId} {ad : Nat → Nat} {b : Nat} {h' : MH} (hx : p.tables.exec = Jvm.exec) (hb : c.code = code) (hr : meth.sig.returnType = ret) (hlocks : meth.locks = false) :
    R_ret code ret (fun r2 h2 => r2 = some (vI 1) ∧ h2 = h') (WM p l e room_1 s m #[Value.ref b] below meth c 600000 7302250 (lw_Z below #[Value.ref b] s) D cI cS ad (inB s.heap.size) 6) := by
  refine ⟨?_, ?_, ?_, ?_, ?_⟩
  · intro pc L h z hd hr2
    exact absurd hr2 (by decide)
  · intro pc L h z hd hr2 hz ⟨e1, e2⟩ hoL hoS H ls locs hw hS hl
    cases e1
    have hd0 := Drawn.sameBut.refl s.drawn lw_cs
    refine va_forget (fun q hq => hS.2.2 q hq) ?_
    refine W.base ?_
    exact lw_ret hd0 hx hb hr hlocks (dk_eq hd)
  · intro pc L h o hd hr2
    obtain ⟨n, hr2⟩ := hr2
    exact absurd hr2 (by intro q; cases q)
  · intro pc L h z hd hr2
    exact absurd hr2 (by decide)
  · intro pc L h hd hr2
    exact absurd hr2 (by decide)
set_option maxHeartbeats 4000000 in
set_option maxRecDepth 100000 in
theorem whole_start {p : Program} {e : Env} {s : State} {m : MethodId} {below : List Frame} {meth : Method} {c : Code} (l : Launch) (hflags : l.flags = flags0) {b L : Nat} {xs : Nat → Int32} (hL : L ≤ 260) (C0 : lw_At p s m meth c b L xs) : W p l e room_1 s m #[Value.ref b] below meth c s.heap [] 0 0 (lw_Z below #[Value.ref b] s) (entryFrame m ([Value.ref b] : List Value).toArray 6) := by
  obtain ⟨hx, hb, hr, hml, hown, hts, hX, hbl, hlocks, hgv⟩ := C0
  have hTB : ∀ w ∈ TB, w.before #[Value.ref b] s = true := fun w hw => hts w (TB_in hw)
  obtain ⟨D, hKc⟩ := law_known hTB
  obtain ⟨cI, cS, hK⟩ := law_arrays hts hKc
  obtain ⟨aK, aV, hR1, hS1, hZ1⟩ := law_text hts hgv
  have hNK := law_nest hts
  have hE : ∃ ad : Nat → Nat, (∀ i, i < NC → ad i = s.heap.size + i) ∧ ad 100 = b ∧ EXT ad (inB s.heap.size) s s.heap := by
    refine ⟨fun i => if i < NC then s.heap.size + i else if i = 100 then b else if i = 101 then aK else aV, fun i hi => if_pos hi, rfl, hR1, hS1, hZ1⟩
  obtain ⟨ad, ha1, ha2, hE⟩ := hE
  have hX1 : CXP RX9 code 6 p s m #[Value.ref b] meth c D cI cS := ⟨hx, hb, hml, hown, hTB, hK, hNK⟩
  have hX2 : CX RX9 code 6 ret p s m #[Value.ref b] meth c D cI cS ad (inB s.heap.size) := ⟨hx, hb, hml, hr, hown, hTB, hK, hlocks, hE⟩
  have hM : RMX 8 room_1 600000 7302250 := ⟨(Nat.le_of_ble_eq_true rfl), (Nat.le_of_ble_eq_true rfl), (Nat.le_of_ble_eq_true rfl), (Nat.le_of_ble_eq_true rfl)⟩
  have hRu := rules_ok (l := l) (e := e) (below := below) (Q := lw_Z below #[Value.ref b] s) hX2 hM flok_X9
  have hXs : va_X (ad 100) L xs s s.heap := by rw [ha2]; exact hX
  have hbs : ad 100 < s.heap.size := by rw [ha2]; exact hbl
  have hC : CELLR xs L (WM p l e room_1 s m #[Value.ref b] below meth c 600000 7302250 (lw_Z below #[Value.ref b] s) D cI cS ad (inB s.heap.size) 6) := fun pc z L st h hz hst hd hk => wm_cell hX2 hM (by decide) hXs hbs (Nat.not_le.mpr hbs) (by omega) hz hst (dk_eq hd) hk
  obtain ⟨h1, e1⟩ := law_1 xs L
  have hA := crules_ok (l := l) (e := e) (below := below) (R := room_1) (Q := lw_Z below #[Value.ref b] s) (ad := ad) (base := s.heap.size) (fl := fl0) (d := 8) hX1 ⟨(Nat.le_of_ble_eq_true rfl), (Nat.le_of_ble_eq_true rfl)⟩
  have hl := lv_entry ([.ref b]) (n := 6) (Nat.le_of_ble_eq_true rfl)
  rw [lg_entry_eq]
  generalize (lg_sl ([.ref b]) ++ List.replicate (6 - (lg_sl ([.ref b])).length) Slot.unset).toArray = ls at hl ⊢
  have hl : lv_has ls 6 ([(0, vR 100)].map (tl ad)) := by
    show lv_has ls 6 [(0, Value.ref (ad 100))]
    rw [ha2]
    exact hl
  have hw0 : wldP D cI cS ad s.heap.size 0 (fun _ _ => 0) s.heap := ⟨fun k q hq => (by cases hq), ⟨fun i j x y hi => (by cases hi), fun k q hq => (by cases hq)⟩, fun _ _ => (by show inR 0; unfold inR; omega), rfl, ha1⟩
  have go : WP p l e room_1 s m #[Value.ref b] below meth c (lw_Z below #[Value.ref b] s) D cI cS ad s.heap.size 6 0 0 0 [(0, vR 100)] [] 0 (fun _ _ => 0) := by
    refine hA.2.2.2.2.2.1 _ _ 0 9 6 0 _ _ _ nwc_L_9 rfl (Nat.le_of_ble_eq_true rfl) (Nat.le_of_ble_eq_true rfl) (by decide +kernel) ?_
    refine hA.2.1 _ _ 3 0 _ _ _ _ (by decide +kernel) ?_
    refine hA.2.2.2.2.2.2 _ _ 4 71 4 0 1 1 76 75 999 yX6_init cX6_init [] [vR 0] _ _ _ _ myi_X6 lki_L_71 (by decide) (I_X6 _) rfl (Nat.le_of_ble_eq_true rfl) (by decide +kernel) (Nat.le_of_ble_eq_true rfl) (Nat.le_of_ble_eq_true rfl) ?_
    refine wp_astore hX1 1 rfl (by decide) (by decide +kernel) ?_
    refine wp_wm (cells' := 600000) (slots' := 7302250) (Nat.le_of_ble_eq_true rfl) (Nat.le_of_ble_eq_true rfl) ?_
    refine hRu.2.1 _ _ [(0, vR 100), (1, vR 0)] _ _ (sub_of [1, 0] rfl) ?_
    exact T_L_law hRu hC (lret_ok hx hb hr hlocks) e1
  exact go (fun q hq => by
    have : q = (0, vR 100) := by simpa using hq
    subst this
    exact trivial) (fun v hv => by cases hv) s.heap ls [] hw0 va_S.rf hl

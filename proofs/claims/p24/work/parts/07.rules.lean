/-! ===== the rules: what a judgement K over the mini machine obeys; a method's walk speaks of any such K ===== -/
def dk (cc : ByteArray) (pc : Nat) (I : Instr) (n : Nat) : Bool := decide (decode cc pc = .ok (I, n))
def cmpB : ClassFile.Cond → Int → Int → Prop
  | .eq, x, y | .ne, x, y => x = y
  | .lt, x, y | .ge, x, y => x < y
  | .le, x, y | .gt, x, y => x ≤ y
def jt : ClassFile.Cond → Nat → Nat → Nat
  | .eq, a, _ | .lt, a, _ | .le, a, _ => a
  | .ne, _, b | .ge, _, b | .gt, _, b => b
def swT (pc : Nat) (dflt lo hi : Int) (offs : List Int) (x : Int) : Nat :=
  if x < lo ∨ hi < x then ((pc : Int) + dflt).toNat else ((pc : Int) + offs.getD (x - lo).toNat 0).toNat
abbrev KT : Type := Nat → ML → List MV → MH → Prop
def R_seg (cc : ByteArray) (nL : Nat) (fl : Nat → Option (Nat × Nat)) (K : KT) : Prop := ∀ (is : List Instr) (pc : Nat) (L L' : ML) (st st' : List MV) (h h' : MH) (P : Prop), sits cc pc is = true → mrun fl nL is L st h = some ((L', st', h'), P) → P → K (pc + plen is) L' st' h' → K pc L st h
def R_sub (K : KT) : Prop := ∀ (pc : Nat) (L L' : ML) (st : List MV) (h : MH), (∀ q ∈ L', q ∈ L) → K pc L' st h → K pc L st h
def R_goto (cc : ByteArray) (K : KT) : Prop := ∀ (pc : Nat) (off : Int) (tgt : Nat) (L : ML) (st : List MV) (h : MH), dk cc pc (.goto off) 3 = true → (pc : Int) + off = (tgt : Int) → K tgt L st h → K pc L st h
def R_icmp (cc : ByteArray) (K : KT) : Prop := ∀ (pc : Nat) (cd : ClassFile.Cond) (off : Int) (tgt : Nat) (L : ML) (st : List MV) (h : MH) (x y : Int), dk cc pc (.if_icmp cd off) 3 = true → (pc : Int) + off = (tgt : Int) → (cmpB cd x y → K (jt cd tgt (pc + 3)) L st h) → (¬ cmpB cd x y → K (jt cd (pc + 3) tgt) L st h) → K pc L (vI y :: vI x :: st) h
def R_ifz (cc : ByteArray) (K : KT) : Prop := ∀ (pc : Nat) (cd : ClassFile.Cond) (off : Int) (tgt : Nat) (L : ML) (st : List MV) (h : MH) (x : Int), dk cc pc (.ifCond cd off) 3 = true → (pc : Int) + off = (tgt : Int) → (cmpB cd x 0 → K (jt cd tgt (pc + 3)) L st h) → (¬ cmpB cd x 0 → K (jt cd (pc + 3) tgt) L st h) → K pc L (vI x :: st) h
def R_null (cc : ByteArray) (K : KT) : Prop := ∀ (pc : Nat) (off : Int) (tgt : Nat) (L : ML) (st : List MV) (h : MH) (o : Option Nat), dk cc pc (.ifnull off) 3 = true → (pc : Int) + off = (tgt : Int) → (o = none → K tgt L st h) → (∀ i, o = some i → K (pc + 3) L st h) → K pc L (vO o :: st) h
def R_sw (cc : ByteArray) (K : KT) : Prop := ∀ (pc : Nat) (dflt lo hi : Int) (offs : Array Int) (len : Nat) (L : ML) (st : List MV) (h : MH) (x : Int), dk cc pc (.tableswitch dflt lo hi offs) len = true → ((0 ≤ (pc : Int) + dflt) ∧ (∀ o ∈ offs.toList, 0 ≤ (pc : Int) + o) ∧ hi - lo < offs.toList.length) → K (swT pc dflt lo hi offs.toList x) L st h → K pc L (vI x :: st) h
def R_ldc (own : String) (cc : ByteArray) (K : KT) : Prop := ∀ (pc : Nat) (L : ML) (st : List MV) (h : MH), own = "HunkSlides" → dk cc pc (.ldc sgIdx) 2 = true → K (pc + 2) L (vR 101 :: st) h → K pc L st h
def R_callV (own : String) (cc : ByteArray) (d : Nat) (K : KT) : Prop := ∀ (pc idx d' ci i maxL : Nat) (y : MethodName) (bytes : ByteArray) (ret' : Option FieldType) (vs rest : List MV) (L : ML) (h h' : MH) (r : Option MV), MY y bytes maxL ret' vs.length → VW own idx y → d' < d →
    CON d' y bytes maxL ret' (vR i :: vs) h r h' → kd i = ci + 2 → (vwCl[ci]?).map (fun q => q.1) = some y.cls → rest.length ≤ 4 → dk cc pc (.invokevirtual idx) 3 = true → K (pc + 3) L (r.toList ++ rest) h' → K pc L (vs.reverse ++ vR i :: rest) h
def R_callS (own : String) (cc : ByteArray) (d : Nat) (K : KT) : Prop := ∀ (pc idx d' maxL : Nat) (y : MethodName) (bytes : ByteArray) (ret' : Option FieldType) (vs rest : List MV) (L : ML) (h h' : MH) (r : Option MV), MY y bytes maxL ret' vs.length → SW own idx y → d' < d →
    CON d' y bytes maxL ret' vs h r h' → rest.length ≤ 4 → dk cc pc (.invokestatic idx) 3 = true → K (pc + 3) L (r.toList ++ rest) h' → K pc L (vs.reverse ++ rest) h
def R_callG (own : String) (cc : ByteArray) (d : Nat) (K : KT) : Prop := ∀ (pc idx d' maxL : Nat) (y : MethodName) (bytes : ByteArray) (ret' : Option FieldType) (vs rest : List MV) (L : ML) (h h' : MH) (r : Option MV), y.cls = "java/lang/String" → MY y bytes maxL ret' vs.length → VW own idx y → d' < d →
    CON d' y bytes maxL ret' (vR 101 :: vs) h r h' → rest.length ≤ 4 → dk cc pc (.invokevirtual idx) 3 = true → K (pc + 3) L (r.toList ++ rest) h' → K pc L (vs.reverse ++ vR 101 :: rest) h
def imax (x y : Int) : Int := if x < y then y else x
def imin (x y : Int) : Int := if y < x then y else x
def MW (own : String) (idx : Nat) (y : MethodName) (b : ByteArray) : Prop := Cond.methodLink own idx y ∈ TB ∧ Cond.static y ∈ TB ∧ Cond.initialized "java/lang/Math" ∈ TB ∧ Cond.code y b 2 (some .int) ∈ TB
set_option maxRecDepth 100000 in
theorem ldc_TB : Cond.constant RL 7 2147483647 ∈ TB := List.mem_filter.mpr ⟨List.mem_of_getElem? (i := 530) (by decide +kernel), by decide +kernel⟩
def R_math (own : String) (cc : ByteArray) (d : Nat) (K : KT) : Prop :=
  (∀ (pc idx : Nat) (L : ML) (st : List MV) (h : MH) (x y : Int), 1 ≤ d → MW own idx Lib.Math.max.name Lib.Math.max.code → st.length ≤ 4 → dk cc pc (.invokestatic idx) 3 = true → K (pc + 3) L (vI (imax x y) :: st) h → K pc L (vI y :: vI x :: st) h) ∧
  (∀ (pc idx : Nat) (L : ML) (st : List MV) (h : MH) (x y : Int), 1 ≤ d → MW own idx Lib.Math.min.name Lib.Math.min.code → st.length ≤ 4 → dk cc pc (.invokestatic idx) 3 = true → K (pc + 3) L (vI (imin x y) :: st) h → K pc L (vI y :: vI x :: st) h) ∧
  (∀ (pc : Nat) (L : ML) (st : List MV) (h : MH), own = RL → dk cc pc (.ldc 7) 2 = true → K (pc + 2) L (vI 2147483647 :: st) h → K pc L st h)
def R_ret (cc : ByteArray) (ret : Option FieldType) (Post : Option MV → MH → Prop) (K : KT) : Prop :=
  (∀ (pc : Nat) (L : ML) (h : MH) (z : Int), dk cc pc .ireturn 1 = true → ret = some .int → Post (some (vI z)) h → K pc L [vI z] h) ∧
  (∀ (pc : Nat) (L : ML) (h : MH) (z : Int), dk cc pc .ireturn 1 = true → ret = some .boolean → (z = 0 ∨ z = 1) → Post (some (vI z)) h → K pc L [vI z] h) ∧
  (∀ (pc : Nat) (L : ML) (h : MH) (o : Option Nat), dk cc pc .areturn 1 = true → (∃ n, ret = some (.object n)) → Post (some (vO o)) h → K pc L [vO o] h) ∧
  (∀ (pc : Nat) (L : ML) (h : MH) (z : UInt64), dk cc pc .dreturn 1 = true → ret = some .double → Post (some (vD z)) h → K pc L [vD z] h) ∧
  (∀ (pc : Nat) (L : ML) (h : MH), dk cc pc .return_ 1 = true → ret = none → Post none h → K pc L [] h)
def Rules (own : String) (cc : ByteArray) (nL : Nat) (ret : Option FieldType) (fl : Nat → Option (Nat × Nat)) (d : Nat) (K : KT) : Prop :=
  R_seg cc nL fl K ∧ R_sub K ∧ R_goto cc K ∧ R_icmp cc K ∧ R_ifz cc K ∧ R_null cc K ∧ R_sw cc K ∧ R_ldc own cc K ∧ R_callV own cc d K ∧ R_callS own cc d K ∧ R_callG own cc d K ∧ R_math own cc d K
section RULES
variable {p : Program} {l : Launch} {e : Env} {R : Room} {s : State} {m : MethodId} {args : Array Value} {below : List Frame} {meth : Method} {c : Code} {cells slots : Nat} {Q : State → Prop} {D : va_G} {cI cS : ClassId} {ad : Nat → Nat} {A : Nat → Prop} {nL : Nat}
variable {own : String} {cc : ByteArray} {ret : Option FieldType} {fl : Nat → Option (Nat × Nat)} {pc : Nat}
theorem dk_eq {I : Instr} {n : Nat} (h : dk cc pc I n = true) : decode cc pc = .ok (I, n) := of_decide_eq_true h
theorem wm_callG (hX : CX own cc nL ret p s m args meth c D cI cS ad A) {d : Nat} (hM : RMX d R cells slots) {idx d' maxL : Nat} {y : MethodName} {bytes : ByteArray} {ret' : Option FieldType} {vs rest : List MV} {L : ML} {h h' : MH} {r : Option MV} (hyc : y.cls = "java/lang/String") (hmy : MY y bytes maxL ret' vs.length) (hvw : VW own idx y) (hdd : d' < d)
    (hc : CON d' y bytes maxL ret' (vR 101 :: vs) h r h') (hrest : rest.length ≤ 4) (hd : decode cc pc = .ok (.invokevirtual idx, 3))
    (hk : WM p l e R s m args below meth c cells slots Q D cI cS ad A nL (pc + 3) L (r.toList ++ rest) h') : WM p l e R s m args below meth c cells slots Q D cI cS ad A nL pc L (vs.reverse ++ vR 101 :: rest) h := by
  obtain ⟨hx, hb, hml, hr, hown, hts, hK, hlocks, hE⟩ := hX
  intro hoL hoS H ls locs hw hS hl
  have hoV : ∀ v ∈ vR 101 :: vs, okV v := okc (v := vR 101) trivial (fun v hv => hoS v (List.mem_append_left _ (List.mem_reverse.mpr hv)))
  have hoR : ∀ v ∈ rest, okV v := fun v hv => hoS v (List.mem_append_right _ (List.mem_cons_of_mem _ hv))
  have hwin := wld_in hw
  have hsub := inA_sub hw
  have cw : CallW R s args own y.cls idx y bytes maxL ret' (Cond.code y bytes maxL ret' :: TB) (rmd d') 0 0 vs.length := by
    refine cwV (Ts := TB) vs.length hts (good_all ?_) rfl rfl rfl ⟨rfl, hmy.2.2.1⟩ ⟨?_, ?_⟩
    · intro w hw
      unfold wsV at hw
      simp only [List.cons_append, List.nil_append, List.mem_cons] at hw
      rcases hw with rfl | rfl | rfl | rfl | rfl | hw
      · exact hvw.1
      · exact hvw.2.1
      · exact hvw.2.2
      · exact hmy.2.1
      · exact hmy.1
      · exact hw
    · show d' + 1 ≤ R.frames
      have := hM.1
      omega
    · show 8 + (maxL + 11) + 40 * d' ≤ R.locals
      have := hM.2.1
      have := hmy.2.2.2
      omega
  have hrec := vk_recv (i := 0) hE.2.1 (by omega) hS
  have hrun := va_runV (As := vs.map (tv ad)) (rest := rest.map (tv ad)) (b := ad 101) (C := y.cls) (g := F0 m pc ls ((vs.reverse ++ vR 101 :: rest).map (tv ad))) (H := H) (locs := locs) (cells := cells) (slots := slots) (e := e) (below := below) (meth := meth)
    ⟨hx, hb, hml, hown, hts⟩ (hc l D cI cS ad hoV) cw ⟨PM_blind, by rw [hyc]; exact hrec, fun U hU hW => ⟨by simp [tv], by rw [hU]; exact hwin, va_K.moved hW.alike hK, by rw [hU]; exact EXT_down hE hS hW hsub⟩⟩ rfl (by simp) hl.1 (by simp [tv]) (lv_room (cat_sum hrest)) hd ⟨hM.2.2.1, hM.2.2.2⟩
  exact wm_back (idx := idx) hw hS hl hoL hoR hrun hk
theorem rules_ok (hX : CX own cc nL ret p s m args meth c D cI cS ad A) {d : Nat} (hM : RMX d R cells slots) (hf : flok own fl) : Rules own cc nL ret fl d (WM p l e R s m args below meth c cells slots Q D cI cS ad A nL) := by
  have hX0 := hX
  obtain ⟨hx, hb, hml, hr, hown, hts, hK, hlocks, hE⟩ := hX
  refine ⟨fun is pc L L' st st' h h' P => run_ok hX0 hf is pc L L' st st' h h' P, ?_, ?_, ?_, ?_, ?_, ?_, ?_, ?_, ?_, ?_, ?_, ?_, ?_⟩
  · intro pc L L' st h hs hk hoL hoS H ls locs hw hS hl
    refine hk (fun q hq => hoL q (hs q hq)) hoS H ls locs hw hS ⟨hl.1, hl.2.1, fun q hq => ?_⟩
    obtain ⟨q0, h1, rfl⟩ := List.mem_map.mp hq
    exact hl.2.2 _ (List.mem_map_of_mem (hs q0 h1))
  · intro pc off tgt L st h hd ht hk hoL hoS H ls locs hw hS hl
    exact lv_goto hx hb (dk_eq hd) ht (hk hoL hoS H ls locs hw hS hl)
  · intro pc cd off tgt L st h x y hd ht kt kf hoL hoS H ls locs hw hS hl
    have hy0 : inR y := hoS (vI y) List.mem_cons_self
    have hx0 : inR x := hoS (vI x) (List.mem_cons_of_mem _ List.mem_cons_self)
    have hoR : ∀ v ∈ st, okV v := fun v hv => hoS v (List.mem_cons_of_mem _ (List.mem_cons_of_mem _ hv))
    have d0 := dk_eq hd
    cases cd with
    | eq => exact lv_icmp_eq hx hb d0 ht (fun q => kt ((oi_eq hx0 hy0).mp q) hoL hoR H ls locs hw hS hl) (fun q => kf (fun z => q ((oi_eq hx0 hy0).mpr z)) hoL hoR H ls locs hw hS hl)
    | ne => exact lv_icmp_ne hx hb d0 ht (fun q => kf (fun z => q ((oi_eq hx0 hy0).mpr z)) hoL hoR H ls locs hw hS hl) (fun q => kt ((oi_eq hx0 hy0).mp q) hoL hoR H ls locs hw hS hl)
    | lt => exact lv_icmp_lt hx hb d0 ht (fun q => kt ((oi_lt hx0 hy0).mp q) hoL hoR H ls locs hw hS hl) (fun q => kf (fun z => q ((oi_lt hx0 hy0).mpr z)) hoL hoR H ls locs hw hS hl)
    | ge => exact lv_icmp_ge hx hb d0 ht (fun q => kf (fun z => by have := (oi_le hy0 hx0).mp q; unfold cmpB at z; omega) hoL hoR H ls locs hw hS hl) (fun q => kt (by unfold cmpB; have := mt (oi_le hy0 hx0).mpr q; omega) hoL hoR H ls locs hw hS hl)
    | gt => exact lv_icmp_gt hx hb d0 ht (fun q => kf (fun z => by have := (oi_lt hy0 hx0).mp q; unfold cmpB at z; omega) hoL hoR H ls locs hw hS hl) (fun q => kt (by unfold cmpB; have := mt (oi_lt hy0 hx0).mpr q; omega) hoL hoR H ls locs hw hS hl)
    | le => exact lv_icmp_le hx hb d0 ht (fun q => kt ((oi_le hx0 hy0).mp q) hoL hoR H ls locs hw hS hl) (fun q => kf (fun z => q ((oi_le hx0 hy0).mpr z)) hoL hoR H ls locs hw hS hl)
  · intro pc cd off tgt L st h x hd ht kt kf hoL hoS H ls locs hw hS hl
    have hy0 : inR (0 : Int) := by unfold inR; omega
    have hx0 : inR x := hoS (vI x) List.mem_cons_self
    have hoR : ∀ v ∈ st, okV v := fun v hv => hoS v (List.mem_cons_of_mem _ hv)
    have d0 := dk_eq hd
    cases cd with
    | eq => exact lv_if_eq hx hb d0 ht (fun q => kt ((oi_eq hx0 hy0).mp q) hoL hoR H ls locs hw hS hl) (fun q => kf (fun z => q ((oi_eq hx0 hy0).mpr z)) hoL hoR H ls locs hw hS hl)
    | ne => exact lv_if_ne hx hb d0 ht (fun q => kf (fun z => q ((oi_eq hx0 hy0).mpr z)) hoL hoR H ls locs hw hS hl) (fun q => kt ((oi_eq hx0 hy0).mp q) hoL hoR H ls locs hw hS hl)
    | lt => exact lv_if_lt hx hb d0 ht (fun q => kt ((oi_lt hx0 hy0).mp q) hoL hoR H ls locs hw hS hl) (fun q => kf (fun z => q ((oi_lt hx0 hy0).mpr z)) hoL hoR H ls locs hw hS hl)
    | ge => exact lv_if_ge hx hb d0 ht (fun q => kf (fun z => by have := (oi_le hy0 hx0).mp q; unfold cmpB at z; omega) hoL hoR H ls locs hw hS hl) (fun q => kt (by unfold cmpB; have := mt (oi_le hy0 hx0).mpr q; omega) hoL hoR H ls locs hw hS hl)
    | gt => exact lv_if_gt hx hb d0 ht (fun q => kf (fun z => by have := (oi_lt hy0 hx0).mp q; unfold cmpB at z; omega) hoL hoR H ls locs hw hS hl) (fun q => kt (by unfold cmpB; have := mt (oi_lt hy0 hx0).mpr q; omega) hoL hoR H ls locs hw hS hl)
    | le => exact lv_if_le hx hb d0 ht (fun q => kt ((oi_le hx0 hy0).mp q) hoL hoR H ls locs hw hS hl) (fun q => kf (fun z => q ((oi_le hx0 hy0).mpr z)) hoL hoR H ls locs hw hS hl)
  · intro pc off tgt L st h o hd ht kt kf hoL hoS H ls locs hw hS hl
    have hoR : ∀ v ∈ st, okV v := fun v hv => hoS v (List.mem_cons_of_mem _ hv)
    cases o with
    | none => exact lv_ifnullN hx hb (dk_eq hd) ht (kt rfl hoL hoR H ls locs hw hS hl)
    | some i => exact lv_ifnull hx hb (dk_eq hd) (kf i rfl hoL hoR H ls locs hw hS hl)
  · intro pc dflt lo hi offs len L st h x hd hq hk hoL hoS H ls locs hw hS hl
    have hx0 : inR x := hoS (vI x) List.mem_cons_self
    have hoR : ∀ v ∈ st, okV v := fun v hv => hoS v (List.mem_cons_of_mem _ hv)
    have k9 := hk hoL hoR H ls locs hw hS hl
    unfold swT at k9
    by_cases hc : x < lo ∨ hi < x
    · rw [if_pos hc] at k9
      exact lv_tableOut hx hb (dk_eq hd) (by rw [ti hx0]; exact hc) (tgt := ((pc : Int) + dflt).toNat) (by have := hq.1; omega) k9
    · rw [if_neg hc] at k9
      have hlen : (x - lo).toNat < offs.toList.length := by have := hq.2.2; omega
      have hget : offs[(x - lo).toNat]? = some (offs.toList.getD (x - lo).toNat 0) := by
        rw [← Array.getElem?_toList, List.getD_eq_getElem?_getD, List.getElem?_eq_getElem hlen]
        rfl
      have hmem : offs.toList.getD (x - lo).toNat 0 ∈ offs.toList := by
        rw [List.getD_eq_getElem?_getD, List.getElem?_eq_getElem hlen]
        exact List.getElem_mem hlen
      have hpos := hq.2.1 _ hmem
      exact lv_tableIn hx hb (dk_eq hd) (by rw [ti hx0]; omega) (by rw [ti hx0]; omega) (off := offs.toList.getD (x - lo).toNat 0) (by rw [ti hx0]; exact hget) (tgt := ((pc : Int) + offs.toList.getD (x - lo).toNat 0).toNat) (by omega) k9
  · intro pc L st h ho hd hk hoL hoS H ls locs hw hS hl
    subst ho
    exact va_ldcS hx hb hown hE.1 (dk_eq hd) (hk hoL (okc (v := vR 101) trivial hoS) H ls locs hw hS hl)
  · intro pc idx d' ci i maxL y bytes ret' vs rest L h h' r h1 h2 h3 h4 h5 h6 h7 h8 hk
    exact wm_callV hX0 hM h1 h2 h3 h4 h5 h6 h7 (dk_eq h8) hk
  · intro pc idx d' maxL y bytes ret' vs rest L h h' r h1 h2 h3 h4 h7 h8 hk
    exact wm_callS hX0 hM h1 h2 h3 h4 h7 (dk_eq h8) hk
  · intro pc idx d' maxL y bytes ret' vs rest L h h' r h0 h1 h2 h3 h4 h7 h8 hk
    exact wm_callG hX0 hM h0 h1 h2 h3 h4 h7 (dk_eq h8) hk
  · intro pc idx L st h x y h1 hm hlen hd hk hoL hoS H ls locs hw hS hl
    have hy0 : inR y := hoS (vI y) List.mem_cons_self
    have hx0 : inR x := hoS (vI x) (List.mem_cons_of_mem _ List.mem_cons_self)
    have hoR : ∀ v ∈ st, okV v := fun v hv => hoS v (List.mem_cons_of_mem _ (List.mem_cons_of_mem _ hv))
    have hv : okV (vI (imax x y)) := by show inR _; unfold imax; split <;> assumption
    have k9 := hk hoL (okc hv hoR) H ls locs hw hS hl
    have hs := cat_sum (ad := ad) hlen
    refine va_mmax hx hb (hml.trans hl.1.symm) hown (hts _ hm.1) (hts _ hm.2.1) (hts _ hm.2.2.1) (hts _ hm.2.2.2) (by have := hM.1; omega) (by have := hM.2.1; omega) hM.2.2.1 hM.2.2.2 (dk_eq hd) ?_
    have e9 : (if Int32.ofInt x < Int32.ofInt y then Int32.ofInt y else Int32.ofInt x) = Int32.ofInt (imax x y) := by
      unfold imax
      by_cases hc : x < y
      · rw [if_pos hc, if_pos ((oi_lt hx0 hy0).mpr hc)]
      · rw [if_neg hc, if_neg (fun z => hc ((oi_lt hx0 hy0).mp z))]
    rw [e9]
    exact k9
  · intro pc idx L st h x y h1 hm hlen hd hk hoL hoS H ls locs hw hS hl
    have hy0 : inR y := hoS (vI y) List.mem_cons_self
    have hx0 : inR x := hoS (vI x) (List.mem_cons_of_mem _ List.mem_cons_self)
    have hoR : ∀ v ∈ st, okV v := fun v hv => hoS v (List.mem_cons_of_mem _ (List.mem_cons_of_mem _ hv))
    have hv : okV (vI (imin x y)) := by show inR _; unfold imin; split <;> assumption
    have k9 := hk hoL (okc hv hoR) H ls locs hw hS hl
    have hs := cat_sum (ad := ad) hlen
    refine va_mmin hx hb (hml.trans hl.1.symm) hown (hts _ hm.1) (hts _ hm.2.1) (hts _ hm.2.2.1) (hts _ hm.2.2.2) (by have := hM.1; omega) (by have := hM.2.1; omega) hM.2.2.1 hM.2.2.2 (dk_eq hd) ?_
    have e9 : (if Int32.ofInt y < Int32.ofInt x then Int32.ofInt y else Int32.ofInt x) = Int32.ofInt (imin x y) := by
      unfold imin
      by_cases hc : y < x
      · rw [if_pos hc, if_pos ((oi_lt hy0 hx0).mpr hc)]
      · rw [if_neg hc, if_neg (fun z => hc ((oi_lt hy0 hx0).mp z))]
    rw [e9]
    exact k9
  · intro pc L st h ho hd hk hoL hoS H ls locs hw hS hl
    subst ho
    exact lv_ldc hx hb hown (hts _ ldc_TB) (dk_eq hd) (hk hoL (okc (v := vI 2147483647) (by show inR _; unfold inR; omega) hoS) H ls locs hw hS hl)
end RULES
def entL : Nat → List MV → ML
  | _, [] => []
  | i, v :: vs => (i, v) :: entL (i + 1) vs
theorem entL_args (ad : Nat → Nat) : ∀ (vs : List MV) (i : Nat), vs.all (fun v => !c2 v) = true → lv_args i (vs.map (tv ad)) = (entL i vs).map (tl ad) := by
  intro vs
  induction vs with
  | nil => intro i _; rfl
  | cons v vs ih =>
    intro i h
    simp only [List.all_cons, Bool.and_eq_true] at h
    have hc : (tv ad v).category = 1 := tv_cat1 (by simpa using h.1)
    simp only [List.map_cons, lv_args, entL, hc]
    rw [← ih (i + 1) h.2]
    rfl
theorem entL_len (ad : Nat → Nat) : ∀ (vs : List MV), vs.all (fun v => !c2 v) = true → (lg_sl (vs.map (tv ad))).length = vs.length := by
  intro vs
  induction vs with
  | nil => intro _; rfl
  | cons v vs ih =>
    intro h
    simp only [List.all_cons, Bool.and_eq_true] at h
    have hc : (tv ad v).category = 1 := tv_cat1 (by simpa using h.1)
    have := ih h.2
    unfold lg_sl at this ⊢
    simp only [List.map_cons, List.flatMap_cons, hc, List.length_append, List.length_cons]
    rw [this]
    simp
    omega
theorem entL_ok : ∀ (vs : List MV) (i : Nat), (∀ v ∈ vs, okV v) → ∀ q ∈ entL i vs, okV q.2 := by
  intro vs
  induction vs with
  | nil => intro i _ q hq; cases hq
  | cons v vs ih =>
    intro i h q hq
    rcases List.mem_cons.mp hq with rfl | hq
    · exact h v List.mem_cons_self
    · exact ih (i + 1) (fun v hv => h v (List.mem_cons_of_mem _ hv)) q hq
/-- a method's contract out of its walk -/
theorem con_of {own : String} {cc : ByteArray} {nL : Nat} {ret : Option FieldType} {fl : Nat → Option (Nat × Nat)} {d : Nat} {y : MethodName} {vs : List MV} {h : MH} {r : Option MV} {h' : MH} (hy : plainName y.cls = true) (hyo : y.cls = own) (hf : flok own fl) (hc : vs.all (fun v => !c2 v) = true) (hn : vs.length ≤ nL)
    (hK : ∀ K : KT, Rules own cc nL ret fl d K → R_ret cc ret (fun r' h2 => r' = r ∧ h2 = h') K → K 0 (entL 0 vs) [] h) : CON d y cc nL ret vs h r h' := by
  intro l D cI cS ad hov
  refine Met.ofW hy rfl ?_
  intro p e s m args below meth c s₁ B hml hv
  obtain ⟨rfl, hw, hKK, hE⟩ := hv
  have hx := B.exec
  have hb := B.bytes
  have hr := B.returns
  have hts := atoms_spec (ws := Cond.code y cc nL ret :: TB) B.pre
  have hown : s.vm.findClass own = some m.cls := by rw [← hyo]; exact findClass_of_methodNamed B.named
  have hlocks := B.notSynchronized
  have hX : CX own cc nL ret p s m (vs.map (tv ad)).toArray meth c D cI cS ad (inA ad) := ⟨hx, hb, hml, hr, hown, fun w hw => hts w (List.mem_cons_of_mem _ hw), hKK, hlocks, hE⟩
  have hM : RMX d (headSpec (Cond.code y cc nL ret :: TB) (rmd d)).room 0 0 := ⟨Nat.le_refl _, Nat.le_refl _, Nat.le_refl _, Nat.le_refl _⟩
  have hRu := rules_ok (l := l) (e := e) (below := below) (Q := MQ below (QM D cI cS ad r h') (vs.map (tv ad)).toArray s 0 0 (inA ad)) hX hM hf
  rw [lg_entry_eq]
  have hl := lv_entry (vs.map (tv ad)) (n := nL) (by rw [entL_len ad vs hc]; exact hn)
  generalize (lg_sl (vs.map (tv ad)) ++ List.replicate (nL - (lg_sl (vs.map (tv ad))).length) Slot.unset).toArray = ls at hl ⊢
  rw [entL_args ad vs 0 hc] at hl
  refine hK _ hRu ?_ (entL_ok vs 0 hov) (fun v hv => by cases hv) s.heap ls [] hw va_S.rf hl
  refine ⟨?_, ?_, ?_, ?_, ?_⟩
  · intro pc L h z hd hr2 ⟨e1, e2⟩ hoL hoS H ls locs hw hS hl
    subst e1; subst e2
    exact W.iret hx hb (by rw [hr, hr2]) (fun t ht hW => ⟨rfl, fun v hv => by cases hv; exact hoS _ List.mem_cons_self, by rw [ht]; exact hw, hS.F ht⟩) hS.2.2 (dk_eq hd)
  · intro pc L h z hd hr2 hz ⟨e1, e2⟩ hoL hoS H ls locs hw hS hl
    subst e1; subst e2
    exact W.zret (ty := .boolean) hx hb (by rw [hr, hr2]) (by rcases hz with rfl | rfl <;> decide) (fun t ht hW => ⟨rfl, fun v hv => by cases hv; exact hoS _ List.mem_cons_self, by rw [ht]; exact hw, hS.F ht⟩) hS.2.2 (dk_eq hd)
  · intro pc L h o hd hr2 ⟨e1, e2⟩ hoL hoS H ls locs hw hS hl
    subst e1; subst e2
    obtain ⟨n, hr2⟩ := hr2
    refine W.aret (v := tv ad (vO o)) (rt := .object n) hx hb (by rw [hr, hr2]) (Or.inl ⟨n, rfl⟩) ?_ (fun t ht hW => ⟨rfl, fun v hv => by cases hv; exact trivial, by rw [ht]; exact hw, hS.F ht⟩) hS.2.2 (dk_eq hd)
    cases o with
    | none => exact Or.inl rfl
    | some i => exact Or.inr ⟨_, rfl⟩
  · intro pc L h z hd hr2 ⟨e1, e2⟩ hoL hoS H ls locs hw hS hl
    subst e1; subst e2
    exact W.dret hx hb (by rw [hr, hr2]) (fun t ht hW => ⟨rfl, fun v hv => by cases hv; exact trivial, by rw [ht]; exact hw, hS.F ht⟩) hS.2.2 (dk_eq hd)
  · intro pc L h hd hr2 ⟨e1, e2⟩ hoL hoS H ls locs hw hS hl
    subst e1; subst e2
    exact W.vret hx hb (by rw [hr, hr2]) (fun t ht hW => ⟨rfl, fun v hv => (by cases hv), by rw [ht]; exact hw, hS.F ht⟩) hS.2.2 (dk_eq hd)

/-! ===== contracts over the mini machine, and calls ===== -/
def rmd (d : Nat) : Room := { frames := d, cells := 0, slots := 0, locals := 40 * d }
def inA (ad : Nat → Nat) : Nat → Prop := fun q => ∃ i, i < NC ∧ q = ad i
def PM (D : va_G) (cI cS : ClassId) (ad : Nat → Nat) (h : MH) (U : State) : Prop := wld D cI cS ad (inA ad) h U.heap ∧ va_K D vwCl (tysOf cI cS) U ∧ EXT ad (inA ad) U U.heap
def QM (D : va_G) (cI cS : ClassId) (ad : Nat → Nat) (r : Option MV) (h' : MH) : Array Value → State → Outcome → State → Prop := fun _ st oc t => oc = .returned (r.map (tv ad)) ∧ (∀ v, r = some v → okV v) ∧ wld D cI cS ad (inA ad) h' t.heap ∧ va_F (inA ad) st t
/-- a method's contract: from the cells h with the arguments vs it answers r, the cells are h' then -/
def CON (d : Nat) (y : MethodName) (bytes : ByteArray) (maxL : Nat) (ret : Option FieldType) (vs : List MV) (h : MH) (r : Option MV) (h' : MH) : Prop :=
  ∀ (l : Launch) (D : va_G) (cI cS : ClassId) (ad : Nat → Nat), (∀ v ∈ vs, okV v) → Met l y (Cond.code y bytes maxL ret :: TB) (rmd d) (va_Pc (vs.map (tv ad)) (PM D cI cS ad h)) (QM D cI cS ad r h') 0 0 (inA ad)
def MY (y : MethodName) (bytes : ByteArray) (maxL : Nat) (ret : Option FieldType) (n : Nat) : Prop :=
  Cond.code y bytes maxL ret ∈ TB ∧ Cond.initialized y.cls ∈ TB ∧ (y.cls ≠ "java/lang/invoke/MethodHandle" ∧ y.cls ≠ "java/lang/invoke/VarHandle" ∧ (parseMethodDescriptor y.desc).map (fun d => d.parameters.length) = some n) ∧ maxL ≤ 21
def VW (own : String) (idx : Nat) (y : MethodName) : Prop := Cond.methodLink own idx y ∈ TB ∧ Cond.instanceMethod y ∈ TB ∧ Cond.selects y.cls y y ∈ TB
def SW (own : String) (idx : Nat) (y : MethodName) : Prop := Cond.methodLink own idx y ∈ TB ∧ Cond.static y ∈ TB
def RMX (d : Nat) (R : Room) (cells slots : Nat) : Prop := d ≤ R.frames ∧ 40 * d ≤ R.locals ∧ cells ≤ R.cells ∧ slots ≤ R.slots
theorem good_all {ws : List Cond} (h : ∀ w ∈ ws, w ∈ TB) : GoodIn TB ws := fun w hw => TB_good w (h w hw)
theorem EXT_down {ad : Nat → Nat} {A B : Nat → Prop} {s U : State} {H : Heap} {locs : List Loc} (hE : EXT ad A s s.heap) (hS : va_S A s.heap H locs) (hW : s.WarmedH U.vm) (hAB : ∀ q, B q → A q) : EXT ad B U H :=
  ⟨hE.1.warm hW, ((hE.2.1.moved hW.alike).kept hS.2.1).narrow hAB, ((hE.2.2.moved hW.alike).kept hS.2.1).narrow hAB⟩
theorem PM_blind {D : va_G} {cI cS : ClassId} {ad : Nat → Nat} {vs : List Value} {h : MH} : FrameBlind (va_Pc vs (PM D cI cS ad h)) := fun a U g mk q =>
  ⟨q.1, q.2.1, va_K.moved (u := U) (U := U.calling g mk a) (Vm.Alike.refl U.vm) q.2.2.1, q.2.2.2.1.same rfl, vk_S.moved (u := U) (U := U.calling g mk a) (Vm.Alike.refl U.vm) q.2.2.2.2.1, va_Z.moved (u := U) (U := U.calling g mk a) (Vm.Alike.refl U.vm) q.2.2.2.2.2⟩
section CALLS
variable {p : Program} {l : Launch} {e : Env} {R : Room} {s : State} {m : MethodId} {args : Array Value} {below : List Frame} {meth : Method} {c : Code} {cells slots : Nat} {Q : State → Prop} {D : va_G} {cI cS : ClassId} {ad : Nat → Nat} {A : Nat → Prop} {nL : Nat}
variable {own : String} {cc : ByteArray} {ret : Option FieldType} {fl : Nat → Option (Nat × Nat)} {pc : Nat}
theorem inA_sub {h : MH} {H : Heap} (hw : wld D cI cS ad A h H) : ∀ q, inA ad q → A q := by
  rintro q ⟨i, hi, rfl⟩
  exact hw.2.1.2 i _ (wsOf_at hi)
theorem wld_in {h : MH} {H : Heap} (hw : wld D cI cS ad A h H) : wld D cI cS ad (inA ad) h H := by
  refine ⟨hw.1, ⟨hw.2.1.1, ?_⟩, hw.2.2⟩
  intro k q hq
  have hk : k < NC := by
    have := (List.getElem?_eq_some_iff.mp hq).1
    simpa [wsOf] using this
  rw [wsOf_at hk] at hq
  cases hq
  exact ⟨k, hk, rfl⟩
/-- behind a call -/
theorem wm_back {idx : Nat} {r : Option MV} {L : ML} {rest : List MV} {h h' : MH} {g0 : List Value} {H : Heap} {ls : Array Slot} {locs : List Loc} {Qa : Array Value} (hw : wld D cI cS ad A h H) (hS : va_S A s.heap H locs) (hl : lv_has ls nL (L.map (tl ad))) (hoL : ∀ q ∈ L, okV q.2) (hoS : ∀ v ∈ rest, okV v)
    (hr : va_Run p l e R s m args below meth c H locs cells slots 0 0 (F0 m pc ls g0) (rest.map (tv ad)) (QM D cI cS ad r h' Qa) (inA ad))
    (hk : WM p l e R s m args below meth c cells slots Q D cI cS ad A nL (pc + 3) L (r.toList ++ rest) h') : W p l e R s m args below meth c H locs cells slots Q (F0 m pc ls g0) := by
  intro T hT X
  obtain ⟨v, st₀, t, T', LL, h0, X', hL, e1, e2, ⟨hv, hvr, hw', hF⟩, st⟩ := hr T hT X
  have hv2 : v = r.map (tv ad) := by
    have := hv
    simpa using this
  subst hv2
  have hsub := inA_sub hw
  obtain ⟨hz, hkp⟩ := hF
  rw [h0] at hz hkp
  have hw2 : wld D cI cS ad A h' T'.heap := by
    rw [e1]
    exact ⟨hw'.1, hw'.2.1.weaken (fun k q _ hq => hsub _ hq), hw'.2.2⟩
  have hS2 : va_S A s.heap T'.heap (locs ++ LL) := by
    refine ⟨Nat.le_trans hS.1 (by rw [e1]; exact hz), fun q h1 h2 => ?_, fun q hq => ?_⟩
    · rw [e1, hkp q (Nat.lt_of_lt_of_le h1 hS.1) (fun z => h2 (hsub q z))]
      exact hS.2.1 q h1 h2
    · rcases List.mem_append.mp hq with h | h
      · exact hS.2.2 q h
      · exact hsub _ (hL q h)
  have hoS2 : ∀ v ∈ r.toList ++ rest, okV v := by
    intro v hv
    rcases List.mem_append.mp hv with h | h
    · cases r with
      | none => cases h
      | some r0 =>
        have : v = r0 := by simpa using h
        subst this
        exact hvr _ rfl
    · exact hoS v h
  obtain ⟨t2, a1, b1⟩ := hk hoL hoS2 T'.heap ls (locs ++ LL) hw2 hS2 hl T' rfl X'
  refine ⟨t2, st t2 ?_, b1⟩
  have hst : (r.map (tv ad)).toList ++ rest.map (tv ad) = (r.toList ++ rest).map (tv ad) := by
    cases r <;> simp
  show Steps p.tables e below (T'.setTop { F0 m pc ls g0 with pc := pc + 3, stack := (r.map (tv ad)).toList ++ rest.map (tv ad) }) t2
  rw [hst]
  exact a1
theorem cat_sum {st : List MV} (h : st.length ≤ 4) : ((st.map (tv ad)).map fun v => v.category).sum ≤ 8 := by
  have key : ∀ st : List MV, ((st.map (tv ad)).map fun v => v.category).sum ≤ 2 * st.length := by
    intro st
    induction st with
    | nil => simp
    | cons v l ih =>
      have hc : (tv ad v).category ≤ 2 := by
        rcases v with z | (_ | i) | d
        · exact (show 1 ≤ 2 by omega)
        · exact (show 1 ≤ 2 by omega)
        · exact (show 1 ≤ 2 by omega)
        · exact Nat.le_refl 2
      simp only [List.map_cons, List.sum_cons, List.length_cons]
      omega
  have := key st
  omega
theorem wm_callV (hX : CX own cc nL ret p s m args meth c D cI cS ad A) {d : Nat} (hM : RMX d R cells slots) {idx d' ci i maxL : Nat} {y : MethodName} {bytes : ByteArray} {ret' : Option FieldType} {vs rest : List MV} {L : ML} {h h' : MH} {r : Option MV} (hmy : MY y bytes maxL ret' vs.length) (hvw : VW own idx y) (hdd : d' < d)
    (hc : CON d' y bytes maxL ret' (vR i :: vs) h r h') (hki : kd i = ci + 2) (hci : (vwCl[ci]?).map (fun q => q.1) = some y.cls) (hrest : rest.length ≤ 4) (hd : decode cc pc = .ok (.invokevirtual idx, 3))
    (hk : WM p l e R s m args below meth c cells slots Q D cI cS ad A nL (pc + 3) L (r.toList ++ rest) h') : WM p l e R s m args below meth c cells slots Q D cI cS ad A nL pc L (vs.reverse ++ vR i :: rest) h := by
  obtain ⟨hx, hb, hml, hr, hown, hts, hK, hlocks, hE⟩ := hX
  intro hoL hoS H ls locs hw hS hl
  obtain ⟨q, hq, hqn⟩ : ∃ q, vwCl[ci]? = some q ∧ q.1 = y.cls := by
    cases hq : vwCl[ci]? with
    | none => rw [hq] at hci; cases hci
    | some q => rw [hq] at hci; exact ⟨q, rfl, by simpa using hci⟩
  have hi : i < NC := kd_lt hki (by
    have : ci < 7 := (List.getElem?_eq_some_iff.mp hq).1
    omega)
  have hoV : ∀ v ∈ vR i :: vs, okV v := okc (v := vR i) trivial (fun v hv => hoS v (List.mem_append_left _ (List.mem_reverse.mpr hv)))
  have hoR : ∀ v ∈ rest, okV v := fun v hv => hoS v (List.mem_append_right _ (List.mem_cons_of_mem _ hv))
  have hwin := wld_in hw
  have hsub := inA_sub hw
  have cw : CallW R s args own y.cls idx y bytes maxL ret' (Cond.code y bytes maxL ret' :: TB) (rmd d') 0 0 vs.length := by
    refine cwV (Ts := TB) vs.length hts (good_all ?_) rfl rfl rfl ⟨rfl, hmy.2.2.1⟩ ⟨?_, ?_⟩
    · intro w hw
      unfold wsV at hw
      simp only [List.cons_append, List.nil_append, List.mem_cons] at hw
      rcases hw with rfl | rfl | rfl | rfl | rfl | hw
      · exact hvw.1
      · exact hvw.2.1
      · exact hvw.2.2
      · exact hmy.2.1
      · exact hmy.1
      · exact hw
    · show d' + 1 ≤ R.frames
      have := hM.1
      omega
    · show 8 + (maxL + 11) + 40 * d' ≤ R.locals
      have := hM.2.1
      have := hmy.2.2.2
      omega
  have hrun := va_runV (As := vs.map (tv ad)) (rest := rest.map (tv ad)) (b := ad i) (C := y.cls) (g := F0 m pc ls ((vs.reverse ++ vR i :: rest).map (tv ad))) (H := H) (locs := locs) (cells := cells) (slots := slots) (e := e) (below := below) (meth := meth)
    ⟨hx, hb, hml, hown, hts⟩ (hc l D cI cS ad hoV) cw ⟨PM_blind, ?_, fun U hU hW => ⟨by simp [tv], by rw [hU]; exact hwin, va_K.moved hW.alike hK, by rw [hU]; exact EXT_down hE hS hW hsub⟩⟩ rfl (by simp) hl.1 (by simp [tv]) (lv_room (cat_sum hrest)) hd ⟨hM.2.2.1, hM.2.2.2⟩
  · exact wm_back (idx := idx) hw hS hl hoL hoR hrun hk
  · have he : (wsOf cI cS ad h)[i]? = some (ad i, .inr (ci, (List.range (fn ci)).map (fun k => if fc ci k = 2 then Value.ref (ad (rf i k)) else .int (Int32.ofInt (h i k))))) := by rw [wsOf_at hi, cellE_o hki]
    have hrec := va_recv (D := D) hK hw.1 hq he
    rw [hqn] at hrec
    exact hrec
theorem wm_callS (hX : CX own cc nL ret p s m args meth c D cI cS ad A) {d : Nat} (hM : RMX d R cells slots) {idx d' maxL : Nat} {y : MethodName} {bytes : ByteArray} {ret' : Option FieldType} {vs rest : List MV} {L : ML} {h h' : MH} {r : Option MV} (hmy : MY y bytes maxL ret' vs.length) (hsw : SW own idx y) (hdd : d' < d)
    (hc : CON d' y bytes maxL ret' vs h r h') (hrest : rest.length ≤ 4) (hd : decode cc pc = .ok (.invokestatic idx, 3))
    (hk : WM p l e R s m args below meth c cells slots Q D cI cS ad A nL (pc + 3) L (r.toList ++ rest) h') : WM p l e R s m args below meth c cells slots Q D cI cS ad A nL pc L (vs.reverse ++ rest) h := by
  obtain ⟨hx, hb, hml, hr, hown, hts, hK, hlocks, hE⟩ := hX
  intro hoL hoS H ls locs hw hS hl
  have hoV : ∀ v ∈ vs, okV v := fun v hv => hoS v (List.mem_append_left _ (List.mem_reverse.mpr hv))
  have hoR : ∀ v ∈ rest, okV v := fun v hv => hoS v (List.mem_append_right _ hv)
  have hwin := wld_in hw
  have hsub := inA_sub hw
  have cw0 := callB_of (R := R) (s := s) (args := args) (own := own) (index := idx) (y := y) (bytes := bytes) (maxL := maxL) (ret := ret') (ws := Cond.code y bytes maxL ret' :: TB) (rm := rmd d') (mc := 0) (ms := 0) (Ts := TB) vs.length hts (good_all (by
      intro w hw
      rcases List.mem_cons.mp hw with rfl | hw
      · exact hmy.1
      · exact hw)) rfl rfl rfl (hts _ hmy.2.1) (hts _ hsw.1) hmy.2.2.1 ⟨by
      show d' + 1 ≤ R.frames
      have := hM.1
      omega, by
      show 8 + (maxL + 11) + 40 * d' ≤ R.locals
      have := hM.2.1
      have := hmy.2.2.2
      omega⟩
  have cw := And.intro cw0 (hts _ hsw.2)
  have hrun := va_runS (As := vs.map (tv ad)) (rest := rest.map (tv ad)) (g := F0 m pc ls ((vs.reverse ++ rest).map (tv ad))) (H := H) (locs := locs) (cells := cells) (slots := slots) (e := e) (below := below) (meth := meth)
    ⟨hx, hb, hml, hown, hts⟩ (hc l D cI cS ad hoV) cw ⟨PM_blind, fun U hU hW => ⟨by simp, by rw [hU]; exact hwin, va_K.moved hW.alike hK, by rw [hU]; exact EXT_down hE hS hW hsub⟩⟩ rfl (by simp) hl.1 (by simp) (lv_room (cat_sum hrest)) hd ⟨hM.2.2.1, hM.2.2.2⟩
  exact wm_back (idx := idx) hw hS hl hoL hoR hrun hk
end CALLS

/-! ===== calls of constructors; a constructor's contract ===== -/
def rmc (d mc ms : Nat) : Room := { frames := d, cells := mc, slots := ms, locals := 40 * d }
def PMI (D : va_G) (cI cS : ClassId) (ad : Nat → Nat) (base n : Nat) (h : MH) (U : State) : Prop := wldP D cI cS ad base n h U.heap ∧ va_K D vwCl (tysOf cI cS) U ∧ NKt U
def QMI (D : va_G) (cI cS : ClassId) (ad : Nat → Nat) (base n' : Nat) (h' : MH) : Array Value → State → Outcome → State → Prop := fun _ st oc t => oc = .returned none ∧ wldP D cI cS ad base n' h' t.heap ∧ va_F (inB base) st t
def CONI (d : Nat) (y : MethodName) (bytes : ByteArray) (maxL : Nat) (vs : List MV) (n : Nat) (h : MH) (n' : Nat) (h' : MH) (mc ms : Nat) : Prop :=
  ∀ (l : Launch) (D : va_G) (cI cS : ClassId) (ad : Nat → Nat) (base : Nat), (∀ v ∈ vs, okV v) → Met l y (Cond.code y bytes maxL none :: TB) (rmc d mc ms) (va_Pc (vs.map (tv ad)) (PMI D cI cS ad base n h)) (QMI D cI cS ad base n' h') mc ms (inB base)
theorem PMI_blind {D : va_G} {cI cS : ClassId} {ad : Nat → Nat} {base n : Nat} {vs : List Value} {h : MH} : FrameBlind (va_Pc vs (PMI D cI cS ad base n h)) := fun a U g mk q =>
  ⟨q.1, q.2.1, va_K.moved (u := U) (U := U.calling g mk a) (Vm.Alike.refl U.vm) q.2.2.1, q.2.2.2.same rfl⟩
/-- a method's words without an answer -/
def MYI (y : MethodName) (bytes : ByteArray) (maxL : Nat) (n : Nat) : Prop := MY y bytes maxL none n ∧ y.name = "<init>" ∧ Cond.instanceMethod y ∈ TB
/-- how a constructor is linked -/
def LKI (own : String) (idx : Nat) (y : MethodName) : Prop := Cond.methodLink own idx y ∈ TB ∨ ∀ U : State, NKt U → va_Nw (.methodLinkNest own idx y "HunkSlides") U
section WPC
variable {p : Program} {l : Launch} {e : Env} {R : Room} {s : State} {m : MethodId} {args : Array Value} {below : List Frame} {meth : Method} {c : Code} {cells slots : Nat} {Q : State → Prop} {D : va_G} {cI cS : ClassId} {ad : Nat → Nat} {base : Nat} {nL : Nat}
variable {own : String} {cc : ByteArray} {pc : Nat}
theorem wp_back {mc' ms' n' : Nat} {L : ML} {rest : List MV} {h' : MH} {g0 : List Value} {H : Heap} {ls : Array Slot} {locs : List Loc} {Qa : Array Value} (hS : va_S (inB base) s.heap H locs) (hl : lv_has ls nL (L.map (tl ad))) (hoL : ∀ q ∈ L, okV q.2) (hoS : ∀ v ∈ rest, okV v)
    (hr : va_Run p l e R s m args below meth c H locs cells slots mc' ms' (F0 m pc ls g0) (rest.map (tv ad)) (QMI D cI cS ad base n' h' Qa) (inB base))
    (hk : WP p l e R s m args below meth c Q D cI cS ad base nL (cells + mc') (slots + ms') (pc + 3) L rest n' h') : W p l e R s m args below meth c H locs cells slots Q (F0 m pc ls g0) := by
  intro T hT X
  obtain ⟨v, st₀, t, T', LL, h0, X', hL, e1, e2, ⟨hv, hw', hF⟩, st⟩ := hr T hT X
  have hv2 : v = none := by
    have := hv
    simpa using this
  subst hv2
  obtain ⟨hz, hkp⟩ := hF
  rw [h0] at hz hkp
  have hS2 : va_S (inB base) s.heap T'.heap (locs ++ LL) := by
    refine ⟨Nat.le_trans hS.1 (by rw [e1]; exact hz), fun q h1 h2 => ?_, fun q hq => ?_⟩
    · rw [e1, hkp q (Nat.lt_of_lt_of_le h1 hS.1) h2]
      exact hS.2.1 q h1 h2
    · rcases List.mem_append.mp hq with h | h
      · exact hS.2.2 q h
      · exact hL q h
  obtain ⟨t2, a1, b1⟩ := hk hoL hoS T'.heap ls (locs ++ LL) (by rw [e1]; exact hw') hS2 hl T' rfl X'
  exact ⟨t2, st t2 a1, b1⟩
theorem wp_init (hX : CXP own cc nL p s m args meth c D cI cS) {d : Nat} (hM : d ≤ R.frames ∧ 40 * d ≤ R.locals) {idx d' i maxL n n' mc' ms' : Nat} {y : MethodName} {bytes : ByteArray} {vs rest : List MV} {L : ML} {h h' : MH} (hmy : MYI y bytes maxL vs.length) (hlk : LKI own idx y) (hdd : d' < d)
    (hc : CONI d' y bytes maxL (vR i :: vs) n h n' h' mc' ms') (hrest : rest.length ≤ 4) (hd : decode cc pc = .ok (.invokespecial idx, 3)) (hcs : cells + mc' ≤ R.cells ∧ slots + ms' ≤ R.slots)
    (hk : WP p l e R s m args below meth c Q D cI cS ad base nL (cells + mc') (slots + ms') (pc + 3) L rest n' h') : WP p l e R s m args below meth c Q D cI cS ad base nL cells slots pc L (vs.reverse ++ vR i :: rest) n h := by
  obtain ⟨hx, hb, hml, hown, hts, hK, hNK⟩ := hX
  intro hoL hoS H ls locs hw hS hl
  have hoV : ∀ v ∈ vR i :: vs, okV v := okc (v := vR i) trivial (fun v hv => hoS v (List.mem_append_left _ (List.mem_reverse.mpr hv)))
  have hoR : ∀ v ∈ rest, okV v := fun v hv => hoS v (List.mem_append_right _ (List.mem_cons_of_mem _ hv))
  have hR2 : (rmc d' mc' ms').frames + 1 ≤ R.frames ∧ 8 + (maxL + 11) + (rmc d' mc' ms').locals ≤ R.locals := ⟨by
    show d' + 1 ≤ R.frames
    have := hM.1
    omega, by
    show 8 + (maxL + 11) + 40 * d' ≤ R.locals
    have := hM.2
    have := hmy.1.2.2.2
    omega⟩
  have hgd : GoodIn TB (Cond.code y bytes maxL none :: TB) := good_all (by
    intro w hw
    rcases List.mem_cons.mp hw with rfl | hw
    · exact hmy.1.1
    · exact hw)
  have hpre : PreS s H (va_Pc ((vR i :: vs).map (tv ad)) (PMI D cI cS ad base n h)) (.ref (ad i) :: vs.map (tv ad)) := ⟨PMI_blind, fun U hU hW => ⟨by simp [tv], by rw [hU]; exact hw, va_K.moved hW.alike hK, hNK.warm hW⟩⟩
  rcases hlk with hlk | hlk
  · have cw := callB_of (R := R) (s := s) (args := args) (own := own) (index := idx) (y := y) (bytes := bytes) (maxL := maxL) (ret := none) (ws := Cond.code y bytes maxL none :: TB) (rm := rmc d' mc' ms') (mc := mc') (ms := ms') (Ts := TB) vs.length hts hgd rfl rfl rfl (hts _ hmy.1.2.1) (hts _ hlk) hmy.1.2.2.1 hR2
    have hrun := va_runI (As := vs.map (tv ad)) (rest := rest.map (tv ad)) (b := ad i) (g := F0 m pc ls ((vs.reverse ++ vR i :: rest).map (tv ad))) (H := H) (locs := locs) (cells := cells) (slots := slots) (e := e) (below := below) (meth := meth)
      ⟨hx, hb, hml, hown, hts⟩ (hc l D cI cS ad base hoV) ⟨cw, hmy.2.1, hts _ hmy.2.2⟩ hpre rfl (by simp) hl.1 (by simp [tv]) (lv_room (cat_sum hrest)) hd hcs
    exact wp_back hS hl hoL hoR hrun hk
  · have cw := va_cnB (R := R) (s := s) (args := args) (own := own) (host := "HunkSlides") (index := idx) (y := y) (bytes := bytes) (maxL := maxL) (ret := none) (ws := Cond.code y bytes maxL none :: TB) (rm := rmc d' mc' ms') (mc := mc') (ms := ms') (Ts := TB) vs.length hts hgd rfl rfl rfl (hlk s hNK) (hts _ hmy.1.2.1) hmy.1.2.2.1 hR2
    have hrun := va_runIN (As := vs.map (tv ad)) (rest := rest.map (tv ad)) (b := ad i) (g := F0 m pc ls ((vs.reverse ++ vR i :: rest).map (tv ad))) (H := H) (locs := locs) (cells := cells) (slots := slots) (e := e) (below := below) (meth := meth)
      ⟨hx, hb, hml, hown, hts⟩ (hc l D cI cS ad base hoV) ⟨cw, hmy.2.1, hts _ hmy.2.2⟩ hpre rfl (by simp) hl.1 (by simp [tv]) (lv_room (cat_sum hrest)) hd hcs
    exact wp_back hS hl hoL hoR hrun hk
end WPC
abbrev KC : Type := Nat → Nat → Nat → ML → List MV → Nat → MH → Prop
/-- what a judgement over the world that is made obeys; mC, mS: the room -/
def CRules (own : String) (cc : ByteArray) (nL : Nat) (fl : Nat → Option (Nat × Nat)) (d mC mS : Nat) (K : KC) : Prop :=
  (∀ (cs ss pc k i n : Nat) (L : ML) (st : List MV) (h : MH) (kk : Fin 4), kk.val = k → lkL L k = some (vR i) → dk cc pc (.aload_n kk) 1 = true → K cs ss (pc + 1) L (vR i :: st) n h → K cs ss pc L st n h) ∧
  (∀ (cs ss pc i n : Nat) (L : ML) (st : List MV) (h : MH), dk cc pc .dup 1 = true → K cs ss (pc + 1) L (vR i :: vR i :: st) n h → K cs ss pc L (vR i :: st) n h) ∧
  (∀ (cs ss pc n : Nat) (L : ML) (st : List MV) (h : MH) (z : Int), -100 ≤ z ∧ z ≤ 100 → dk cc pc (.iconst z) 1 = true → K cs ss (pc + 1) L (vI z :: st) n h → K cs ss pc L st n h) ∧
  (∀ (cs ss pc n : Nat) (L : ML) (st : List MV) (h : MH) (z : Int), -128 ≤ z ∧ z ≤ 127 → dk cc pc (.bipush z) 2 = true → K cs ss (pc + 2) L (vI z :: st) n h → K cs ss pc L st n h) ∧
  (∀ (cs ss pc n : Nat) (L : ML) (st : List MV) (h : MH) (z : Int), -32768 ≤ z ∧ z ≤ 32767 → dk cc pc (.sipush z) 3 = true → K cs ss (pc + 3) L (vI z :: st) n h → K cs ss pc L st n h) ∧
  (∀ (cs ss pc idx ci n : Nat) (L : ML) (st : List MV) (h : MH), NEWC own idx ci → kd n = ci + 2 → cs + 1 ≤ mC → ss + fn ci ≤ mS → dk cc pc (.new idx) 3 = true → K (cs + 1) (ss + fn ci) (pc + 3) L (vR n :: st) (n + 1) (zer n h) → K cs ss pc L st n h) ∧
  (∀ (cs ss pc idx d' i maxL n n' mc' ms' : Nat) (y : MethodName) (bytes : ByteArray) (vs rest st : List MV) (L : ML) (h h' : MH), MYI y bytes maxL vs.length → LKI own idx y → d' < d → CONI d' y bytes maxL (vR i :: vs) n h n' h' mc' ms' → st = vs.reverse ++ vR i :: rest → rest.length ≤ 4 → dk cc pc (.invokespecial idx) 3 = true → cs + mc' ≤ mC → ss + ms' ≤ mS → K (cs + mc') (ss + ms') (pc + 3) L rest n' h' → K cs ss pc L st n h)
def CRules2 (own : String) (cc : ByteArray) (nL : Nat) (fl : Nat → Option (Nat × Nat)) (d mC mS : Nat) (K : KC) : Prop :=
  (∀ (cs ss pc idx ci k i j n : Nat) (L : ML) (st : List MV) (h : MH), PUTF own idx ci k → kd i = ci + 2 → i < n → rf i k = j → dk cc pc (.putfield idx) 3 = true → K cs ss (pc + 3) L st n (up h i k 1) → K cs ss pc L (vR j :: vR i :: st) n h) ∧
  (∀ (cs ss pc idx ci k i n : Nat) (L : ML) (st : List MV) (h : MH) (v : Int), fl idx = some (ci, k) → kd i = ci + 2 → i < n → (fc ci k = 0 ∨ (fc ci k = 1 ∧ (v = 0 ∨ v = 1))) → dk cc pc (.putfield idx) 3 = true → K cs ss (pc + 3) L st n (up h i k v) → K cs ss pc L (vI v :: vR i :: st) n h) ∧
  (∀ (cs ss pc n : Nat) (z : Int) (L : ML) (st : List MV) (h : MH), kd n = 0 → (al n : Int) = z → cs + 1 ≤ mC → ss + al n ≤ mS → dk cc pc (.newarray .int) 2 = true → K (cs + 1) (ss + al n) (pc + 2) L (vR n :: st) (n + 1) (zer n h) → K cs ss pc L (vI z :: st) n h) ∧
  (∀ (cs ss pc n idx : Nat) (z : Int) (L : ML) (st : List MV) (h : MH), Cond.classLink own idx "HunkSlides$State" ∈ TB → kd n = 1 → (al n : Int) = z → cs + 1 ≤ mC → ss + al n ≤ mS → dk cc pc (.anewarray idx) 3 = true → K (cs + 1) (ss + al n) (pc + 3) L (vR n :: st) (n + 1) (zer n h) → K cs ss pc L (vI z :: st) n h) ∧
  (∀ (cs ss pc idx i n : Nat) (L : ML) (st : List MV) (h : MH), Cond.methodLink own idx objectInit ∈ TB → st.length ≤ 4 → dk cc pc (.invokespecial idx) 3 = true → K cs ss (pc + 3) L st n h → K cs ss pc L (vR i :: st) n h) ∧
  (∀ (cs ss pc idx ci k i j n : Nat) (L : ML) (st : List MV) (h : MH), PUTF own idx ci k → kd i = ci + 2 → i < n → ¬ h i k = 0 → rf i k = j → dk cc pc (.getfield idx) 3 = true → K cs ss (pc + 3) L (vR j :: st) n h → K cs ss pc L (vR i :: st) n h) ∧
  (∀ (cs ss pc k n : Nat) (L : ML) (st : List MV) (h : MH) (z : Int) (kk : Fin 4), kk.val = k → lkL L k = some (vI z) → dk cc pc (.iload_n kk) 1 = true → K cs ss (pc + 1) L (vI z :: st) n h → K cs ss pc L st n h) ∧
  (∀ (cs ss pc k n : Nat) (L : ML) (st : List MV) (h : MH) (z : Int) (kk : Fin 4), kk.val = k → k < nL → dk cc pc (.istore_n kk) 1 = true → K cs ss (pc + 1) (sto L k (vI z)) st n h → K cs ss pc L (vI z :: st) n h) ∧
  (∀ (cs ss pc tgt n : Nat) (off : Int) (L : ML) (st : List MV) (h : MH), dk cc pc (.goto off) 3 = true → (pc : Int) + off = (tgt : Int) → K cs ss tgt L st n h → K cs ss pc L st n h) ∧
  (∀ (cs ss pc tgt n : Nat) (off : Int) (L : ML) (st : List MV) (h : MH) (x : Int), dk cc pc (.ifCond .le off) 3 = true → (pc : Int) + off = (tgt : Int) → ¬ x ≤ 0 → K cs ss (pc + 3) L st n h → K cs ss pc L (vI x :: st) n h)
def CRet (cc : ByteArray) (mc ms n' : Nat) (h' : MH) (K : KC) : Prop := ∀ (pc : Nat) (L : ML) (h2 : MH), dk cc pc .return_ 1 = true → h2 = h' → K mc ms pc L [] n' h2
section WPK
variable {p : Program} {l : Launch} {e : Env} {R : Room} {s : State} {m : MethodId} {args : Array Value} {below : List Frame} {meth : Method} {c : Code} {Q : State → Prop} {D : va_G} {cI cS : ClassId} {ad : Nat → Nat} {base : Nat} {nL : Nat}
variable {own : String} {cc : ByteArray}
theorem crules_ok (hX : CXP own cc nL p s m args meth c D cI cS) {fl : Nat → Option (Nat × Nat)} {d : Nat} (hM : d ≤ R.frames ∧ 40 * d ≤ R.locals) : CRules own cc nL fl d R.cells R.slots (WP p l e R s m args below meth c Q D cI cS ad base nL) := by
  have hX0 := hX
  obtain ⟨hx, hb, hml, hown, hts, hK, hNK⟩ := hX
  refine ⟨?_, ?_, ?_, ?_, ?_, ?_, ?_⟩
  · intro cs ss pc k i n L st h kk hk1 hz hd hk hoL hoS H ls locs hw hS hl
    subst hk1
    exact lv_aload_n hx hb (dk_eq hd) rfl (lk_at hl hz) (hk hoL (okc (v := vR i) trivial hoS) H ls locs hw hS hl)
  · intro cs ss pc i n L st h hd hk hoL hoS H ls locs hw hS hl
    exact lv_dup hx hb (dk_eq hd) rfl (hk hoL (okc (v := vR i) trivial hoS) H ls locs hw hS hl)
  · intro cs ss pc n L st h z hc hd hk hoL hoS H ls locs hw hS hl
    exact lv_iconst hx hb (dk_eq hd) rfl (hk hoL (okc (v := vI z) (inR_lit (by omega)) hoS) H ls locs hw hS hl)
  · intro cs ss pc n L st h z hc hd hk hoL hoS H ls locs hw hS hl
    refine lv_bipush hx hb (dk_eq hd) (v := Int32.ofInt z) ?_ (hk hoL (okc (v := vI z) (inR_lit (by omega)) hoS) H ls locs hw hS hl)
    apply Int32.toInt_inj.mp
    rw [ti (inR_lit (by omega)), Int8.toInt_toInt32, Int8.toInt_ofInt]
    exact Int.bmod_eq_of_le (by show -((256 : Int) / 2) ≤ z; omega) (by show z < ((256 : Int) + 1) / 2; omega)
  · intro cs ss pc n L st h z hc hd hk hoL hoS H ls locs hw hS hl
    refine lv_sipush hx hb (dk_eq hd) (v := Int32.ofInt z) ?_ (hk hoL (okc (v := vI z) (inR_lit (by omega)) hoS) H ls locs hw hS hl)
    apply Int32.toInt_inj.mp
    rw [ti (inR_lit (by omega)), Int16.toInt_toInt32, Int16.toInt_ofInt]
    exact Int.bmod_eq_of_le (by show -((65536 : Int) / 2) ≤ z; omega) (by show z < ((65536 : Int) + 1) / 2; omega)
  · intro cs ss pc idx ci n L st h h1 h2 h3 h4 hd hk
    exact wp_new hX0 h1 h2 h3 h4 (dk_eq hd) hk
  · intro cs ss pc idx d' i maxL n n' mc' ms' y bytes vs rest st L h h' h1 h2 h3 h4 hst h5 hd h6 h7 hk
    subst hst
    exact wp_init hX0 hM h1 h2 h3 h4 h5 (dk_eq hd) ⟨h6, h7⟩ hk
theorem crules2_ok (hX : CXP own cc nL p s m args meth c D cI cS) (hin2 : meth.name = "<init>") {fl : Nat → Option (Nat × Nat)} (hf : flok own fl) (hai : Cond.arrayClass FieldType.int ∈ TB) (hin : Cond.instanceMethod objectInit ∈ TB) (hco : Cond.code objectInit ⟨#[0xb1]⟩ 1 none ∈ TB) {d : Nat} (hd1 : 1 ≤ d) (hM : d ≤ R.frames ∧ 40 * d ≤ R.locals) : CRules2 own cc nL fl d R.cells R.slots (WP p l e R s m args below meth c Q D cI cS ad base nL) := by
  have hX0 := hX
  obtain ⟨hx, hb, hml, hown, hts, hK, hNK⟩ := hX
  refine ⟨?_, ?_, ?_, ?_, ?_, ?_, ?_, ?_, ?_, ?_⟩
  · intro cs ss pc idx ci k i j n L st h h1 h2 h3 hj hd hk
    subst hj
    exact wp_putr hX0 hin2 h1 h2 h3 (dk_eq hd) hk
  · intro cs ss pc idx ci k i n L st h v h1 h2 h3 h4 hd hk
    exact wp_puti hX0 hf h1 h2 h3 h4 (dk_eq hd) hk
  · intro cs ss pc n z L st h h1 hz h2 h3 hd hk
    subst hz
    exact wp_newa hX0 hai h1 h2 h3 (dk_eq hd) hk
  · intro cs ss pc n idx z L st h h0 h1 hz h2 h3 hd hk
    subst hz
    exact wp_anew hX0 h0 h1 h2 h3 (dk_eq hd) hk
  · intro cs ss pc idx i n L st h h1 h2 hd hk
    exact wp_obj hX0 ⟨by omega, by omega⟩ h1 hin hco h2 (dk_eq hd) hk
  · intro cs ss pc idx ci k i j n L st h h1 h2 h3 h4 hj hd hk
    subst hj
    exact wp_getr hX0 h1 h2 h3 h4 (dk_eq hd) hk
  · intro cs ss pc k n L st h z kk hk1 hz hd hk hoL hoS H ls locs hw hS hl
    subst hk1
    exact lv_iload_n hx hb (dk_eq hd) rfl (lk_at hl hz) (hk hoL (okc (v := vI z) (lk_ok hoL hz) hoS) H ls locs hw hS hl)
  · intro cs ss pc k n L st h z kk hk1 hlt hd hk hoL hoS H ls locs hw hS hl
    subst hk1
    exact lv_istore_n hx hb (dk_eq hd) rfl hl hlt (sto_map ad L kk.val (vI z)) (fun ls' hl' => hk (sto_ok hoL (hoS _ List.mem_cons_self)) (fun w hw => hoS w (List.mem_cons_of_mem _ hw)) H ls' locs hw hS hl')
  · intro cs ss pc tgt n off L st h hd ht hk hoL hoS H ls locs hw hS hl
    exact lv_goto hx hb (dk_eq hd) ht (hk hoL hoS H ls locs hw hS hl)
  · intro cs ss pc tgt n off L st h x hd ht hx0 hk hoL hoS H ls locs hw hS hl
    have hy0 : inR (0 : Int) := by unfold inR; omega
    have hxR : inR x := hoS (vI x) List.mem_cons_self
    have hoR : ∀ v ∈ st, okV v := fun v hv => hoS v (List.mem_cons_of_mem _ hv)
    exact lv_if_le hx hb (dk_eq hd) ht (fun q => absurd ((oi_le hxR hy0).mp q) hx0) (fun q => hk hoL hoR H ls locs hw hS hl)
end WPK

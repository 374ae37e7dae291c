/-! ===== the world while it is made: cells up to a number, a reference is there when its place holds no 0 ===== -/
def H0 : MH := fun i k => if 2 ≤ kd i ∧ fc (kd i - 2) k = 2 then 1 else if kd i = 1 ∧ k < 4 then 1 else if kd i = 6 ∧ k = 3 then 1 else if i = 77 ∧ k = 45 then 1 else if i = 76 ∧ k = 8 then -4 else 0
def zer (n : Nat) (h : MH) : MH := fun a => if a < n then h a else fun _ => 0
def ini (n n' : Nat) (h : MH) : MH := fun a => if a < n then h a else if a < n' then H0 a else fun _ => 0
def elP (ad : Nat → Nat) (h : MH) (ci i k : Nat) : Value := if fc ci k = 2 then (if h i k = 0 then .null else .ref (ad (rf i k))) else .int (Int32.ofInt (h i k))
def cellP (cI cS : ClassId) (ad : Nat → Nat) (h : MH) (i : Nat) : va_E :=
  if kd i = 0 then .inl (cI, al i, .inl (fun j => Int32.ofInt (h i j)))
  else if kd i = 1 then .inl (cS, al i, .inr (.inr (.inr (.inr (fun j => if h i j = 0 then none else some (ad (rf i j)))))))
  else .inr (kd i - 2, (List.range (fn (kd i - 2))).map (elP ad h (kd i - 2) i))
def wsP (cI cS : ClassId) (ad : Nat → Nat) (n : Nat) (h : MH) : va_W := (List.range n).map (fun i => (ad i, cellP cI cS ad h i))
def inB (base : Nat) : Nat → Prop := fun q => base ≤ q
def wldP (D : va_G) (cI cS : ClassId) (ad : Nat → Nat) (base n : Nat) (h : MH) (H : Heap) : Prop := va_P D vwCl (wsP cI cS ad n h) H ∧ va_D (inB base) (wsP cI cS ad n h) ∧ (∀ i j, inR (h i j)) ∧ H.size = base + n ∧ ∀ i, i < NC → ad i = base + i
def NKt (U : State) : Prop := va_AO "HunkSlides$State" U ∧ va_Nw (.methodLinkNest "HunkSlides" 20 yX4_init "HunkSlides") U ∧ va_Nw (.methodLinkNest "HunkSlides$History" 21 yX4_init "HunkSlides") U ∧ va_Nw (.methodLinkNest "HunkSlides" 44 yX0_init "HunkSlides") U ∧ va_Nw (.methodLinkNest "HunkSlides" 51 yX5_init "HunkSlides") U ∧ va_Nw (.methodLinkNest "HunkSlides" 58 yX2_init "HunkSlides") U
theorem NKt.warm {s U : State} (hW : s.WarmedH U.vm) (h : NKt s) : NKt U := ⟨va_AO.moved hW.alike h.1, va_Nw.warmM hW h.2.1, va_Nw.warmM hW h.2.2.1, va_Nw.warmM hW h.2.2.2.1, va_Nw.warmM hW h.2.2.2.2.1, va_Nw.warmM hW h.2.2.2.2.2⟩
theorem NKt.same {u U : State} (hv : U.vm = u.vm) (h : NKt u) : NKt U := ⟨va_AO.moved (by rw [hv]; exact Vm.Alike.refl _) h.1, va_Nw.same rfl hv.symm h.2.1, va_Nw.same rfl hv.symm h.2.2.1, va_Nw.same rfl hv.symm h.2.2.2.1, va_Nw.same rfl hv.symm h.2.2.2.2.1, va_Nw.same rfl hv.symm h.2.2.2.2.2⟩
theorem wsP_len {cI cS : ClassId} {ad : Nat → Nat} {n : Nat} {h : MH} : (wsP cI cS ad n h).length = n := by simp [wsP]
theorem wsP_at {cI cS : ClassId} {ad : Nat → Nat} {n : Nat} {h : MH} {i : Nat} (hi : i < n) : (wsP cI cS ad n h)[i]? = some (ad i, cellP cI cS ad h i) := by
  simp [wsP, hi]
theorem cellP_i {cI cS : ClassId} {ad : Nat → Nat} {h : MH} {i : Nat} (hk : kd i = 0) : cellP cI cS ad h i = .inl (cI, al i, .inl (fun j => Int32.ofInt (h i j))) := by
  unfold cellP; rw [if_pos hk]
theorem cellP_s {cI cS : ClassId} {ad : Nat → Nat} {h : MH} {i : Nat} (hk : kd i = 1) : cellP cI cS ad h i = .inl (cS, al i, .inr (.inr (.inr (.inr (fun j => if h i j = 0 then none else some (ad (rf i j))))))) := by
  unfold cellP; rw [if_neg (by omega), if_pos hk]
theorem cellP_o {cI cS : ClassId} {ad : Nat → Nat} {h : MH} {i ci : Nat} (hk : kd i = ci + 2) : cellP cI cS ad h i = .inr (ci, (List.range (fn ci)).map (elP ad h ci i)) := by
  unfold cellP
  rw [if_neg (by omega), if_neg (by omega)]
  have : kd i - 2 = ci := by omega
  rw [this]
theorem cellP_eq {cI cS : ClassId} {ad : Nat → Nat} {h h' : MH} {i : Nat} (he : h' i = h i) : cellP cI cS ad h' i = cellP cI cS ad h i := by
  unfold cellP elP
  rw [he]
theorem wsP_snoc {cI cS : ClassId} {ad : Nat → Nat} {n : Nat} {h h' : MH} (he : ∀ i, i < n → h' i = h i) : wsP cI cS ad (n + 1) h' = wsP cI cS ad n h ++ [(ad n, cellP cI cS ad h' n)] := by
  unfold wsP
  rw [List.range_succ, List.map_append]
  congr 1
  apply List.map_congr_left
  intro i hi
  rw [cellP_eq (he i (List.mem_range.mp hi))]
theorem wsP_up {cI cS : ClassId} {ad : Nat → Nat} {n : Nat} {h : MH} {i k : Nat} {v : Int} (hi : i < n) : wsP cI cS ad n (up h i k v) = (wsP cI cS ad n h).set i (ad i, cellP cI cS ad (up h i k v) i) := by
  apply List.ext_getElem?
  intro j
  by_cases hj : j < n
  · by_cases hij : j = i
    · subst hij
      rw [wsP_at hj, List.getElem?_set_self (by rw [wsP_len]; exact hj)]
    · rw [List.getElem?_set_ne (Ne.symm hij), wsP_at hj, wsP_at hj, cellP_eq (up_ne hij)]
  · rw [List.getElem?_eq_none (by rw [wsP_len]; omega), List.getElem?_eq_none (by rw [List.length_set, wsP_len]; omega)]
theorem elP_set {ad : Nat → Nat} {h : MH} {ci i k N : Nat} {z : Int} : ((List.range N).map (elP ad h ci i)).set k (elP ad (up h i k z) ci i k) = (List.range N).map (elP ad (up h i k z) ci i) := by
  apply List.ext_getElem?
  intro j
  by_cases hj : j < N
  · by_cases hjk : j = k
    · subst hjk
      rw [List.getElem?_set_self (by simp; omega), List.getElem?_map, List.getElem?_range hj]
      rfl
    · rw [List.getElem?_set_ne (Ne.symm hjk), List.getElem?_map, List.getElem?_map, List.getElem?_range hj]
      show some (elP ad h ci i j) = some (elP ad (up h i k z) ci i j)
      unfold elP
      rw [up_other (fun q => hjk q.2)]
  · rw [List.getElem?_eq_none (by simp; omega), List.getElem?_eq_none (by simp; omega)]
theorem rng_zer {h : MH} {n : Nat} (hh : ∀ i j, inR (h i j)) : ∀ i j, inR (zer n h i j) := by
  intro i j
  unfold zer
  split
  · exact hh i j
  · show inR 0
    unfold inR; omega
theorem zer_lt {h : MH} {n i : Nat} (hi : i < n) : zer n h i = h i := by unfold zer; rw [if_pos hi]
theorem zer_ge {h : MH} {n i : Nat} (hi : n ≤ i) (k : Nat) : zer n h i k = 0 := by unfold zer; rw [if_neg (by omega)]
def CXP (own : String) (cc : ByteArray) (nL : Nat) (p : Program) (s : State) (m : MethodId) (args : Array Value) (meth : Method) (c : Code) (D : va_G) (cI cS : ClassId) : Prop :=
  p.tables.exec = Jvm.exec ∧ c.code = cc ∧ c.maxLocals = nL ∧ s.vm.findClass own = some m.cls ∧ (∀ w ∈ TB, w.before args s = true) ∧ va_K D vwCl (tysOf cI cS) s ∧ NKt s
def WP (p : Program) (l : Launch) (e : Env) (R : Room) (s : State) (m : MethodId) (args : Array Value) (below : List Frame) (meth : Method) (c : Code) (Q : State → Prop) (D : va_G) (cI cS : ClassId) (ad : Nat → Nat) (base nL : Nat) (cells slots pc : Nat) (L : ML) (st : List MV) (n : Nat) (h : MH) : Prop :=
  (∀ q ∈ L, okV q.2) → (∀ v ∈ st, okV v) → ∀ (H : Heap) (ls : Array Slot) (locs : List Loc), wldP D cI cS ad base n h H → va_S (inB base) s.heap H locs → lv_has ls nL (L.map (tl ad)) → W p l e R s m args below meth c H locs cells slots Q (F0 m pc ls (st.map (tv ad)))
/-- a system whose objects are made -/
def NEWC (own : String) (idx ci : Nat) : Prop := ∃ (C : String) (T : u_T) (N : Nat) (ty : Nat → FieldType), vwCl[ci]? = some (C, T, N) ∧ fn ci = N ∧ Cond.classLink own idx C ∈ TB ∧ Cond.instantiable C N ∈ TB ∧ Cond.initialized C ∈ TB ∧ (∀ w ∈ u_ws C T N, w ∈ TB) ∧ (∀ k, k < N → parseFieldDescriptor (T k).2.2.1 = some (ty k)) ∧ (∀ k, k < N → defaultValue (ty k) = if fc ci k = 2 then .null else .int 0)
def PUTF (own : String) (idx ci k : Nat) : Prop := ∃ (C : String) (T : u_T) (N : Nat) (ty : Nat → FieldType), vwCl[ci]? = some (C, T, N) ∧ k < N ∧ fn ci = N ∧ (T k).1 = C ∧ Cond.fieldLink own idx C (T k).2.1 (T k).2.2.1 ∈ TB ∧ (∀ w ∈ u_ws C T N, w ∈ TB) ∧
  (∀ k, k < N → parseFieldDescriptor (T k).2.2.1 = some (ty k)) ∧ (∀ a, a < N → ∀ b, b < N → a ≠ b → (T a).2.1 ≠ (T b).2.1) ∧ fc ci k = 2 ∧ (∀ a : Nat, narrow (ty k) (.ref a) = .ref a ∧ fits (ty k) (.ref a) = true) ∧ (T k).2.2.2 = true ∧ C = own
section WPS
variable {p : Program} {l : Launch} {e : Env} {R : Room} {s : State} {m : MethodId} {args : Array Value} {below : List Frame} {meth : Method} {c : Code} {cells slots : Nat} {Q : State → Prop} {D : va_G} {cI cS : ClassId} {ad : Nat → Nat} {base : Nat} {nL : Nat}
variable {own : String} {cc : ByteArray} {pc : Nat}
theorem inB_new {H : Heap} {locs : List Loc} {n : Nat} (hS : va_S (inB base) s.heap H locs) {h : MH} (hw : wldP D cI cS ad base n h H) : inB base H.size := by
  show base ≤ H.size
  rw [hw.2.2.2.1]; omega
theorem va_S_grow {H H1 : Heap} {locs : List Loc} (hS : va_S (inB base) s.heap H locs) (z1 : H1.size = H.size + 1) (o1 : ∀ q, q < H.size → H1[q]? = H[q]?) : va_S (inB base) s.heap H1 locs :=
  ⟨Nat.le_trans hS.1 (by omega), fun x h1 h2 => (o1 x (Nat.lt_of_lt_of_le h1 hS.1)).trans (hS.2.1 x h1 h2), hS.2.2⟩
theorem wp_new (hX : CXP own cc nL p s m args meth c D cI cS) {idx ci n : Nat} {L : ML} {st : List MV} {h : MH} (hN : NEWC own idx ci) (hki : kd n = ci + 2) (hcells : cells + 1 ≤ R.cells) (hslots : slots + fn ci ≤ R.slots) (hd : decode cc pc = .ok (.new idx, 3))
    (hk : WP p l e R s m args below meth c Q D cI cS ad base nL (cells + 1) (slots + fn ci) (pc + 3) L (vR n :: st) (n + 1) (zer n h)) : WP p l e R s m args below meth c Q D cI cS ad base nL cells slots pc L st n h := by
  obtain ⟨hx, hb, hml, hown, hts, hK, hNK⟩ := hX
  obtain ⟨C, T, N, ty, g1, g2, g3, g4, g5, g6, g7, g8⟩ := hN
  intro hoL hoS H ls locs hw hS hl
  have hn : n < NC := kd_lt hki (by
    have : ci < 7 := (List.getElem?_eq_some_iff.mp g1).1
    omega)
  have hKn := hK.1 ci _ g1
  have hB := inB_new hS hw
  obtain ⟨hP, hD, hr, hsz, had⟩ := hw
  refine W.newcK hx hb hown (hts _ g3) (hts _ g4) (hts _ g5) rfl hd hcells (by rw [← g2]; exact hslots) hKn.2.1 (h := H.size) rfl fun H1 kC hkC e1 z1 o1 => ?_
  have han : ad n = H.size := by rw [had n hn, hsz]
  have hkp : ∀ (k : Nat) (x : Nat × va_E), (wsP cI cS ad n h)[k]? = some x → H1[x.1]? = H[x.1]? := fun k x hx => o1 x.1 ((hP k x hx).lt)
  have hsn := wsP_snoc (cI := cI) (cS := cS) (ad := ad) (n := n) (h := h) (h' := zer n h) (fun i hi => zer_lt hi)
  have e9 : (F0 m (pc + 3) ls ((vR n :: st).map (tv ad))) = { (F0 m pc ls (st.map (tv ad))) with pc := (F0 m pc ls (st.map (tv ad))).pc + 3, stack := .ref H.size :: (F0 m pc ls (st.map (tv ad))).stack } := by
    show F0 m (pc + 3) ls (Value.ref (ad n) :: st.map (tv ad)) = _
    rw [han]
  rw [← e9, ← g2]
  refine hk hoL (okc (v := vR n) trivial hoS) H1 ls locs ⟨?_, ?_, rng_zer hr, by rw [z1, hsz]; omega, had⟩ (va_S_grow hS z1 o1) hl
  · rw [hsn]
    refine (hP.kept hkp).app (fun k x hx => ?_)
    have hz : k < 1 := (List.getElem?_eq_some_iff.mp hx).1
    rw [show k = 0 by omega] at hx
    cases hx
    rw [cellP_o hki]
    have hob := u_born ty hts g6 hKn hkC e1 g7
    rw [← han] at hob
    refine ⟨_, g1, hob.to (fun k hk => ?_)⟩
    show defaultValue (ty k) = vp_V ((List.range (fn ci)).map (elP ad (zer n h) ci n)) k
    unfold vp_V
    rw [List.getD_eq_getElem?_getD, List.getElem?_map, List.getElem?_range (by omega)]
    show defaultValue (ty k) = elP ad (zer n h) ci n k
    rw [g8 k hk]
    unfold elP
    rw [zer_ge (Nat.le_refl n), if_pos rfl]
    rfl
  · rw [hsn, han]
    exact hD.push hP rfl hB
theorem wp_newa (hX : CXP own cc nL p s m args meth c D cI cS) {n : Nat} {L : ML} {st : List MV} {h : MH} (harr : Cond.arrayClass FieldType.int ∈ TB) (hki : kd n = 0) (hcells : cells + 1 ≤ R.cells) (hslots : slots + al n ≤ R.slots) (hd : decode cc pc = .ok (.newarray .int, 2))
    (hk : WP p l e R s m args below meth c Q D cI cS ad base nL (cells + 1) (slots + al n) (pc + 2) L (vR n :: st) (n + 1) (zer n h)) : WP p l e R s m args below meth c Q D cI cS ad base nL cells slots pc L (vI (al n : Int) :: st) n h := by
  obtain ⟨hx, hb, hml, hown, hts, hK, hNK⟩ := hX
  intro hoL hoS H ls locs hw hS hl
  have hn : n < NC := kd_lt hki (by omega)
  have hB := inB_new hS hw
  have hal := al_le n
  have hoR : ∀ v ∈ st, okV v := fun v hv => hoS v (List.mem_cons_of_mem _ hv)
  have hin : inR (al n : Int) := hoS (vI (al n : Int)) List.mem_cons_self
  obtain ⟨hP, hD, hr, hsz, had⟩ := hw
  have han : ad n = H.size := by rw [had n hn, hsz]
  refine va_newaK (atype := .int) (N := al n) (n := Int32.ofInt (al n : Int)) (rest := st.map (tv ad)) hx hb (hts _ harr) rfl hd rfl ?_ ?_ (by show al n * 4 ≤ 536870912; omega) hcells hslots (h := H.size) rfl fun H1 cA e1 z1 o1 hAr hNm => ?_
  · intro q
    have := (oi_lt hin (by unfold inR; omega : inR 0)).mp q
    omega
  · exact oi_clamp (by omega) hin
  have hcA : cA = cI := Option.some.inj (hNm.symm.trans (hK.2 0 _ rfl).2)
  subst hcA
  have hkp : ∀ (k : Nat) (x : Nat × va_E), (wsP cA cS ad n h)[k]? = some x → H1[x.1]? = H[x.1]? := fun k x hx => o1 x.1 ((hP k x hx).lt)
  have hsn := wsP_snoc (cI := cA) (cS := cS) (ad := ad) (n := n) (h := h) (h' := zer n h) (fun i hi => zer_lt hi)
  have e9 : (F0 m (pc + 2) ls ((vR n :: st).map (tv ad))) = { (F0 m pc ls ((vI (al n : Int) :: st).map (tv ad))) with pc := (F0 m pc ls ((vI (al n : Int) :: st).map (tv ad))).pc + 2, stack := .ref H.size :: st.map (tv ad) } := by
    show F0 m (pc + 2) ls (Value.ref (ad n) :: st.map (tv ad)) = _
    rw [han]
  rw [← e9]
  refine hk hoL (okc (v := vR n) trivial hoR) H1 ls locs ⟨?_, ?_, rng_zer hr, by rw [z1, hsz]; omega, had⟩ (va_S_grow hS z1 o1) hl
  · rw [hsn]
    refine (hP.kept hkp).app (fun k x hx => ?_)
    have hz : k < 1 := (List.getElem?_eq_some_iff.mp hx).1
    rw [show k = 0 by omega] at hx
    cases hx
    rw [cellP_i hki]
    show H1[ad n]? = some (vp_cell cA (al n, .inl (fun j => Int32.ofInt (zer n h n j))))
    rw [han, e1, vp_cell_i]
    congr 2
    funext j
    rw [zer_ge (Nat.le_refl n)]
    rfl
  · rw [hsn, han]
    exact hD.push hP rfl hB
theorem wp_anew (hX : CXP own cc nL p s m args meth c D cI cS) {n idx : Nat} {L : ML} {st : List MV} {h : MH} (hlk : Cond.classLink own idx "HunkSlides$State" ∈ TB) (hki : kd n = 1) (hcells : cells + 1 ≤ R.cells) (hslots : slots + al n ≤ R.slots) (hd : decode cc pc = .ok (.anewarray idx, 3))
    (hk : WP p l e R s m args below meth c Q D cI cS ad base nL (cells + 1) (slots + al n) (pc + 3) L (vR n :: st) (n + 1) (zer n h)) : WP p l e R s m args below meth c Q D cI cS ad base nL cells slots pc L (vI (al n : Int) :: st) n h := by
  obtain ⟨hx, hb, hml, hown, hts, hK, hNK⟩ := hX
  intro hoL hoS H ls locs hw hS hl
  have hn : n < NC := kd_lt hki (by omega)
  have hB := inB_new hS hw
  have hal := al_le n
  have hoR : ∀ v ∈ st, okV v := fun v hv => hoS v (List.mem_cons_of_mem _ hv)
  have hin : inR (al n : Int) := hoS (vI (al n : Int)) List.mem_cons_self
  have hcl : (Int32.ofInt (al n : Int)).toNatClampNeg = al n := oi_clamp (by omega) hin
  obtain ⟨hP, hD, hr, hsz, had⟩ := hw
  have han : ad n = H.size := by rw [had n hn, hsz]
  refine W.anew (n := Int32.ofInt (al n : Int)) (rest := st.map (tv ad)) hx hb hown (hts _ hlk) (va_AO.use hNK.1) rfl hd rfl ?_ (by rw [hcl]; omega) hcells (by rw [hcl]; exact hslots) fun cA kA comp f1 f2 f3 f4 => ?_
  · intro q
    have := (oi_lt hin (by unfold inR; omega : inR 0)).mp q
    omega
  rw [hcl]
  obtain ⟨kA2, comp2, k1, k2, k3, k4⟩ := (hK.2 1 _ rfl).2
  have hcA : cA = cS := Option.some.inj (f1.symm.trans k4)
  subst hcA
  generalize hH1 : H.push ({ cls := cA, slots := Array.replicate (al n) .null, vm := .none } : Cell) = H1
  have z1 : H1.size = H.size + 1 := by rw [← hH1, Array.size_push]
  have e1 : H1[H.size]? = some (arrV cA (al n) (fun _ => .null)) := by rw [← hH1, Array.getElem?_push_size, ← arrV_new]
  have o1 : ∀ q : Nat, q < H.size → H1[q]? = H[q]? := fun q hq => by rw [← hH1, Array.getElem?_push, if_neg (Nat.ne_of_lt hq)]
  have hkp : ∀ (k : Nat) (x : Nat × va_E), (wsP cI cA ad n h)[k]? = some x → H1[x.1]? = H[x.1]? := fun k x hx => o1 x.1 ((hP k x hx).lt)
  have hsn := wsP_snoc (cI := cI) (cS := cA) (ad := ad) (n := n) (h := h) (h' := zer n h) (fun i hi => zer_lt hi)
  have e9 : (F0 m (pc + 3) ls ((vR n :: st).map (tv ad))) = { (F0 m pc ls ((vI (al n : Int) :: st).map (tv ad))) with pc := (F0 m pc ls ((vI (al n : Int) :: st).map (tv ad))).pc + 3, stack := .ref H.size :: st.map (tv ad) } := by
    show F0 m (pc + 3) ls (Value.ref (ad n) :: st.map (tv ad)) = _
    rw [han]
  rw [← e9]
  refine hk hoL (okc (v := vR n) trivial hoR) H1 ls locs ⟨?_, ?_, rng_zer hr, by rw [z1, hsz]; omega, had⟩ (va_S_grow hS z1 o1) hl
  · rw [hsn]
    refine (hP.kept hkp).app (fun k x hx => ?_)
    have hz : k < 1 := (List.getElem?_eq_some_iff.mp hx).1
    rw [show k = 0 by omega] at hx
    cases hx
    rw [cellP_s hki]
    show H1[ad n]? = some (vp_cell cA (al n, .inr (.inr (.inr (.inr (fun j => if zer n h n j = 0 then none else some (ad (rf n j))))))))
    rw [han, e1, vp_cell_q]
    congr 2
    funext j
    rw [zer_ge (Nat.le_refl n), if_pos rfl]
    rfl
  · rw [hsn, han]
    exact hD.push hP rfl hB
/-- a put into an object's field, behind the machine's own step -/
theorem wp_put_in {ci i k n : Nat} {C : String} {T : u_T} {N : Nat} {ty : Nat → FieldType} {h : MH} {z : Int} {H : Heap} {cell : Cell} (hts : ∀ w ∈ TB, w.before args s = true) (hK : va_K D vwCl (tysOf cI cS) s) (g1 : vwCl[ci]? = some (C, T, N)) (g2 : k < N) (g3 : fn ci = N) (g6 : ∀ w ∈ u_ws C T N, w ∈ TB) (g7 : ∀ k, k < N → parseFieldDescriptor (T k).2.2.1 = some (ty k)) (g8 : ∀ a, a < N → ∀ b, b < N → a ≠ b → (T a).2.1 ≠ (T b).2.1)
    (hki : kd i = ci + 2) (hi : i < n) (hz : inR z) (hw : wldP D cI cS ad base n h H) (q1 : H[ad i]? = some cell) (q2 : cell.cls = D.1 ci) (q3 : cell.vm = .none) (q4 : ∀ k, k < N → cell.slots[D.2 ci k]? = some (vp_V ((List.range (fn ci)).map (elP ad h ci i)) k))
    {H1 : Heap} (e1 : H1[ad i]? = some (cell.setSlot (D.2 ci k) (elP ad (up h i k z) ci i k))) (e2 : H1.size = H.size) (e3 : ∀ q, q ≠ ad i → H1[q]? = H[q]?) : wldP D cI cS ad base n (up h i k z) H1 := by
  obtain ⟨hP, hD, hr, hsz, had⟩ := hw
  have hap := va_apart (own := C) hts g6 ty g7 g8 hK g1
  have he : (wsP cI cS ad n h)[i]? = some (ad i, .inr (ci, (List.range (fn ci)).map (elP ad h ci i))) := by rw [wsP_at hi, cellP_o hki]
  have hl : k < ((List.range (fn ci)).map (elP ad h ci i)).length := by simp; omega
  have hset : wsP cI cS ad n (up h i k z) = (wsP cI cS ad n h).set i (ad i, .inr (ci, ((List.range (fn ci)).map (elP ad h ci i)).set k (elP ad (up h i k z) ci i k))) := by
    rw [wsP_up hi, cellP_o hki, elP_set]
  refine ⟨?_, ?_, rng_up hr hz, by rw [e2]; exact hsz, had⟩
  · rw [hset]
    exact hP.set hD he ⟨_, g1, t_OB.to (V := updV (vp_V ((List.range (fn ci)).map (elP ad h ci i))) k (elP ad (up h i k z) ci i k)) ⟨_, e1, q2, q3, t_set q4 hap g2 _⟩ (fun j _ => vp_updV_set hl _ j)⟩ e3
  · rw [hset]
    exact hD.set he
theorem wp_putr (hX : CXP own cc nL p s m args meth c D cI cS) (hin2 : meth.name = "<init>") {idx ci k i n : Nat} {L : ML} {st : List MV} {h : MH} (hF : PUTF own idx ci k) (hki : kd i = ci + 2) (hi : i < n) (hd : decode cc pc = .ok (.putfield idx, 3))
    (hk : WP p l e R s m args below meth c Q D cI cS ad base nL cells slots (pc + 3) L st n (up h i k 1)) : WP p l e R s m args below meth c Q D cI cS ad base nL cells slots pc L (vR (rf i k) :: vR i :: st) n h := by
  obtain ⟨hx, hb, hml, hown, hts, hK, hNK⟩ := hX
  obtain ⟨C, T, N, ty, g1, g2, g3, g4, g5, g6, g7, g8, g9, g10, g11, g12⟩ := hF
  intro hoL hoS H ls locs hw hS hl
  have hoR : ∀ v ∈ st, okV v := fun v hv => hoS v (List.mem_cons_of_mem _ (List.mem_cons_of_mem _ hv))
  have he : (wsP cI cS ad n h)[i]? = some (ad i, .inr (ci, (List.range (fn ci)).map (elP ad h ci i))) := by rw [wsP_at hi, cellP_o hki]
  obtain ⟨r, h1, cell, q1, q2, q3, q4⟩ := hw.1 i _ he
  have hr : r = (C, T, N) := Option.some.inj (h1.symm.trans g1)
  subst hr
  obtain ⟨hSl, hfc, kC, hkC, hkind⟩ := hK.1 ci _ g1
  obtain ⟨cf, kf, fi, f, hfi, hsl⟩ := hSl k g2
  have hlay := hts _ (g6 _ (u_in_lay g2))
  unfold u_lay at hlay
  rw [if_pos g11] at hlay
  have hst := (u_facts hfc hkC (u_lays hts g6 g2) hfi).1
  have hcf : m.cls = cf := by
    obtain ⟨_, _, c', _, _, _, -, -, hf', -, -, -, hown2, -⟩ := Cond.laysFinal_spec hlay
    have e1 : c' = cf := by have := hfi.symm.trans hf'; simp at this; exact this.1.symm
    rw [g4, g12] at hown2
    rw [← e1]; exact Option.some.inj (hown.symm.trans hown2)
  have h6 := u_fits hfc hkC hkind (Or.inr hlay) hfi (g7 k g2) (g10 (ad (rf i k))).1 (g10 (ad (rf i k))).2
  refine W.putFinK hx hb hown (hts _ g5) (by rw [g4] at hfi; exact hfi) hst hcf hin2 (by rw [q2]; exact h6) q1 q3 (by rw [hsl]; exact k2_hasslot (q4 k g2)) rfl rfl hd fun H' e1 e2 e3 => ?_
  rw [hsl] at e1 ⊢
  have ev : elP ad (up h i k 1) ci i k = .ref (ad (rf i k)) := by
    unfold elP
    rw [if_pos g9, up_at, if_neg (by decide)]
  refine hk hoL hoR H' ls _ (wp_put_in hts hK g1 g2 g3 g6 g7 g8 hki hi (by unfold inR; omega) hw q1 q2 q3 q4 (by rw [ev]; exact e1) e2 e3) (hS.put e2 e3 (hw.2.1.2 i _ he)) hl
theorem wp_puti (hX : CXP own cc nL p s m args meth c D cI cS) {fl : Nat → Option (Nat × Nat)} (hf : flok own fl) {idx ci k i n : Nat} {L : ML} {st : List MV} {h : MH} {v : Int} (hfl : fl idx = some (ci, k)) (hki : kd i = ci + 2) (hi : i < n) (hc : fc ci k = 0 ∨ (fc ci k = 1 ∧ (v = 0 ∨ v = 1))) (hd : decode cc pc = .ok (.putfield idx, 3))
    (hk : WP p l e R s m args below meth c Q D cI cS ad base nL cells slots (pc + 3) L st n (up h i k v)) : WP p l e R s m args below meth c Q D cI cS ad base nL cells slots pc L (vI v :: vR i :: st) n h := by
  obtain ⟨hx, hb, hml, hown, hts, hK, hNK⟩ := hX
  obtain ⟨C, T, N, ty, g1, g2, g3, g4, g5, g6, g7, g8, g9, g10, g11⟩ := hf idx ci k hfl
  intro hoL hoS H ls locs hw hS hl
  have hoR : ∀ v ∈ st, okV v := fun v hv => hoS v (List.mem_cons_of_mem _ (List.mem_cons_of_mem _ hv))
  have hv0 : inR v := hoS (vI v) List.mem_cons_self
  have hn2 : fc ci k ≠ 2 := by omega
  have hnar : narrow (ty k) (.int (Int32.ofInt v)) = .int (Int32.ofInt v) ∧ fits (ty k) (.int (Int32.ofInt v)) = true := by
    rcases hc with hc | ⟨hc, rfl | rfl⟩
    · rw [g9 hc]; exact ⟨rfl, rfl⟩
    · rw [g10 hc]; exact ⟨by decide, by decide⟩
    · rw [g10 hc]; exact ⟨by decide, by decide⟩
  have he : (wsP cI cS ad n h)[i]? = some (ad i, .inr (ci, (List.range (fn ci)).map (elP ad h ci i))) := by rw [wsP_at hi, cellP_o hki]
  obtain ⟨r, h1, cell, q1, q2, q3, q4⟩ := hw.1 i _ he
  have hr : r = (C, T, N) := Option.some.inj (h1.symm.trans g1)
  subst hr
  obtain ⟨hSl, hfc, kC, hkC, hkind⟩ := hK.1 ci _ g1
  obtain ⟨cf, kf, fi, f, hfi, hsl⟩ := hSl k g2
  have hlay := hts _ (g6 _ (u_in_lay g2))
  unfold u_lay at hlay
  rw [if_neg (by rw [g11 hn2]; decide)] at hlay
  have hst := (u_facts hfc hkC (u_lays hts g6 g2) hfi).1
  have h6 := u_store hfc hkC hkind hlay hfi (g7 k g2) hnar.1 hnar.2
  refine W.putK hx hb (f := f) ⟨hown, hts _ g5, ⟨_, _, _, by rw [g4] at hfi; exact hfi⟩, hst⟩ (by rw [q2]; exact h6) q1 q3 (by rw [hsl]; exact k2_hasslot (q4 k g2)) rfl rfl hd fun H' e1 e2 e3 => ?_
  rw [hsl] at e1 ⊢
  have ev : elP ad (up h i k v) ci i k = .int (Int32.ofInt v) := by
    unfold elP
    rw [if_neg hn2, up_at]
  refine hk hoL hoR H' ls _ (wp_put_in hts hK g1 g2 g3 g6 g7 g8 hki hi hv0 hw q1 q2 q3 q4 (by rw [ev]; exact e1) e2 e3) (hS.put e2 e3 (hw.2.1.2 i _ he)) hl
theorem wp_getr (hX : CXP own cc nL p s m args meth c D cI cS) {idx ci k i n : Nat} {L : ML} {st : List MV} {h : MH} (hF : PUTF own idx ci k) (hki : kd i = ci + 2) (hi : i < n) (h1 : ¬ h i k = 0) (hd : decode cc pc = .ok (.getfield idx, 3))
    (hk : WP p l e R s m args below meth c Q D cI cS ad base nL cells slots (pc + 3) L (vR (rf i k) :: st) n h) : WP p l e R s m args below meth c Q D cI cS ad base nL cells slots pc L (vR i :: st) n h := by
  obtain ⟨hx, hb, hml, hown, hts, hK, hNK⟩ := hX
  obtain ⟨C, T, N, ty, g1, g2, g3, g4, g5, g6, g7, g8, g9, g10, g11, g12⟩ := hF
  intro hoL hoS H ls locs hw hS hl
  have hoR : ∀ v ∈ st, okV v := fun v hv => hoS v (List.mem_cons_of_mem _ hv)
  refine va_get (ref := C) (D := D) (cl := vwCl) (tys := tysOf cI cS) (Ts := TB) hx hb hts g6 hown hK hw.1 i (by rw [wsP_at hi, cellP_o hki]) g1 k g2 (hts _ g5) (fun _ q => by rw [g4] at q; exact q) (v := .ref (ad (rf i k))) ?_ hd (hk hoL (okc (v := vR (rf i k)) trivial hoR) H ls locs hw hS hl)
  rw [List.getElem?_map, List.getElem?_range (by omega)]
  show some (elP ad h ci i k) = _
  unfold elP
  rw [if_pos g9, if_neg h1]
theorem wp_obj (hX : CXP own cc nL p s m args meth c D cI cS) (hR : 1 ≤ R.frames ∧ 20 ≤ R.locals) {idx i n : Nat} {L : ML} {st : List MV} {h : MH} (hlk : Cond.methodLink own idx objectInit ∈ TB) (hin : Cond.instanceMethod objectInit ∈ TB) (hco : Cond.code objectInit ⟨#[0xb1]⟩ 1 none ∈ TB) (hlen : st.length ≤ 4) (hd : decode cc pc = .ok (.invokespecial idx, 3))
    (hk : WP p l e R s m args below meth c Q D cI cS ad base nL cells slots (pc + 3) L st n h) : WP p l e R s m args below meth c Q D cI cS ad base nL cells slots pc L (vR i :: st) n h := by
  obtain ⟨hx, hb, hml, hown, hts, hK, hNK⟩ := hX
  intro hoL hoS H ls locs hw hS hl
  have hoR : ∀ v ∈ st, okV v := fun v hv => hoS v (List.mem_cons_of_mem _ hv)
  have hs := cat_sum (ad := ad) hlen
  refine W.objInit hx hb hown (hts _ hlk) (hts _ hin) (hts _ hco) rfl (by rw [hml]; exact hl.1) rfl hd hR.1 ?_ (hk hoL hoR H ls locs hw hS hl)
  show 2 * 0 + _ + 12 ≤ R.locals
  omega
end WPS

/-! ===== constructors: arrays ===== -/
section WPA
variable {p : Program} {l : Launch} {e : Env} {R : Room} {s : State} {m : MethodId} {args : Array Value} {below : List Frame} {meth : Method} {c : Code} {cells slots : Nat} {Q : State → Prop} {D : va_G} {cI cS : ClassId} {ad : Nat → Nat} {base : Nat} {nL : Nat}
variable {own : String} {cc : ByteArray} {pc : Nat}
theorem wp_aast (hX : CXP own cc nL p s m args meth c D cI cS) {a n : Nat} {j : Int} {L : ML} {st : List MV} {h : MH} (hka : kd a = 1) (han : a < n) (hj : 0 ≤ j ∧ j < (al a : Int)) (hkv : kd (rf a j.toNat) = 6) (hvn : rf a j.toNat < n) (hd : decode cc pc = .ok (.aastore, 1))
    (hk : WP p l e R s m args below meth c Q D cI cS ad base nL cells slots (pc + 1) L st n (up h a j.toNat 1)) : WP p l e R s m args below meth c Q D cI cS ad base nL cells slots pc L (vR (rf a j.toNat) :: vI j :: vR a :: st) n h := by
  obtain ⟨hx, hb, hml, hown, hts, hK, hNK⟩ := hX
  intro hoL hoS H ls locs hw hS hl
  have hoR : ∀ v ∈ st, okV v := fun v hv => hoS v (List.mem_cons_of_mem _ (List.mem_cons_of_mem _ (List.mem_cons_of_mem _ hv)))
  have hjR : inR j := hoS (vI j) (List.mem_cons_of_mem _ List.mem_cons_self)
  have ha : (wsP cI cS ad n h)[a]? = some (ad a, .inl (cS, al a, .inr (.inr (.inr (.inr (fun j => if h a j = 0 then none else some (ad (rf a j)))))))) := by rw [wsP_at han, cellP_s hka]
  have hv : (wsP cI cS ad n h)[rf a j.toNat]? = some (ad (rf a j.toNat), .inr (4, (List.range (fn 4)).map (elP ad h 4 (rf a j.toNat)))) := by rw [wsP_at hvn, cellP_o (ci := 4) hkv]
  have hjl : j.toNat < al a := by omega
  have hcj : (Int32.ofInt j).toNatClampNeg = j.toNat := oi_clamp hj.1 hjR
  obtain ⟨r', hr', cellV, g1, g2, g3, -⟩ := hw.1 _ _ hv
  have hcls := (hK.1 4 r' hr').2
  have hre : r' = (RX4, TX4, 7) := Option.some.inj (hr'.symm.trans rfl)
  subst hre
  obtain ⟨kA, comp, k1, k2, k3, -⟩ := (hK.2 1 _ rfl).2
  have hcomp : comp = D.1 4 := Option.some.inj (k3.symm.trans hcls.1)
  subst hcomp
  obtain ⟨kC, hkC, -⟩ := hcls.2
  have hin := oi_in (n := al a) hjR hj
  refine W.aast (j := Int32.ofInt j) (rest := st.map (tv ad)) hx hb (hw.1 a _ ha) (fun q h => by cases h) (fun h => by cases h) k1 k2 rfl hkC ⟨fun q => hin (Or.inl q), by show _ < (arrV _ _ _).slots.size; rw [arrV_size, hcj]; exact hjl⟩ g1 (fun q h => by rw [g3] at h; cases h) (by rw [g2]; exact hkC) (by rw [g2]; exact va_assign hcls) rfl rfl hd fun H1 e1 z oq => ?_
  obtain ⟨hP, hD, hr, hsz, had⟩ := hw
  have hset : wsP cI cS ad n (up h a j.toNat 1) = (wsP cI cS ad n h).set a (ad a, .inl (cS, al a, .inr (.inr (.inr (.inr (fun k => if up h a j.toNat 1 a k = 0 then none else some (ad (rf a k)))))))) := by
    rw [wsP_up han, cellP_s hka]
  refine hk hoL hoR H1 ls _ ⟨?_, ?_, rng_up hr (by unfold inR; omega), by rw [z]; exact hsz, had⟩ (hS.put z oq (hD.2 a _ ha)) hl
  · rw [hset]
    refine hP.set hD ha ?_ oq
    show H1[ad a]? = some (vp_cell _ _)
    rw [e1, vp_cell_q, vp_cell_q, arrV_store, hcj]
    congr 2
    funext q
    by_cases hq : q = j.toNat
    · subst hq
      rw [up_at, if_neg (by decide)]
      simp [updV, va_rf]
    · rw [up_other (fun z => hq z.2)]
      simp [updV, hq]
  · rw [hset]
    exact hD.set ha
theorem wp_iast (hX : CXP own cc nL p s m args meth c D cI cS) {a n : Nat} {j v : Int} {L : ML} {st : List MV} {h : MH} (hka : kd a = 0) (han : a < n) (hj : 0 ≤ j ∧ j < (al a : Int)) (hd : decode cc pc = .ok (.iastore, 1))
    (hk : WP p l e R s m args below meth c Q D cI cS ad base nL cells slots (pc + 1) L st n (up h a j.toNat v)) : WP p l e R s m args below meth c Q D cI cS ad base nL cells slots pc L (vI v :: vI j :: vR a :: st) n h := by
  obtain ⟨hx, hb, hml, hown, hts, hK, hNK⟩ := hX
  intro hoL hoS H ls locs hw hS hl
  have hoR : ∀ v ∈ st, okV v := fun v hv => hoS v (List.mem_cons_of_mem _ (List.mem_cons_of_mem _ (List.mem_cons_of_mem _ hv)))
  have hvR : inR v := hoS (vI v) List.mem_cons_self
  have hjR : inR j := hoS (vI j) (List.mem_cons_of_mem _ List.mem_cons_self)
  have ha : (wsP cI cS ad n h)[a]? = some (ad a, .inl (cI, al a, .inl (fun j => Int32.ofInt (h a j)))) := by rw [wsP_at han, cellP_i hka]
  have hcj : (Int32.ofInt j).toNatClampNeg = j.toNat := oi_clamp hj.1 hjR
  have hin := oi_in (n := al a) hjR hj
  refine W.iast (j := Int32.ofInt j) (x := Int32.ofInt v) (rest := st.map (tv ad)) hx hb (hw.1 a _ ha) ((hK.2 0 _ rfl).1 (al a) (fun k => .int (Int32.ofInt (h a k)))) (fun q => by cases q) (by show ¬ (_ < 0 ∨ (arrV _ _ _).slots.size ≤ _); rw [arrV_size]; exact hin) rfl rfl hd fun H1 e1 z oq => ?_
  obtain ⟨hP, hD, hr, hsz, had⟩ := hw
  have hset : wsP cI cS ad n (up h a j.toNat v) = (wsP cI cS ad n h).set a (ad a, .inl (cI, al a, .inl (fun k => Int32.ofInt (up h a j.toNat v a k)))) := by
    rw [wsP_up han, cellP_i hka]
  refine hk hoL hoR H1 ls _ ⟨?_, ?_, rng_up hr hvR, by rw [z]; exact hsz, had⟩ (hS.put z oq (hD.2 a _ ha)) hl
  · rw [hset]
    refine hP.set hD ha ?_ oq
    show H1[ad a]? = some (vp_cell _ _)
    rw [e1, vp_cell_i, vp_cell_i, arrV_store, hcj]
    congr 2
    funext q
    by_cases hq : q = j.toNat
    · subst hq
      rw [up_at]
      simp [updV]
    · rw [up_other (fun z => hq z.2)]
      simp [updV, hq]
  · rw [hset]
    exact hD.set ha
end WPA
def CRules3 (own : String) (cc : ByteArray) (nL : Nat) (K : KC) : Prop :=
  (∀ (cs ss pc a n : Nat) (z : Int) (L : ML) (st : List MV) (h : MH), kd a = 1 → a < n → (al a : Int) = z → dk cc pc .arraylength 1 = true → K cs ss (pc + 1) L (vI z :: st) n h → K cs ss pc L (vR a :: st) n h) ∧
  (∀ (cs ss pc k n : Nat) (L : ML) (st : List MV) (h : MH) (z y : Int), lkL L k = some (vI z) → k < nL → dk cc pc (.iinc k y) 3 = true → K cs ss (pc + 3) (sto L k (vI (wr (z + y)))) st n h → K cs ss pc L st n h) ∧
  (∀ (cs ss pc tgt n : Nat) (off : Int) (L : ML) (st : List MV) (h : MH) (x y : Int), dk cc pc (.if_icmp .ge off) 3 = true → (pc : Int) + off = (tgt : Int) → (x < y → K cs ss (pc + 3) L st n h) → (¬ x < y → K cs ss tgt L st n h) → K cs ss pc L (vI y :: vI x :: st) n h) ∧
  (∀ (cs ss pc a v n : Nat) (j : Int) (L : ML) (st : List MV) (h : MH), kd a = 1 → a < n → 0 ≤ j ∧ j < (al a : Int) → rf a j.toNat = v → kd v = 6 → v < n → dk cc pc .aastore 1 = true → K cs ss (pc + 1) L st n (up h a j.toNat 1) → K cs ss pc L (vR v :: vI j :: vR a :: st) n h) ∧
  (∀ (cs ss pc a n : Nat) (j v : Int) (L : ML) (st : List MV) (h : MH), kd a = 0 → a < n → 0 ≤ j ∧ j < (al a : Int) → dk cc pc .iastore 1 = true → K cs ss (pc + 1) L st n (up h a j.toNat v) → K cs ss pc L (vI v :: vI j :: vR a :: st) n h) ∧
  (∀ (cs ss pc n : Nat) (L L' : ML) (st : List MV) (h : MH), (∀ q ∈ L', q ∈ L) → K cs ss pc L' st n h → K cs ss pc L st n h)
section WPK3
variable {p : Program} {l : Launch} {e : Env} {R : Room} {s : State} {m : MethodId} {args : Array Value} {below : List Frame} {meth : Method} {c : Code} {Q : State → Prop} {D : va_G} {cI cS : ClassId} {ad : Nat → Nat} {base : Nat} {nL : Nat}
variable {own : String} {cc : ByteArray}
theorem lk_mem {k : Nat} {z : MV} : ∀ {L : ML}, lkL L k = some z → (k, z) ∈ L := by
  intro L
  induction L with
  | nil => intro h; cases h
  | cons q l ih =>
    intro h
    unfold lkL at h
    cases hq : q.1 == k with
    | true =>
      rw [hq] at h
      have hq2 : q.1 = k := by simpa using hq
      obtain ⟨a, b⟩ := q
      cases h
      cases hq2
      exact List.mem_cons_self
    | false =>
      rw [hq] at h
      exact List.mem_cons_of_mem _ (ih h)
theorem crules3_ok (hX : CXP own cc nL p s m args meth c D cI cS) : CRules3 own cc nL (WP p l e R s m args below meth c Q D cI cS ad base nL) := by
  have hX0 := hX
  obtain ⟨hx, hb, hml, hown, hts, hK, hNK⟩ := hX
  refine ⟨?_, ?_, ?_, ?_, ?_, ?_⟩
  · intro cs ss pc a n z L st h h1 h2 hz hd hk
    subst hz
    intro hoL hoS H ls locs hw hS hl
    have hoR : ∀ v ∈ st, okV v := fun v hv => hoS v (List.mem_cons_of_mem _ hv)
    have hol : okV (vI (al a : Int)) := by
      have := al_le a
      show inR _
      unfold inR
      omega
    refine va_alen (D := D) (cl := vwCl) (tys := tysOf cI cS) hx hb hK hw.1 a 1 (by rw [wsP_at h2, cellP_s h1]) rfl (v := Int32.ofInt (al a : Int)) rfl (dk_eq hd) ?_
    exact hk hoL (okc hol hoR) H ls locs hw hS hl
  · intro cs ss pc k n L st h z y hz hlt hd hk hoL hoS H ls locs hw hS hl
    obtain ⟨j, hj⟩ : ∃ j, (L.map (tl ad))[j]? = some (k, Value.int (Int32.ofInt z)) := List.getElem?_of_mem (List.mem_map_of_mem (f := tl ad) (lk_mem hz))
    exact lv_iinc hx hb (dk_eq hd) hl hj (v := Int32.ofInt (wr (z + y))) (by rw [oi_wr, Int32.ofInt_add]) hlt (sto_map ad L k (vI (wr (z + y)))) (fun ls' hl' => hk (sto_ok hoL (inR_wr _)) hoS H ls' locs hw hS hl')
  · intro cs ss pc tgt n off L st h x y hd ht kt kf hoL hoS H ls locs hw hS hl
    have hy0 : inR y := hoS (vI y) List.mem_cons_self
    have hx0 : inR x := hoS (vI x) (List.mem_cons_of_mem _ List.mem_cons_self)
    have hoR : ∀ v ∈ st, okV v := fun v hv => hoS v (List.mem_cons_of_mem _ (List.mem_cons_of_mem _ hv))
    exact lv_icmp_ge hx hb (dk_eq hd) ht (fun q => kf (fun z => by have := (oi_le hy0 hx0).mp q; omega) hoL hoR H ls locs hw hS hl) (fun q => kt (by have q2 : ¬ y ≤ x := fun z => q ((oi_le hy0 hx0).mpr z); omega) hoL hoR H ls locs hw hS hl)
  · intro cs ss pc a v n j L st h h1 h2 h3 hv h4 h5 hd hk
    subst hv
    exact wp_aast hX0 h1 h2 h3 h4 h5 (dk_eq hd) hk
  · intro cs ss pc a n j v L st h h1 h2 h3 hd hk
    exact wp_iast hX0 h1 h2 h3 (dk_eq hd) hk
  · intro cs ss pc n L L' st h hs hk hoL hoS H ls locs hw hS hl
    refine hk (fun q hq => hoL q (hs q hq)) hoS H ls locs hw hS ⟨hl.1, hl.2.1, fun q hq => ?_⟩
    obtain ⟨q0, h1, rfl⟩ := List.mem_map.mp hq
    exact hl.2.2 _ (List.mem_map_of_mem (hs q0 h1))
end WPK3
/-- a constructor's contract out of its walk -/
theorem coni_of {own : String} {cc : ByteArray} {nL d : Nat} {fl : Nat → Option (Nat × Nat)} {y : MethodName} {vs : List MV} {n : Nat} {h : MH} {n' : Nat} {h' : MH} {mc ms : Nat} (hy : plainName y.cls = true) (hyo : y.cls = own) (hyn : y.name = "<init>") (hf : flok own fl) (hd1 : 1 ≤ d) (hai : Cond.arrayClass FieldType.int ∈ TB) (hin : Cond.instanceMethod objectInit ∈ TB) (hco : Cond.code objectInit ⟨#[0xb1]⟩ 1 none ∈ TB) (hc : vs.all (fun v => !c2 v) = true) (hn : vs.length ≤ nL)
    (hK : ∀ K : KC, CRules own cc nL fl d mc ms K → CRules2 own cc nL fl d mc ms K → CRules3 own cc nL K → CRet cc mc ms n' h' K → K 0 0 0 (entL 0 vs) [] n h) : CONI d y cc nL vs n h n' h' mc ms := by
  intro l D cI cS ad base hov
  refine Met.ofW hy rfl ?_
  intro p e s m args below meth c s₁ B hml hv
  obtain ⟨rfl, hw, hKK, hNK⟩ := hv
  have hx := B.exec
  have hb := B.bytes
  have hr := B.returns
  have hts := atoms_spec (ws := Cond.code y cc nL none :: TB) B.pre
  have hown : s.vm.findClass own = some m.cls := by rw [← hyo]; exact findClass_of_methodNamed B.named
  have hin2 : meth.name = "<init>" := by rw [← hyn]; exact (name_of_methodNamed B.named B.method).1
  have hlocks := B.notSynchronized
  have hX : CXP own cc nL p s m (vs.map (tv ad)).toArray meth c D cI cS := ⟨hx, hb, hml, hown, fun w hw => hts w (List.mem_cons_of_mem _ hw), hKK, hNK⟩
  have hM : d ≤ (headSpec (Cond.code y cc nL none :: TB) (rmc d mc ms)).room.frames ∧ 40 * d ≤ (headSpec (Cond.code y cc nL none :: TB) (rmc d mc ms)).room.locals := ⟨Nat.le_refl _, Nat.le_refl _⟩
  have hR1 := crules_ok (l := l) (e := e) (below := below) (R := (headSpec (Cond.code y cc nL none :: TB) (rmc d mc ms)).room) (Q := MQ below (QMI D cI cS ad base n' h') (vs.map (tv ad)).toArray s mc ms (inB base)) (ad := ad) (base := base) (fl := fl) hX hM
  have hR2 := crules2_ok (l := l) (e := e) (below := below) (R := (headSpec (Cond.code y cc nL none :: TB) (rmc d mc ms)).room) (Q := MQ below (QMI D cI cS ad base n' h') (vs.map (tv ad)).toArray s mc ms (inB base)) (ad := ad) (base := base) (fl := fl) hX hin2 hf hai hin hco hd1 hM
  rw [lg_entry_eq]
  have hl := lv_entry (vs.map (tv ad)) (n := nL) (by rw [entL_len ad vs hc]; exact hn)
  generalize (lg_sl (vs.map (tv ad)) ++ List.replicate (nL - (lg_sl (vs.map (tv ad))).length) Slot.unset).toArray = ls at hl ⊢
  rw [entL_args ad vs 0 hc] at hl
  refine hK _ hR1 hR2 (crules3_ok hX) ?_ (entL_ok vs 0 hov) (fun v hv => by cases hv) s.heap ls [] hw va_S.rf hl
  intro pc L h2 hd e2 hoL hoS H ls locs hw hS hl
  subst e2
  exact W.vret hx hb hr (fun t ht hW => ⟨rfl, by rw [ht]; exact hw, hS.F ht⟩) hS.2.2 (dk_eq hd)

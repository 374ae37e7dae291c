def sgIdx : Nat := 223
/-! ===== Int32 against Int ===== -/
theorem ti {z : Int} (h : inR z) : (Int32.ofInt z).toInt = z := by
  unfold inR at h
  rw [Int32.toInt_ofInt]
  have : (Int32.size : Int) = 4294967296 := rfl
  first
    | (rw [this]; exact Int.bmod_eq_of_le (by omega) (by omega))
    | (exact Int.bmod_eq_of_le (by omega) (by omega))
theorem inR_wr (z : Int) : inR (wr z) := by
  unfold inR wr
  have h1 := @Int.le_bmod z 4294967296 (by omega)
  have h2 := @Int.bmod_lt z 4294967296 (by omega)
  omega
theorem wr_id {z : Int} (h : -2147483648 ≤ z ∧ z ≤ 2147483647) : wr z = z := by
  unfold wr
  exact Int.bmod_eq_of_le (by omega) (by omega)
theorem oi_wr (z : Int) : Int32.ofInt (wr z) = Int32.ofInt z := by
  apply Int32.toInt_inj.mp
  rw [ti (inR_wr z), Int32.toInt_ofInt]
  rfl
theorem inR_toInt (x : Int32) : inR x.toInt := by
  unfold inR
  have h1 := Int32.le_toInt x
  have h2 := Int32.toInt_lt x
  omega
theorem oi_toInt (x : Int32) : Int32.ofInt x.toInt = x := Int32.ofInt_toInt x
theorem oi_add (x y : Int) : Int32.ofInt x + Int32.ofInt y = Int32.ofInt (wr (x + y)) := by rw [oi_wr, Int32.ofInt_add]
theorem oi_sub (x y : Int) : Int32.ofInt x - Int32.ofInt y = Int32.ofInt (wr (x - y)) := by rw [oi_wr, Int32.ofInt_sub]
theorem oi_mul (x y : Int) : Int32.ofInt x * Int32.ofInt y = Int32.ofInt (wr (x * y)) := by rw [oi_wr, Int32.ofInt_mul]
theorem oi_neg (x : Int) : -Int32.ofInt x = Int32.ofInt (wr (-x)) := by rw [oi_wr, Int32.ofInt_neg]
theorem oi_eq {x y : Int} (hx : inR x) (hy : inR y) : Int32.ofInt x = Int32.ofInt y ↔ x = y :=
  ⟨fun h => by rw [← ti hx, ← ti hy, h], fun h => by rw [h]⟩
theorem oi_lt {x y : Int} (hx : inR x) (hy : inR y) : Int32.ofInt x < Int32.ofInt y ↔ x < y := by rw [Int32.lt_iff_toInt_lt, ti hx, ti hy]
theorem oi_le {x y : Int} (hx : inR x) (hy : inR y) : Int32.ofInt x ≤ Int32.ofInt y ↔ x ≤ y := by rw [Int32.le_iff_toInt_le, ti hx, ti hy]
theorem oi_nat (n : Nat) : Int32.ofInt (n : Int) = Int32.ofNat n := rfl
theorem oi_clamp {z : Int} (h0 : 0 ≤ z) (h1 : inR z) : (Int32.ofInt z).toNatClampNeg = z.toNat := by
  show (Int32.ofInt z).toInt.toNat = _
  rw [ti h1]
theorem oi_in {z : Int} {n : Nat} (h1 : inR z) (h : 0 ≤ z ∧ z < (n : Int)) : vp_in (Int32.ofInt z) n := by
  rw [vp_in_iff, ti h1]
  exact h
theorem inR_lit {n : Int} (h : -32768 ≤ n ∧ n ≤ 32767) : inR n := by unfold inR; omega
theorem oi_i2c {x : Int} (h : inR x) : ((Int32.ofInt x).toUInt32 % 65536).toInt32 = Int32.ofInt (x % 65536) := by
  apply Int32.toInt_inj.mp
  rw [pk_char, ti (by unfold inR; omega)]
  rw [nI_toInt (by omega)]
  have h2 : ((Int32.ofInt x).toBitVec.toNat : Int) = x % 4294967296 := by
    have h3 : (Int32.ofInt x).toBitVec.toInt = x := ti h
    have h4 := BitVec.toInt_eq_toNat_cond (Int32.ofInt x).toBitVec
    have h5 := (Int32.ofInt x).toBitVec.isLt
    rw [h3] at h4
    unfold inR at h
    split at h4 <;> omega
  omega
/-! ===== the world of cells, and one instruction of the mini machine against the machine ===== -/
def TB : List Cond := lw_tbl.filter goodWord
theorem TB_in {w : Cond} (h : w ∈ TB) : w ∈ lw_tbl := (List.mem_filter.mp h).1
theorem TB_good : GoodIn TB TB := fun w h => ⟨h, good_of_word (List.mem_filter.mp h).2⟩
def cellE (cI cS : ClassId) (ad : Nat → Nat) (h : MH) (i : Nat) : va_E :=
  if kd i = 0 then .inl (cI, al i, .inl (fun j => Int32.ofInt (h i j)))
  else if kd i = 1 then .inl (cS, al i, .inr (.inr (.inr (.inr (fun j => some (ad (rf i j)))))))
  else .inr (kd i - 2, (List.range (fn (kd i - 2))).map (fun k => if fc (kd i - 2) k = 2 then .ref (ad (rf i k)) else .int (Int32.ofInt (h i k))))
def wsOf (cI cS : ClassId) (ad : Nat → Nat) (h : MH) : va_W := (List.range NC).map (fun i => (ad i, cellE cI cS ad h i))
theorem kd_lt {i n : Nat} (h : kd i = n) (hn : n < 1000) : i < NC := by
  rcases Nat.lt_or_ge i NC with q | q
  · exact q
  · exfalso
    unfold kd at h
    rw [List.getD_eq_getElem?_getD, List.getElem?_eq_none (by exact q)] at h
    simp at h
    omega
theorem wsOf_at {cI cS : ClassId} {ad : Nat → Nat} {h : MH} {i : Nat} (hi : i < NC) : (wsOf cI cS ad h)[i]? = some (ad i, cellE cI cS ad h i) := by
  simp [wsOf, hi]
theorem up_ne {h : MH} {i k : Nat} {v : Int} {a : Nat} (ha : a ≠ i) : up h i k v a = h a := by
  funext b
  simp [up, ha]
theorem cellE_up {cI cS : ClassId} {ad : Nat → Nat} {h : MH} {i k : Nat} {v : Int} {a : Nat} (ha : a ≠ i) : cellE cI cS ad (up h i k v) a = cellE cI cS ad h a := by
  unfold cellE
  rw [up_ne ha]
theorem wsOf_up {cI cS : ClassId} {ad : Nat → Nat} {h : MH} {i k : Nat} {v : Int} : wsOf cI cS ad (up h i k v) = (wsOf cI cS ad h).set i (ad i, cellE cI cS ad (up h i k v) i) := by
  apply List.ext_getElem?
  intro j
  have hlen : (wsOf cI cS ad h).length = NC := by simp [wsOf]
  by_cases hj : j < NC
  · by_cases hij : j = i
    · subst hij
      rw [wsOf_at hj, List.getElem?_set_self (by rw [hlen]; exact hj)]
    · rw [List.getElem?_set_ne (Ne.symm hij), wsOf_at hj, wsOf_at hj, cellE_up hij]
  · rw [List.getElem?_eq_none (by simp [wsOf]; omega), List.getElem?_eq_none (by simp [wsOf]; omega)]
theorem cellE_i {cI cS : ClassId} {ad : Nat → Nat} {h : MH} {i : Nat} (hk : kd i = 0) : cellE cI cS ad h i = .inl (cI, al i, .inl (fun j => Int32.ofInt (h i j))) := by
  unfold cellE; rw [if_pos hk]
theorem cellE_s {cI cS : ClassId} {ad : Nat → Nat} {h : MH} {i : Nat} (hk : kd i = 1) : cellE cI cS ad h i = .inl (cS, al i, .inr (.inr (.inr (.inr (fun j => some (ad (rf i j))))))) := by
  unfold cellE; rw [if_neg (by omega), if_pos hk]
theorem cellE_o {cI cS : ClassId} {ad : Nat → Nat} {h : MH} {i ci : Nat} (hk : kd i = ci + 2) : cellE cI cS ad h i = .inr (ci, (List.range (fn ci)).map (fun k => if fc ci k = 2 then .ref (ad (rf i k)) else .int (Int32.ofInt (h i k)))) := by
  unfold cellE
  rw [if_neg (by omega), if_neg (by omega)]
  have : kd i - 2 = ci := by omega
  rw [this]
def sgTx : String := "abcdef.{}"
def EXT (ad : Nat → Nat) (A : Nat → Prop) (U : State) (H : Heap) : Prop := vk_R "HunkSlides" sgIdx sgTx (ad 101) U ∧ vk_S 1 [9] [[97, 98, 99, 100, 101, 102, 46, 123, 125]] (fun _ => ad 101) (fun _ => ad 102) A U H ∧ va_Z "java/lang/String" "COMPACT_STRINGS" "Z" (.int 1) A U H
abbrev tysOf (cI cS : ClassId) : List (ClassId × FieldType) := [(cI, .int), (cS, .object "HunkSlides$State")]
def wld (D : va_G) (cI cS : ClassId) (ad : Nat → Nat) (A : Nat → Prop) (h : MH) (H : Heap) : Prop := va_P D vwCl (wsOf cI cS ad h) H ∧ va_D A (wsOf cI cS ad h) ∧ ∀ i j, inR (h i j)
def CX (own : String) (cc : ByteArray) (nL : Nat) (ret : Option FieldType) (p : Program) (s : State) (m : MethodId) (args : Array Value) (meth : Method) (c : Code) (D : va_G) (cI cS : ClassId) (ad : Nat → Nat) (A : Nat → Prop) : Prop :=
  p.tables.exec = Jvm.exec ∧ c.code = cc ∧ c.maxLocals = nL ∧ meth.sig.returnType = ret ∧ s.vm.findClass own = some m.cls ∧ (∀ w ∈ TB, w.before args s = true) ∧ va_K D vwCl (tysOf cI cS) s ∧ meth.locks = false ∧ EXT ad A s s.heap
def FLD (own : String) (idx ci k : Nat) : Prop := ∃ (C : String) (T : u_T) (N : Nat) (ty : Nat → FieldType), vwCl[ci]? = some (C, T, N) ∧ k < N ∧ fn ci = N ∧ (T k).1 = C ∧ Cond.fieldLink own idx C (T k).2.1 (T k).2.2.1 ∈ TB ∧ (∀ w ∈ u_ws C T N, w ∈ TB) ∧
  (∀ k, k < N → parseFieldDescriptor (T k).2.2.1 = some (ty k)) ∧ (∀ a, a < N → ∀ b, b < N → a ≠ b → (T a).2.1 ≠ (T b).2.1) ∧ (fc ci k = 0 → ty k = .int) ∧ (fc ci k = 1 → ty k = .boolean) ∧ (fc ci k ≠ 2 → (T k).2.2.2 = false)
def flok (own : String) (fl : Nat → Option (Nat × Nat)) : Prop := ∀ idx ci k, fl idx = some (ci, k) → FLD own idx ci k
def WM (p : Program) (l : Launch) (e : Env) (R : Room) (s : State) (m : MethodId) (args : Array Value) (below : List Frame) (meth : Method) (c : Code) (cells slots : Nat) (Q : State → Prop) (D : va_G) (cI cS : ClassId) (ad : Nat → Nat) (A : Nat → Prop) (nL : Nat) (pc : Nat) (L : ML) (st : List MV) (h : MH) : Prop :=
  (∀ q ∈ L, okV q.2) → (∀ v ∈ st, okV v) → ∀ (H : Heap) (ls : Array Slot) (locs : List Loc), wld D cI cS ad A h H → va_S A s.heap H locs → lv_has ls nL (L.map (tl ad)) → W p l e R s m args below meth c H locs cells slots Q (F0 m pc ls (st.map (tv ad)))
theorem tv_cat (ad : Nat → Nat) (v : MV) : ((tv ad v).category == 2) = c2 v := by
  rcases v with z | (_ | i) | d <;> rfl
theorem tv_cat1 {ad : Nat → Nat} {v : MV} (h : c2 v = false) : (tv ad v).category = 1 := by
  rcases v with z | (_ | i) | d
  · rfl
  · rfl
  · rfl
  · cases h
theorem lk_at {ad : Nat → Nat} {ls : Array Slot} {nL : Nat} {v : MV} {i : Nat} : ∀ {L : ML}, lv_has ls nL (L.map (tl ad)) → lkL L i = some v → ls[i]? = some (.val (tv ad v)) := by
  intro L h hk
  have key : ∀ L : ML, lkL L i = some v → (i, v) ∈ L := by
    intro L
    induction L with
    | nil => intro h; cases h
    | cons q l ih =>
      intro h
      unfold lkL at h
      cases hq : q.1 == i with
      | true =>
        rw [hq] at h
        have hq2 : q.1 = i := by simpa using hq
        obtain ⟨a, b⟩ := q
        cases h
        cases hq2
        exact List.mem_cons_self
      | false =>
        rw [hq] at h
        exact List.mem_cons_of_mem _ (ih h)
  exact h.2.2 (tl ad (i, v)) (List.mem_map_of_mem (key L hk))
theorem lk_ok {v : MV} {i : Nat} : ∀ {L : ML}, (∀ q ∈ L, okV q.2) → lkL L i = some v → okV v := by
  intro L
  induction L with
  | nil => intro _ h; cases h
  | cons q l ih =>
    intro ho h
    unfold lkL at h
    cases hq : q.1 == i with
    | true =>
      rw [hq] at h
      cases h
      exact ho q List.mem_cons_self
    | false =>
      rw [hq] at h
      exact ih (fun q hq => ho q (List.mem_cons_of_mem _ hq)) h
theorem sto_map (ad : Nat → Nat) (L : ML) (i : Nat) (v : MV) : (i, tv ad v) :: (L.map (tl ad)).filter (fun q => !(q.1 == i) && !(q.1 + 1 == i && q.2.category == 2)) = (sto L i v).map (tl ad) := by
  unfold sto
  rw [List.map_cons, List.filter_map]
  congr 2
  apply List.filter_congr
  intro q _
  simp only [Function.comp, tl, tv_cat]
theorem sto2_map (ad : Nat → Nat) (L : ML) (i : Nat) (v : MV) : (i, tv ad v) :: (L.map (tl ad)).filter (fun q => !(q.1 == i) && (!(q.1 == i + 1) && !(q.1 + 1 == i && q.2.category == 2))) = (sto2 L i v).map (tl ad) := by
  unfold sto2
  rw [List.map_cons, List.filter_map]
  congr 2
  apply List.filter_congr
  intro q _
  simp only [Function.comp, tl, tv_cat]
theorem sto_ok {L : ML} {i : Nat} {v : MV} (ho : ∀ q ∈ L, okV q.2) (hv : okV v) : ∀ q ∈ sto L i v, okV q.2 := by
  intro q hq
  rcases List.mem_cons.mp hq with rfl | hq
  · exact hv
  · exact ho q (List.mem_filter.mp hq).1
theorem sto2_ok {L : ML} {i : Nat} {v : MV} (ho : ∀ q ∈ L, okV q.2) (hv : okV v) : ∀ q ∈ sto2 L i v, okV q.2 := by
  intro q hq
  rcases List.mem_cons.mp hq with rfl | hq
  · exact hv
  · exact ho q (List.mem_filter.mp hq).1
theorem okc {v : MV} {st : List MV} (hv : okV v) (h : ∀ v ∈ st, okV v) : ∀ w ∈ v :: st, okV w := List.forall_mem_cons.mpr ⟨hv, h⟩
theorem rng_up {h : MH} {i k : Nat} {v : Int} (hh : ∀ i j, inR (h i j)) (hv : inR v) : ∀ a b, inR (up h i k v a b) := by
  intro a b
  unfold up
  split
  · exact hv
  · exact hh a b
theorem al_le (i : Nat) : al i ≤ 1000 := by
  unfold al
  rw [List.getD_eq_getElem?_getD]
  cases hq : alL[i]? with
  | none => exact Nat.zero_le _
  | some x =>
    have : ∀ y ∈ alL, y ≤ 1000 := by decide
    exact this x (List.mem_of_getElem? hq)

section STEP
variable {p : Program} {l : Launch} {e : Env} {R : Room} {s : State} {m : MethodId} {args : Array Value} {below : List Frame} {meth : Method} {c : Code} {cells slots : Nat} {Q : State → Prop} {D : va_G} {cI cS : ClassId} {ad : Nat → Nat} {A : Nat → Prop} {nL : Nat}
variable {own : String} {cc : ByteArray} {ret : Option FieldType} {fl : Nat → Option (Nat × Nat)} {pc : Nat}
theorem wm_get (hX : CX own cc nL ret p s m args meth c D cI cS ad A) (hf : flok own fl) {idx ci k i : Nat} {L : ML} {st : List MV} {h : MH} (hfl : fl idx = some (ci, k)) (hki : kd i = ci + 2) (hd : decode cc pc = .ok (.getfield idx, 3))
    (hk : WM p l e R s m args below meth c cells slots Q D cI cS ad A nL (pc + 3) L ((if fc ci k = 2 then vR (rf i k) else vI (h i k)) :: st) h) : WM p l e R s m args below meth c cells slots Q D cI cS ad A nL pc L (vR i :: st) h := by
  obtain ⟨hx, hb, hml, hr, hown, hts, hK, hlocks, hE⟩ := hX
  obtain ⟨C, T, N, ty, g1, g2, g3, g4, g5, g6, g7, g8, g9, g10, g11⟩ := hf idx ci k hfl
  intro hoL hoS H ls locs hw hS hl
  have hi : i < NC := kd_lt hki (by
    have : ci < 7 := (List.getElem?_eq_some_iff.mp g1).1
    omega)
  refine va_get (ref := C) (D := D) (cl := vwCl) (tys := tysOf cI cS) (Ts := TB) hx hb hts g6 hown hK hw.1 i (by rw [wsOf_at hi, cellE_o hki]) g1 k g2 (hts _ g5) (fun _ q => by rw [g4] at q; exact q) (v := tv ad (if fc ci k = 2 then vR (rf i k) else vI (h i k))) ?_ hd ?_
  · rw [List.getElem?_map, List.getElem?_range (by omega)]
    show some (if fc ci k = 2 then _ else _) = _
    split <;> rfl
  · refine hk hoL ?_ H ls locs hw hS hl
    intro v hv
    rcases List.mem_cons.mp hv with rfl | hv
    · split
      · exact trivial
      · exact hw.2.2 i k
    · exact hoS v (List.mem_cons_of_mem _ hv)
theorem wm_put (hX : CX own cc nL ret p s m args meth c D cI cS ad A) (hf : flok own fl) {idx ci k i : Nat} {L : ML} {st : List MV} {h : MH} {v : Int} (hfl : fl idx = some (ci, k)) (hki : kd i = ci + 2) (hc : fc ci k = 0 ∨ (fc ci k = 1 ∧ (v = 0 ∨ v = 1))) (hd : decode cc pc = .ok (.putfield idx, 3))
    (hk : WM p l e R s m args below meth c cells slots Q D cI cS ad A nL (pc + 3) L st (up h i k v)) : WM p l e R s m args below meth c cells slots Q D cI cS ad A nL pc L (vI v :: vR i :: st) h := by
  obtain ⟨hx, hb, hml, hr, hown, hts, hK, hlocks, hE⟩ := hX
  obtain ⟨C, T, N, ty, g1, g2, g3, g4, g5, g6, g7, g8, g9, g10, g11⟩ := hf idx ci k hfl
  intro hoL hoS H ls locs hw hS hl
  have hi : i < NC := kd_lt hki (by
    have : ci < 7 := (List.getElem?_eq_some_iff.mp g1).1
    omega)
  have hv0 : inR v := hoS (vI v) List.mem_cons_self
  have hn2 : fc ci k ≠ 2 := by omega
  have hnar : narrow (ty k) (.int (Int32.ofInt v)) = .int (Int32.ofInt v) ∧ fits (ty k) (.int (Int32.ofInt v)) = true := by
    rcases hc with hc | ⟨hc, rfl | rfl⟩
    · rw [g9 hc]; exact ⟨rfl, rfl⟩
    · rw [g10 hc]; exact ⟨by decide, by decide⟩
    · rw [g10 hc]; exact ⟨by decide, by decide⟩
  refine va_put (ref := C) (D := D) (cl := vwCl) (tys := tysOf cI cS) (Ts := TB) (v := .int (Int32.ofInt v)) (ty := ty k) hx hb hts g6 ty g7 g8 hown hK hw.1 hw.2.1 hS i (by rw [wsOf_at hi, cellE_o hki]) g1 k g2 (hts _ g5) (fun _ q => by rw [g4] at q; exact q) (g11 hn2) (g7 k g2) hnar.1 hnar.2 (by simp; omega) hd ?_
  intro H1 locs1 hP1 hD1 hS1
  have hset : (wsOf cI cS ad h).set i (ad i, .inr (ci, ((List.range (fn ci)).map (fun k => if fc ci k = 2 then Value.ref (ad (rf i k)) else .int (Int32.ofInt (h i k)))).set k (.int (Int32.ofInt v)))) = wsOf cI cS ad (up h i k v) := by
    rw [wsOf_up]
    congr 2
    rw [cellE_o hki]
    congr 2
    apply List.ext_getElem?
    intro j
    by_cases hj : j < fn ci
    · by_cases hjk : j = k
      · subst hjk
        rw [List.getElem?_set_self (by simp; omega), List.getElem?_map, List.getElem?_range hj]
        show _ = some (if fc ci j = 2 then _ else _)
        rw [if_neg hn2]
        simp [up]
      · rw [List.getElem?_set_ne (Ne.symm hjk), List.getElem?_map, List.getElem?_map, List.getElem?_range hj]
        simp [up, hjk]
    · rw [List.getElem?_eq_none (by simp; omega), List.getElem?_eq_none (by simp; omega)]
  rw [hset] at hP1 hD1
  exact hk hoL (fun w hw => hoS w (List.mem_cons_of_mem _ (List.mem_cons_of_mem _ hw))) H1 ls locs1 ⟨hP1, hD1, rng_up hw.2.2 hv0⟩ hS1 hl
theorem wm_iald (hX : CX own cc nL ret p s m args meth c D cI cS ad A) {a : Nat} {j : Int} {L : ML} {st : List MV} {h : MH} (hka : kd a = 0) (hj : 0 ≤ j ∧ j < (al a : Int)) (hd : decode cc pc = .ok (.iaload, 1))
    (hk : WM p l e R s m args below meth c cells slots Q D cI cS ad A nL (pc + 1) L (vI (h a j.toNat) :: st) h) : WM p l e R s m args below meth c cells slots Q D cI cS ad A nL pc L (vI j :: vR a :: st) h := by
  obtain ⟨hx, hb, hml, hr, hown, hts, hK, hlocks, hE⟩ := hX
  intro hoL hoS H ls locs hw hS hl
  have hi : a < NC := kd_lt hka (by omega)
  have hj0 : inR j := hoS (vI j) List.mem_cons_self
  refine va_iald (D := D) (cl := vwCl) (tys := tysOf cI cS) hx hb hK hw.1 a 0 (by rw [wsOf_at hi, cellE_i hka]) rfl (oi_in hj0 hj) hd ?_
  rw [oi_clamp hj.1 hj0]
  exact hk hoL (okc (v := vI (h a j.toNat)) (hw.2.2 _ _) (fun w hw => hoS w (List.mem_cons_of_mem _ (List.mem_cons_of_mem _ hw)))) H ls locs hw hS hl
theorem wm_iast (hX : CX own cc nL ret p s m args meth c D cI cS ad A) {a : Nat} {j v : Int} {L : ML} {st : List MV} {h : MH} (hka : kd a = 0) (hj : 0 ≤ j ∧ j < (al a : Int)) (hd : decode cc pc = .ok (.iastore, 1))
    (hk : WM p l e R s m args below meth c cells slots Q D cI cS ad A nL (pc + 1) L st (up h a j.toNat v)) : WM p l e R s m args below meth c cells slots Q D cI cS ad A nL pc L (vI v :: vI j :: vR a :: st) h := by
  obtain ⟨hx, hb, hml, hr, hown, hts, hK, hlocks, hE⟩ := hX
  intro hoL hoS H ls locs hw hS hl
  have hi : a < NC := kd_lt hka (by omega)
  have hv0 : inR v := hoS (vI v) List.mem_cons_self
  have hj0 : inR j := hoS (vI j) (List.mem_cons_of_mem _ List.mem_cons_self)
  refine va_iast (D := D) (cl := vwCl) (tys := tysOf cI cS) hx hb hK hw.1 hw.2.1 hS a 0 (by rw [wsOf_at hi, cellE_i hka]) rfl (oi_in hj0 hj) hd ?_
  intro H1 locs1 hP1 hD1 hS1
  rw [oi_clamp hj.1 hj0] at hP1 hD1
  have hset : (wsOf cI cS ad h).set a (ad a, .inl (cI, al a, .inl (upd (fun j => Int32.ofInt (h a j)) j.toNat (Int32.ofInt v)))) = wsOf cI cS ad (up h a j.toNat v) := by
    rw [wsOf_up]
    congr 2
    rw [cellE_i hka]
    congr 4
    funext b
    unfold upd up
    by_cases hbj : b = j.toNat
    · simp [hbj]
    · simp [hbj]
  rw [hset] at hP1 hD1
  exact hk hoL (fun w hw => hoS w (List.mem_cons_of_mem _ (List.mem_cons_of_mem _ (List.mem_cons_of_mem _ hw)))) H1 ls locs1 ⟨hP1, hD1, rng_up hw.2.2 hv0⟩ hS1 hl
theorem wm_alen (hX : CX own cc nL ret p s m args meth c D cI cS ad A) {a : Nat} {L : ML} {st : List MV} {h : MH} (hka : kd a ≤ 1) (hd : decode cc pc = .ok (.arraylength, 1))
    (hk : WM p l e R s m args below meth c cells slots Q D cI cS ad A nL (pc + 1) L (vI (al a : Int) :: st) h) : WM p l e R s m args below meth c cells slots Q D cI cS ad A nL pc L (vR a :: st) h := by
  obtain ⟨hx, hb, hml, hr, hown, hts, hK, hlocks, hE⟩ := hX
  intro hoL hoS H ls locs hw hS hl
  have hi : a < NC := kd_lt (n := kd a) rfl (by omega)
  have hol : okV (vI (al a : Int)) := by
    have := al_le a
    show inR _
    unfold inR
    omega
  rcases (show kd a = 0 ∨ kd a = 1 by omega) with hk0 | hk0
  · refine va_alen (D := D) (cl := vwCl) (tys := tysOf cI cS) hx hb hK hw.1 a 0 (by rw [wsOf_at hi, cellE_i hk0]) rfl (v := Int32.ofInt (al a : Int)) rfl hd ?_
    exact hk hoL (okc hol (fun w hw => hoS w (List.mem_cons_of_mem _ hw))) H ls locs hw hS hl
  · refine va_alen (D := D) (cl := vwCl) (tys := tysOf cI cS) hx hb hK hw.1 a 1 (by rw [wsOf_at hi, cellE_s hk0]) rfl (v := Int32.ofInt (al a : Int)) rfl hd ?_
    exact hk hoL (okc hol (fun w hw => hoS w (List.mem_cons_of_mem _ hw))) H ls locs hw hS hl
theorem wm_aald (hX : CX own cc nL ret p s m args meth c D cI cS ad A) {a : Nat} {j : Int} {L : ML} {st : List MV} {h : MH} (hka : kd a = 1) (hj : 0 ≤ j ∧ j < (al a : Int)) (hd : decode cc pc = .ok (.aaload, 1))
    (hk : WM p l e R s m args below meth c cells slots Q D cI cS ad A nL (pc + 1) L (vR (rf a j.toNat) :: st) h) : WM p l e R s m args below meth c cells slots Q D cI cS ad A nL pc L (vI j :: vR a :: st) h := by
  obtain ⟨hx, hb, hml, hr, hown, hts, hK, hlocks, hE⟩ := hX
  intro hoL hoS H ls locs hw hS hl
  have hi : a < NC := kd_lt hka (by omega)
  have hj0 : inR j := hoS (vI j) List.mem_cons_self
  refine va_aldq (D := D) (cl := vwCl) (tys := tysOf cI cS) hx hb hK hw.1 a 1 (by rw [wsOf_at hi, cellE_s hka]) rfl (oi_in hj0 hj) hd ?_
  rw [oi_clamp hj.1 hj0]
  exact hk hoL (okc (v := vR (rf a j.toNat)) trivial (fun w hw => hoS w (List.mem_cons_of_mem _ (List.mem_cons_of_mem _ hw)))) H ls locs hw hS hl
theorem step_ok (hX : CX own cc nL ret p s m args meth c D cI cS ad A) (hf : flok own fl) {I : Instr} {L L' : ML} {st st' : List MV} {h h' : MH} {P : Prop} (hd : decode cc pc = .ok (I, ilen I)) (hs : mstep fl nL I L st h = some ((L', st', h'), P)) (hP : P)
    (hk : WM p l e R s m args below meth c cells slots Q D cI cS ad A nL (pc + ilen I) L' st' h') : WM p l e R s m args below meth c cells slots Q D cI cS ad A nL pc L st h := by
  have hX0 := hX
  obtain ⟨hx, hb, hml, hr, hown, hts, hK, hlocks, hE⟩ := hX
  unfold mstep at hs
  split at hs
  -- iconst
  · rename_i n
    cases hc : (decide (-100 ≤ n) && decide (n ≤ 100)) with
    | false => rw [hc] at hs; cases hs
    | true =>
      rw [hc] at hs; cases hs
      simp only [Bool.and_eq_true, decide_eq_true_eq] at hc
      intro hoL hoS H ls locs hw hS hl
      exact lv_iconst hx hb hd rfl (hk hoL (okc (v := vI n) (inR_lit (by omega)) hoS) H ls locs hw hS hl)
  · rename_i n
    cases hc : (decide (-128 ≤ n) && decide (n ≤ 127)) with
    | false => rw [hc] at hs; cases hs
    | true =>
      rw [hc] at hs; cases hs
      simp only [Bool.and_eq_true, decide_eq_true_eq] at hc
      intro hoL hoS H ls locs hw hS hl
      refine lv_bipush hx hb hd (v := Int32.ofInt n) ?_ (hk hoL (okc (v := vI n) (inR_lit (by omega)) hoS) H ls locs hw hS hl)
      apply Int32.toInt_inj.mp
      rw [ti (inR_lit (by omega)), Int8.toInt_toInt32, Int8.toInt_ofInt]
      exact Int.bmod_eq_of_le (by show -((256 : Int) / 2) ≤ n; omega) (by show n < ((256 : Int) + 1) / 2; omega)
  · rename_i n
    cases hc : (decide (-32768 ≤ n) && decide (n ≤ 32767)) with
    | false => rw [hc] at hs; cases hs
    | true =>
      rw [hc] at hs; cases hs
      simp only [Bool.and_eq_true, decide_eq_true_eq] at hc
      intro hoL hoS H ls locs hw hS hl
      refine lv_sipush hx hb hd (v := Int32.ofInt n) ?_ (hk hoL (okc (v := vI n) (inR_lit (by omega)) hoS) H ls locs hw hS hl)
      apply Int32.toInt_inj.mp
      rw [ti (inR_lit (by omega)), Int16.toInt_toInt32, Int16.toInt_ofInt]
      exact Int.bmod_eq_of_le (by show -((65536 : Int) / 2) ≤ n; omega) (by show n < ((65536 : Int) + 1) / 2; omega)
  -- loads
  · rename_i k
    split at hs
    · rename_i z hz; cases hs
      intro hoL hoS H ls locs hw hS hl
      exact lv_iload_n hx hb hd rfl (lk_at hl hz) (hk hoL (okc (v := vI z) (lk_ok hoL hz) hoS) H ls locs hw hS hl)
    · cases hs
  · rename_i k
    split at hs
    · rename_i z hz; cases hs
      intro hoL hoS H ls locs hw hS hl
      exact lv_iload hx hb hd (lk_at hl hz) (hk hoL (okc (v := vI z) (lk_ok hoL hz) hoS) H ls locs hw hS hl)
    · cases hs
  · rename_i k
    split at hs
    · rename_i o hz; cases hs
      intro hoL hoS H ls locs hw hS hl
      cases o with
      | none => exact lv_aload_nN hx hb hd rfl (lk_at hl hz) (hk hoL (okc (v := vO none) trivial hoS) H ls locs hw hS hl)
      | some i => exact lv_aload_n hx hb hd rfl (lk_at hl hz) (hk hoL (okc (v := vO (some i)) trivial hoS) H ls locs hw hS hl)
    · cases hs
  · rename_i k
    split at hs
    · rename_i o hz; cases hs
      intro hoL hoS H ls locs hw hS hl
      cases o with
      | none => exact lv_aloadN hx hb hd (lk_at hl hz) (hk hoL (okc (v := vO none) trivial hoS) H ls locs hw hS hl)
      | some i => exact lv_aload hx hb hd (lk_at hl hz) (hk hoL (okc (v := vO (some i)) trivial hoS) H ls locs hw hS hl)
    · cases hs
  · rename_i k
    split at hs
    · rename_i z hz; cases hs
      intro hoL hoS H ls locs hw hS hl
      exact lv_dload hx hb hd (lk_at hl hz) (hk hoL (okc (v := vD z) trivial hoS) H ls locs hw hS hl)
    · cases hs
  -- stores
  · rename_i k z st
    cases hc : decide (k.val < nL) with
    | false => rw [hc] at hs; cases hs
    | true =>
      rw [hc] at hs; cases hs
      intro hoL hoS H ls locs hw hS hl
      exact lv_istore_n hx hb hd rfl hl (of_decide_eq_true hc) (sto_map ad L k.val (vI z)) (fun ls' hl' => hk (sto_ok hoL (hoS _ List.mem_cons_self)) (fun w hw => hoS w (List.mem_cons_of_mem _ hw)) H ls' locs hw hS hl')
  · rename_i k z st
    cases hc : decide (k < nL) with
    | false => rw [hc] at hs; cases hs
    | true =>
      rw [hc] at hs; cases hs
      intro hoL hoS H ls locs hw hS hl
      exact lv_istore hx hb hd hl (of_decide_eq_true hc) (sto_map ad L k (vI z)) (fun ls' hl' => hk (sto_ok hoL (hoS _ List.mem_cons_self)) (fun w hw => hoS w (List.mem_cons_of_mem _ hw)) H ls' locs hw hS hl')
  · rename_i k z st
    cases hc : decide (k.val < nL) with
    | false => rw [hc] at hs; cases hs
    | true =>
      rw [hc] at hs; cases hs
      intro hoL hoS H ls locs hw hS hl
      exact lv_astore_n hx hb hd rfl hl (of_decide_eq_true hc) (sto_map ad L k.val (vR z)) (fun ls' hl' => hk (sto_ok hoL (hoS _ List.mem_cons_self)) (fun w hw => hoS w (List.mem_cons_of_mem _ hw)) H ls' locs hw hS hl')
  · rename_i k z st
    cases hc : decide (k < nL) with
    | false => rw [hc] at hs; cases hs
    | true =>
      rw [hc] at hs; cases hs
      intro hoL hoS H ls locs hw hS hl
      exact lv_astore hx hb hd hl (of_decide_eq_true hc) (sto_map ad L k (vR z)) (fun ls' hl' => hk (sto_ok hoL (hoS _ List.mem_cons_self)) (fun w hw => hoS w (List.mem_cons_of_mem _ hw)) H ls' locs hw hS hl')
  · rename_i k z st
    cases hc : decide (k + 1 < nL) with
    | false => rw [hc] at hs; cases hs
    | true =>
      rw [hc] at hs; cases hs
      intro hoL hoS H ls locs hw hS hl
      exact lv_dstore hx hb hd hl (of_decide_eq_true hc) (sto2_map ad L k (vD z)) (fun ls' hl' => hk (sto2_ok hoL (hoS _ List.mem_cons_self)) (fun w hw => hoS w (List.mem_cons_of_mem _ hw)) H ls' locs hw hS hl')
  -- iinc
  · rename_i k n
    split at hs
    · rename_i z hz
      cases hc : decide (k < nL) with
      | false => rw [hc] at hs; cases hs
      | true =>
        rw [hc] at hs; cases hs
        intro hoL hoS H ls locs hw hS hl
        obtain ⟨j, hj⟩ : ∃ j, (L.map (tl ad))[j]? = some (k, Value.int (Int32.ofInt z)) := by
          have key : ∀ L : ML, lkL L k = some (.inl z) → (k, vI z) ∈ L := by
            intro L
            induction L with
            | nil => intro h; cases h
            | cons q l ih =>
              intro h
              unfold lkL at h
              cases hq : q.1 == k with
              | true =>
                rw [hq] at h
                have hq2 : q.1 = k := by simpa using hq
                obtain ⟨a, b⟩ := q
                cases h
                cases hq2
                exact List.mem_cons_self
              | false =>
                rw [hq] at h
                exact List.mem_cons_of_mem _ (ih h)
          exact List.getElem?_of_mem (List.mem_map_of_mem (f := tl ad) (key L hz))
        have hz0 : inR z := lk_ok hoL hz
        exact lv_iinc hx hb hd hl hj (v := Int32.ofInt (wr (z + n))) (by rw [oi_wr, Int32.ofInt_add]) (of_decide_eq_true hc) (sto_map ad L k (vI (wr (z + n)))) (fun ls' hl' => hk (sto_ok hoL (inR_wr _)) hoS H ls' locs hw hS hl')
    · cases hs
  -- arithmetic
  · rename_i y x st
    cases hs
    intro hoL hoS H ls locs hw hS hl
    have k9 := hk hoL (okc (v := vI (wr (x + y))) (inR_wr _) (fun w hw => hoS w (List.mem_cons_of_mem _ (List.mem_cons_of_mem _ hw)))) H ls locs hw hS hl
    exact lv_iadd hx hb hd (by rw [oi_add]; exact k9)
  · rename_i y x st
    cases hs
    intro hoL hoS H ls locs hw hS hl
    have k9 := hk hoL (okc (v := vI (wr (x - y))) (inR_wr _) (fun w hw => hoS w (List.mem_cons_of_mem _ (List.mem_cons_of_mem _ hw)))) H ls locs hw hS hl
    exact lv_isub hx hb hd (by rw [oi_sub]; exact k9)
  · rename_i y x st
    cases hs
    intro hoL hoS H ls locs hw hS hl
    have k9 := hk hoL (okc (v := vI (wr (x * y))) (inR_wr _) (fun w hw => hoS w (List.mem_cons_of_mem _ (List.mem_cons_of_mem _ hw)))) H ls locs hw hS hl
    exact lv_imul hx hb hd (by rw [oi_mul]; exact k9)
  · rename_i x st
    cases hs
    intro hoL hoS H ls locs hw hS hl
    have k9 := hk hoL (okc (v := vI (wr (-x))) (inR_wr _) (fun w hw => hoS w (List.mem_cons_of_mem _ hw))) H ls locs hw hS hl
    exact lv_ineg hx hb hd (by rw [oi_neg]; exact k9)
  · rename_i x st
    cases hs
    intro hoL hoS H ls locs hw hS hl
    have hx0 : inR x := hoS _ List.mem_cons_self
    exact lv_i2c hx hb hd (oi_i2c hx0) (hk hoL (okc (v := vI (x % 65536)) (by show inR _; unfold inR; omega) (fun w hw => hoS w (List.mem_cons_of_mem _ hw))) H ls locs hw hS hl)
  -- stack
  · rename_i z st
    cases hs
    intro hoL hoS H ls locs hw hS hl
    exact lv_dup hx hb hd rfl (hk hoL (okc (v := vI z) (hoS _ List.mem_cons_self) hoS) H ls locs hw hS hl)
  · rename_i o st
    cases hs
    intro hoL hoS H ls locs hw hS hl
    exact lv_dup hx hb hd (tv_cat1 (v := vO o) rfl) (hk hoL (okc (v := vO o) trivial hoS) H ls locs hw hS hl)
  · rename_i y o st
    cases hs
    intro hoL hoS H ls locs hw hS hl
    exact lv_dup2_11 hx hb hd rfl (tv_cat1 (v := vO o) rfl) (hk hoL (okc (v := vI y) (hoS _ List.mem_cons_self) (okc (v := vO o) trivial hoS)) H ls locs hw hS hl)
  · rename_i z st
    cases hs
    intro hoL hoS H ls locs hw hS hl
    exact lv_pop hx hb hd rfl (hk hoL (fun w hw => hoS w (List.mem_cons_of_mem _ hw)) H ls locs hw hS hl)
  · skip
    cases hs
    intro hoL hoS H ls locs hw hS hl
    exact lv_null hx hb hd (hk hoL (okc (v := vO none) trivial hoS) H ls locs hw hS hl)
  -- fields, arrays
  · rename_i idx i st
    split at hs
    · rename_i ci k hfl
      cases hc : (fc ci k == 2) with
      | true =>
        rw [hc] at hs; cases hs
        refine wm_get hX0 hf hfl hP hd ?_
        rw [if_pos (by simpa using hc)]
        exact hk
      | false =>
        rw [hc] at hs; cases hs
        refine wm_get hX0 hf hfl hP hd ?_
        rw [if_neg (by simpa using hc)]
        exact hk
    · cases hs
  · rename_i idx v i st
    split at hs
    · rename_i ci k hfl
      cases hc : (fc ci k == 0) with
      | true =>
        rw [hc] at hs; cases hs
        exact wm_put hX0 hf hfl hP (Or.inl (by simpa using hc)) hd hk
      | false =>
        rw [hc] at hs
        cases hc1 : (fc ci k == 1) with
        | true =>
          rw [hc1] at hs; cases hs
          exact wm_put hX0 hf hfl hP.1 (Or.inr ⟨by simpa using hc1, hP.2⟩) hd hk
        | false => rw [hc1] at hs; cases hs
    · cases hs
  · rename_i j a st
    cases hs
    exact wm_iald hX0 hP.1 hP.2 hd hk
  · rename_i v j a st
    cases hs
    exact wm_iast hX0 hP.1 hP.2 hd hk
  · rename_i a st
    cases hs
    exact wm_alen hX0 hP hd hk
  · rename_i j a st
    cases hs
    exact wm_aald hX0 hP.1 hP.2 hd hk
  -- doubles
  · rename_i x st
    cases hs
    intro hoL hoS H ls locs hw hS hl
    exact lv_i2d hx hb hd (hk hoL (okc (v := vD _) trivial (fun w hw => hoS w (List.mem_cons_of_mem _ hw))) H ls locs hw hS hl)
  · rename_i n
    cases hc : (n.val == 1) with
    | false => rw [hc] at hs; cases hs
    | true =>
      rw [hc] at hs; cases hs
      have hn : n = 1 := by
        apply Fin.ext
        simpa using hc
      subst hn
      intro hoL hoS H ls locs hw hS hl
      exact lv_dconst1 hx hb hd (hk hoL (okc (v := vD _) trivial hoS) H ls locs hw hS hl)
  · rename_i y x st
    cases hs
    intro hoL hoS H ls locs hw hS hl
    exact lv_dmul hx hb hd hP (hk hoL (okc (v := vD _) trivial (fun w hw => hoS w (List.mem_cons_of_mem _ (List.mem_cons_of_mem _ hw)))) H ls locs hw hS hl)
  · rename_i y x st
    cases hs
    intro hoL hoS H ls locs hw hS hl
    exact lv_ddiv hx hb hd hP (hk hoL (okc (v := vD _) trivial (fun w hw => hoS w (List.mem_cons_of_mem _ (List.mem_cons_of_mem _ hw)))) H ls locs hw hS hl)
  · rename_i op y x st
    cases hs
    intro hoL hoS H ls locs hw hS hl
    have k9 := hk hoL (okc (v := vI (Op.cmpValue (FP.dcmp x y) op).toInt) (inR_toInt _) (fun w hw => hoS w (List.mem_cons_of_mem _ (List.mem_cons_of_mem _ hw)))) H ls locs hw hS hl
    refine lv_dcmp hx hb hd ?_
    simp only [List.map_cons, tv, oi_toInt] at k9
    exact k9
  · rename_i y x st
    cases hs
    intro hoL hoS H ls locs hw hS hl
    have k9 := hk hoL (okc (v := vI (andv x y)) (inR_toInt _) (fun w hw => hoS w (List.mem_cons_of_mem _ (List.mem_cons_of_mem _ hw)))) H ls locs hw hS hl
    refine lv_iand hx hb hd ?_
    simp only [List.map_cons, tv, andv, oi_toInt] at k9
    exact k9
  · rename_i y x st
    cases hs
    intro hoL hoS H ls locs hw hS hl
    have k9 := hk hoL (okc (v := vI (shrv x y)) (inR_toInt _) (fun w hw => hoS w (List.mem_cons_of_mem _ (List.mem_cons_of_mem _ hw)))) H ls locs hw hS hl
    refine lv_ishr hx hb hd ?_
    simp only [List.map_cons, tv, shrv, oi_toInt] at k9
    exact k9
  · rename_i y x st
    cases hs
    intro hoL hoS H ls locs hw hS hl
    have hy0 : inR y := hoS (vI y) List.mem_cons_self
    have k9 := hk hoL (okc (v := vI (remv x y)) (inR_toInt _) (fun w hw => hoS w (List.mem_cons_of_mem _ (List.mem_cons_of_mem _ hw)))) H ls locs hw hS hl
    refine lv_irem hx hb hd (fun z => hP ((oi_eq hy0 (by unfold inR; omega)).mp z)) ?_
    simp only [List.map_cons, tv, remv, oi_toInt] at k9
    exact k9
  · cases hs
theorem run_ok (hX : CX own cc nL ret p s m args meth c D cI cS ad A) (hf : flok own fl) : ∀ (is : List Instr) (pc : Nat) (L L' : ML) (st st' : List MV) (h h' : MH) (P : Prop), sits cc pc is = true → mrun fl nL is L st h = some ((L', st', h'), P) → P →
    WM p l e R s m args below meth c cells slots Q D cI cS ad A nL (pc + plen is) L' st' h' → WM p l e R s m args below meth c cells slots Q D cI cS ad A nL pc L st h := by
  intro is
  induction is with
  | nil =>
    intro pc L L' st st' h h' P hs hr hP hk
    cases hr
    exact hk
  | cons I is ih =>
    intro pc L L' st st' h h' P hs hr hP hk
    simp only [sits, Bool.and_eq_true, decide_eq_true_eq] at hs
    unfold mrun at hr
    split at hr
    · cases hr
    · rename_i L1 st1 h1 P1 he
      split at hr
      · cases hr
      · rename_i c9 P2 he2
        cases hr
        refine step_ok hX hf hs.1 he hP.1 ?_
        refine ih _ _ _ _ _ _ _ _ hs.2 he2 hP.2 ?_
        rw [show pc + ilen I + plen is = pc + plen (I :: is) by simp only [plen]; omega]
        exact hk
end STEP

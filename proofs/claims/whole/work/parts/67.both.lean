/-! ===== both objects side by side: what holds before and behind each call ===== -/
def LINV (h : MH) : Prop := ∃ (pad : List Int) (g : SG) (hist : List SG) (sv : Option SG), CR h pad g hist sv ∧ MRR h pad g hist sv ∧ OKg g ∧ OKh hist ∧ OKp pad ∧ ∀ q, sv = some q → OKg q
def BOTH (X M : MH → Option (Int × MH)) (h : MH) : Prop := ∃ r h' h'', X h = some (r, h') ∧ M h' = some (r, h'') ∧ LINV h''
theorem MRR.hi {h h' : MH} {pad : List Int} {g : SG} {hist : List SG} {sv : Option SG} (M : MRR h pad g hist sv) (F : ∀ i, 76 ≤ i → h' i = h i) : MRR h' pad g hist sv := by
  obtain ⟨m1, m2, m3, m4, m5⟩ := M
  exact ⟨by rw [F 77 (by decide)]; exact m1, ⟨by rw [F 76 (by decide)]; exact m2.1, m2.2.1, by rw [F 78 (by decide)]; exact m2.2.2⟩, ⟨by rw [F 76 (by decide)]; exact m3.1, by rw [F 79 (by decide)]; exact m3.2⟩, ⟨by rw [F 76 (by decide)]; exact m4.1, m4.2.1, by rw [F 80 (by decide)]; exact m4.2.2⟩, by rw [F 76 (by decide)]; exact m5⟩
theorem RW.lo {h h' : MH} {o : Nat} {l : List Int} (R : RW h o l) (F : ∀ i, i < 76 → h' i = h i) (ho : o + 1 < 76) : RW h' o l := R.eqc (F o (by omega)) (F (o + 1) ho)
theorem ST.lo {h h' : MH} {s : Nat} {g : SG} (S : ST h s g) (F : ∀ i, i < 76 → h' i = h i) (hs : s + 6 < 76) : ST h' s g := by
  obtain ⟨a, b, c, d, e1, e2, e3, e4⟩ := S
  exact ⟨a, b.lo F (by omega), c.lo F (by omega), d.lo F (by omega), by rw [F s (by omega)]; exact e1, by rw [F s (by omega)]; exact e2, by rw [F s (by omega)]; exact e3, by rw [F s (by omega)]; exact e4⟩
theorem CR.lo {h h' : MH} {pad : List Int} {g : SG} {hist : List SG} {sv : Option SG} (C : CR h pad g hist sv) (F : ∀ i, i < 76 → h' i = h i) : CR h' pad g hist sv := by
  obtain ⟨c1, c2, ⟨a, b, c⟩, c4, c5⟩ := C
  refine ⟨c1.lo F (by decide), c2.lo F (by decide), ⟨by rw [F 17 (by decide)]; exact a, b, fun k q hq => ?_⟩, by rw [F 0 (by decide)]; exact c4, fun q hq => (c5 q hq).lo F (by decide)⟩
  have hk : k < hist.length := (List.getElem?_eq_some_iff.mp hq).1
  exact (c k q hq).lo F (by omega)
theorem STEP.both {X M : MH → Option (Int × MH)} {h : MH} {pad : List Int} {g : SG} {hist : List SG} {sv : Option SG} {pad' : List Int} {g' : SG} {hist' : List SG} {sv' : Option SG} (S : STEP X M h pad g hist sv pad' g' hist' sv') (hM : MRR h pad g hist sv) (o1 : OKg g') (o2 : OKh hist') (o3 : OKp pad') (o4 : ∀ q, sv' = some q → OKg q) : BOTH X M h := by
  obtain ⟨r, h', a, b, c, d⟩ := S
  obtain ⟨h'', e, f, i⟩ := d h' (hM.hi c)
  exact ⟨r, h', h'', a, e, pad', g', hist', sv', b.lo i, f, o1, o2, o3, o4⟩
section BOTHS
variable {h : MH}
theorem both_append (I : LINV h) (p1 : Int) : BOTH (fun h => some (F_X_append p1 h)) (F_M_append p1) h := by
  obtain ⟨pad, g, hist, sv, C, M, og, oh, op, os⟩ := I
  by_cases c : 33 ≤ p1 ∧ p1 ≤ 126
  · by_cases c2 : pad.length = 40
    · exact (step_append_full C c c2).both M og oh op os
    · refine (step_append C c (by have := M.2.2.2.1.2.1; omega)).both M og oh (fun x hx => ?_) os
      rcases List.mem_append.mp hx with hx | hx
      · exact op x hx
      · have : x = p1 := by simpa using hx
        subst this
        exact c
  · exact (step_append_no C c).both M og oh op os
theorem both_clear (I : LINV h) : BOTH (fun h => some (F_X_clear h)) (fun h => some (F_M_clear h)) h := by
  obtain ⟨pad, g, hist, sv, C, M, og, oh, op, os⟩ := I
  exact (step_clear C).both M og oh (fun x hx => by cases hx) os
theorem both_fault (I : LINV h) : ∃ r, F_X_fault h = some r ∧ F_M_fault h = some r := by
  obtain ⟨pad, g, hist, sv, C, M, og, oh, op, os⟩ := I
  exact sim_fault C op M
theorem both_load (I : LINV h) (p1 : Int) : BOTH (F_X_load p1) (F_M_load p1) h := by
  obtain ⟨pad, g, hist, sv, C, M, og, oh, op, os⟩ := I
  by_cases c : 0 ≤ p1 ∧ p1 ≤ 2
  · have ep : p1 = (p1.toNat : Int) := by omega
    have ht : p1.toNat ≤ 2 := by omega
    generalize p1.toNat = t at ep ht
    subst ep
    obtain ⟨r, a, b⟩ := sim_fault C op M
    by_cases c2 : r = -4
    · subst c2
      have gp := fault_none M b
      exact (step_load C og oh op gp ht a).both M (og.setT ht (sgs_ok op gp)) (hpush_ok oh og) (fun x hx => by cases hx) os
    · exact (step_load_bad C op ht a c2).both M og oh op os
  · exact (step_load_no C c).both M og oh op os
theorem both_edit (I : LINV h) (p1 p2 p3 : Int) (h3 : inR p3) : BOTH (F_X_edit p1 p2 p3) (F_M_edit p1 p2 p3) h := by
  obtain ⟨pad, g, hist, sv, C, M, og, oh, op, os⟩ := I
  rcases step_edit C og oh (p1 := p1) (p2 := p2) h3 with S | ⟨t, l, ht, ol, S⟩
  · exact S.both M og oh op os
  · exact S.both M (og.setT ht ol) (hpush_ok oh og) op os
theorem both_swap (I : LINV h) (p1 p2 : Int) : BOTH (F_X_swap p1 p2) (F_M_swap p1 p2) h := by
  obtain ⟨pad, g, hist, sv, C, M, og, oh, op, os⟩ := I
  by_cases c : (0 ≤ p1 ∧ p1 ≤ 2) ∧ (0 ≤ p2 ∧ p2 ≤ 2) ∧ p1 ≠ p2
  · obtain ⟨a, ha⟩ : ∃ a : Nat, p1 = (a : Int) := ⟨p1.toNat, by omega⟩
    obtain ⟨b, hb⟩ : ∃ b : Nat, p2 = (b : Int) := ⟨p2.toNat, by omega⟩
    subst ha; subst hb
    have ha : a ≤ 2 := by omega
    have hb : b ≤ 2 := by omega
    exact (step_swap C og oh ha hb (by omega)).both M ((og.setT ha (og.getT hb)).setT hb (og.getT ha)) (hpush_ok oh og) op os
  · exact (step_swap_no C (by omega)).both M og oh op os
theorem both_set (I : LINV h) (p1 p2 : Int) : BOTH (F_X_set p1 p2) (F_M_set p1 p2) h := by
  obtain ⟨pad, g, hist, sv, C, M, og, oh, op, os⟩ := I
  by_cases c0 : p1 = 0 ∧ 0 ≤ p2 ∧ p2 ≤ 3
  · obtain ⟨rfl, c⟩ := c0
    exact (step_set0 C og oh c).both M ⟨og.1, og.2.1, og.2.2.1, c, og.2.2.2.2⟩ (hpush_ok oh og) op os
  · by_cases c1 : p1 = 1 ∧ 0 ≤ p2 ∧ p2 ≤ 1
    · obtain ⟨rfl, c⟩ := c1
      exact (step_set1 C og oh c).both M ⟨og.1, og.2.1, og.2.2.1, og.2.2.2.1, c⟩ (hpush_ok oh og) op os
    · exact (step_set_no C (fun z => z.elim c0 c1)).both M og oh op os
theorem both_lay (I : LINV h) (p1 : Int) : BOTH (F_X_lay p1) (F_M_lay p1) h := by
  obtain ⟨pad, g, hist, sv, C, M, og, oh, op, os⟩ := I
  rcases step_lay C og oh p1 with S | ⟨g', og', S⟩
  · exact S.both M og oh op os
  · exact S.both M og' (hpush_ok oh og) op os
theorem both_line (I : LINV h) (p1 p2 : Int) : F_M_line p1 p2 h = some (F_X_line p1 p2 h) := by
  obtain ⟨pad, g, hist, sv, C, M, og, oh, op, os⟩ := I
  exact sim_line C og p1 p2 h M
theorem both_sim {X M : MH → Option (Int × MH)} (I : LINV h) (S : ∀ pad g hist sv, CR h pad g hist sv → OKg g → SIM X M h pad g hist sv) : BOTH X M h := by
  obtain ⟨pad, g, hist, sv, C, Mr, og, oh, op, os⟩ := I
  exact ((S pad g hist sv C og).step C).both Mr og oh op os
theorem both_distance (I : LINV h) (p1 : Int) : BOTH (F_X_distance p1) (F_M_distance p1) h := both_sim I (fun _ _ _ _ C og => sim_distance C og p1)
theorem both_view (I : LINV h) (p1 p2 : Int) : BOTH (F_X_view p1 p2) (F_M_view p1 p2) h := both_sim I (fun _ _ _ _ C og => sim_view C og p1 p2)
theorem both_hunk (I : LINV h) (p1 p2 : Int) : BOTH (F_X_hunk p1 p2) (F_M_hunk p1 p2) h := both_sim I (fun _ _ _ _ C og => sim_hunk C og p1 p2)
theorem both_whyNot (I : LINV h) (p1 p2 : Int) : BOTH (F_X_whyNot p1 p2) (F_M_whyNot p1 p2) h := both_sim I (fun _ _ _ _ C og => sim_whyNot C og p1 p2)
theorem both_count (I : LINV h) (p1 : Int) : BOTH (F_X_count p1) (F_M_count p1) h := both_sim I (fun _ _ _ _ C og => sim_count C og p1)
theorem both_ifLaid (I : LINV h) (p1 p2 p3 : Int) : BOTH (F_X_ifLaid p1 p2 p3) (F_M_ifLaid p1 p2 p3) h := both_sim I (fun _ _ _ _ C og => sim_ifLaid C og p1 p2 p3)
theorem both_ifAround (I : LINV h) (p1 : Int) : BOTH (F_X_ifAround p1) (F_M_ifAround p1) h := both_sim I (fun _ _ _ _ C og => sim_ifAround C og p1)
theorem both_least (I : LINV h) : BOTH F_X_least F_M_least h := both_sim I (fun _ _ _ _ C og => sim_least C og)
theorem both_alike (I : LINV h) : ∃ r h' h'', F_X_alike h = some (r, h') ∧ F_M_alike h' = some (r, h'') ∧ FP.dcmp r r = some .eq ∧ LINV h'' := by
  obtain ⟨pad, g, hist, sv, C, M, og, oh, op, os⟩ := I
  obtain ⟨r, h', a, b, c, d⟩ := sim_alike C og
  obtain ⟨h'', e, f⟩ := d h' (M.hi (SCR_hi b))
  exact ⟨r, h', h'', a, e, c, pad, g, hist, sv, (C.fr b (by decide)).lo f.lo, f.mrr (M.hi (SCR_hi b)), og, oh, op, os⟩
theorem both_undo (I : LINV h) : BOTH F_X_undo F_M_undo h := by
  obtain ⟨pad, g, hist, sv, C, M, og, oh, op, os⟩ := I
  by_cases c : hist = []
  · subst c
    exact (step_undo_none C).both M og oh op os
  · obtain ⟨a, x, rfl⟩ := snoc_of c
    have ox : OKg x := oh x (by simp)
    exact (step_undo C ox).both M ox (fun q hq => oh q (by simp [hq])) op os
theorem both_save (I : LINV h) : BOTH F_X_save F_M_save h := by
  obtain ⟨pad, g, hist, sv, C, M, og, oh, op, os⟩ := I
  exact (step_save C og).both M og oh op (fun q hq => by cases hq; exact og)
theorem both_restore (I : LINV h) : BOTH F_X_restore F_M_restore h := by
  obtain ⟨pad, g, hist, sv, C, M, og, oh, op, os⟩ := I
  cases sv with
  | none => exact (step_restore_none C).both M og oh op os
  | some x => exact (step_restore C og (os x rfl) oh).both M (os x rfl) (hpush_ok oh og) op os
end BOTHS
/-! ===== the memory behind both constructors ===== -/
def HZ : MH := ini 76 87 (ini 0 76 (fun _ _ => 0))
theorem HZ_at {a : Nat} (ha : a < 87) : HZ a = H0 a := by
  unfold HZ ini
  by_cases c : a < 76
  · rw [if_pos c, if_neg (by omega), if_pos c]
  · rw [if_neg c, if_pos ha]
def g00 : SG := ([], [], [], 1, 0, 0, 0)
theorem okh0 : OKh [] := fun q hq => by cases hq
theorem okp0 : OKp [] := fun q hq => by cases hq
theorem okg0 : OKg g00 := by
  have z : OKt [] := ⟨by decide, fun x hx => by cases hx⟩
  exact ⟨z, z, z, by decide, by decide⟩
theorem LINV_0 : LINV HZ := by
  have rw0 : ∀ o, kd o = 5 → HZ o 1 = 0 → RW HZ o [] := fun o ho h1 => ⟨ho, h1, Nat.zero_le _, fun p hp => absurd hp (Nat.not_lt_zero _)⟩
  refine ⟨[], g00, [], none, ⟨rw0 1 rfl (by decide), ⟨rfl, rw0 4 rfl (by decide), rw0 6 rfl (by decide), rw0 8 rfl (by decide), by decide, by decide, by decide, by decide⟩, ⟨by decide, by decide, fun k q hq => by cases hq⟩, by decide, fun q hq => by cases hq⟩,
    ⟨⟨⟨by decide, fun p hp => absurd hp (Nat.not_lt_zero _)⟩, ⟨by decide, fun p hp => absurd hp (Nat.not_lt_zero _)⟩, ⟨by decide, fun p hp => absurd hp (Nat.not_lt_zero _)⟩, by decide, by decide, by decide, by decide⟩, ⟨by decide, by decide, fun k q hq => by cases hq⟩, ⟨by decide, fun q hq => by cases hq⟩, ⟨by decide, by decide, fun p hp => absurd hp (Nat.not_lt_zero _)⟩, by decide⟩, okg0, okh0, okp0, fun q hq => by cases hq⟩
theorem arrV_congr {cA : ClassId} {N : Nat} {f g : Nat → Value} (h : ∀ j, j < N → f j = g j) : arrV cA N f = arrV cA N g := by
  have e : (Array.ofFn (n := N) fun j => f j.val) = (Array.ofFn (n := N) fun j => g j.val) := by
    congr 1
    funext j
    exact h j.val j.isLt
  show ({ cls := cA, slots := Array.ofFn (n := N) fun j => f j.val, vm := .none } : Cell) = { cls := cA, slots := Array.ofFn (n := N) fun j => g j.val, vm := .none }
  rw [e]
/-- the whole world stands -/
theorem wld_all {D : va_G} {cI cS : ClassId} {ad : Nat → Nat} {base : Nat} {H : Heap} (hw : wldP D cI cS ad base 87 HZ H) : wld D cI cS ad (inB base) HZ H := by
  obtain ⟨hP, hD, hr, hsz, had⟩ := hw
  have hlen : (wsOf cI cS ad HZ).length = 87 := by simp [wsOf, NC]
  refine ⟨fun k q hq => ?_, ⟨fun i j x y hi hj hxy => ?_, fun k q hq => ?_⟩, hr⟩
  · have hk : k < 87 := by rw [← hlen]; exact (List.getElem?_eq_some_iff.mp hq).1
    rw [wsOf_at (by exact hk)] at hq
    cases hq
    have h1 := hP k _ (wsP_at hk)
    rcases (show kd k = 0 ∨ kd k = 1 ∨ 2 ≤ kd k by omega) with c | c | c
    · rw [cellP_i c] at h1
      rw [cellE_i c]
      exact h1
    · rw [cellP_s c] at h1
      rw [cellE_s c]
      have h1 : H[ad k]? = some (vp_cell cS (al k, .inr (.inr (.inr (.inr (fun j => if HZ k j = 0 then none else some (ad (rf k j)))))))) := h1
      show H[ad k]? = some (vp_cell cS (al k, .inr (.inr (.inr (.inr (fun j => some (ad (rf k j)))))))) 
      rw [h1, vp_cell_q, vp_cell_q]
      congr 1
      refine arrV_congr (fun j hj => ?_)
      have ek : k = 18 := by
        have key : (List.range NC).all (fun i => !(kd i == 1) || i == 18) = true := by decide +kernel
        have k2 := List.all_eq_true.mp key k (List.mem_range.mpr hk)
        simp [c] at k2
        exact k2
      subst ek
      have hj4 : j < 4 := hj
      have e1 : HZ 18 j = 1 := by rw [HZ_at (by decide), H0_18, if_pos hj4]
      show va_rf (if HZ 18 j = 0 then none else some (ad (rf 18 j))) = va_rf (some (ad (rf 18 j)))
      rw [e1, if_neg (by decide)]
    · obtain ⟨ci, hci⟩ : ∃ ci, kd k = ci + 2 := ⟨kd k - 2, by omega⟩
      rw [cellP_o hci] at h1
      rw [cellE_o hci]
      have e : (List.range (fn ci)).map (elP ad HZ ci k) = (List.range (fn ci)).map (fun j => if fc ci j = 2 then Value.ref (ad (rf k j)) else .int (Int32.ofInt (HZ k j))) := by
        apply List.map_congr_left
        intro j hj
        unfold elP
        by_cases q : fc ci j = 2
        · have e1 : HZ k j = 1 := by
            rw [HZ_at hk]
            unfold H0
            rw [if_pos ⟨c, by rw [hci, show ci + 2 - 2 = ci by omega]; exact q⟩]
          rw [if_pos q, if_pos q, e1, if_neg (by decide)]
        · rw [if_neg q, if_neg q]
      rw [← e]
      exact h1
  · have hi2 : i < 87 := by rw [← hlen]; exact (List.getElem?_eq_some_iff.mp hi).1
    have hj2 : j < 87 := by rw [← hlen]; exact (List.getElem?_eq_some_iff.mp hj).1
    rw [wsOf_at (by exact hi2)] at hi
    rw [wsOf_at (by exact hj2)] at hj
    cases hi; cases hj
    exact hD.1 i j _ _ (wsP_at hi2) (wsP_at hj2) hxy
  · have hk : k < 87 := by rw [← hlen]; exact (List.getElem?_eq_some_iff.mp hq).1
    rw [wsOf_at (by exact hk)] at hq
    cases hq
    exact hD.2 k (ad k, cellP cI cS ad HZ k) (wsP_at hk)

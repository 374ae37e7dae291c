/-! ===== what would be laid ===== -/
theorem X_lay_all {h h1 : MH} {pad : List Int} {g : SG} {hist : List SG} {sv : Option SG} (C : CR h pad g hist sv) (og : OKg g) {H : HL} (V : VC h1 (shw g H).1 (vss g.1 g.2.1) (shw g H).2) (hk : KOK (shw g H).1) (hs0 : HSP (vks g.1 g.2.1) H) (w1 : FR SCR h h1) (most : Nat) (dn : Int) :
    ∃ h', F_La_layAll (F_St_text 3 2) (most : Int) dn h1 = some h' ∧ LM h' (lay (shw g H).1 (vss g.1 g.2.1) (shw g H).2 most dn g.2.2.1) ∧ LI (shw g H).1 (shw g H).2 dn g.2.2.1.length (shw g H).2.length (lay (shw g H).1 (vss g.1 g.2.1) (shw g H).2 most dn g.2.2.1) ∧ FR LR h1 h' := by
  have sf := shw_facts og hs0
  rw [show F_St_text 3 2 = 8 by decide]
  exact La_layAll V hk (C.2.1.2.2.2.1.fr w1 (by decide) (by decide)) (by decide) og.2.2.1.1 most dn (sf.2.2.2.2 (sR dn) (sRA dn).1)
theorem M_lay_all {hm : MH} {pad : List Int} {g : SG} {hist : List SG} {sv : Option SG} (og : OKg g) {H : HL} (hs0 : HSP (vks g.1 g.2.1) H) (mr : MRR hm pad g hist sv) (V2 : MV2 hm (shw g H).1 (vss g.1 g.2.1)) (most : Nat) (dn : Int) :
    ∃ h', F_M_lays dn (most : Int) hm = some ((lay (shw g H).1 (vss g.1 g.2.1) (shw g H).2 most dn g.2.2.1).2.2.2.1, h') ∧ LMM h' (lay (shw g H).1 (vss g.1 g.2.1) (shw g H).2 most dn g.2.2.1) ∧ FZ hm h' := by
  have sf := shw_facts og hs0
  obtain ⟨h', a, b, c⟩ := M_lays og mr.1 V2 sf.2.1 sf.1 most dn (sf.2.2.2.2 (sR dn) (sRA dn).1)
  exact ⟨h', a, b, c.z⟩
theorem sim_ifAround {h : MH} {pad : List Int} {g : SG} {hist : List SG} {sv : Option SG} (C : CR h pad g hist sv) (og : OKg g) (p1 : Int) : SIM (F_X_ifAround p1) (F_M_ifAround p1) h pad g hist sv := by
  by_cases c : 0 ≤ p1 ∧ p1 ≤ 3
  · obtain ⟨h1, H, f1, hs0, V, hk, w1⟩ := X_show C og
    have ep : p1 = (p1.toNat : Int) := by omega
    have c1 : ¬ p1 < 0 := by omega
    generalize p1.toNat = most at ep
    obtain ⟨h2, f2, M2, I2, w2⟩ := X_lay_all C og V hk hs0 w1 most 0
    rw [← ep] at f2
    refine ⟨(lay (shw g H).1 (vss g.1 g.2.1) (shw g H).2 most 0 g.2.2.1).2.2.2.1, h2, ?_, w1.tr (w2.mono (by decide)), fun hm hh => ?_⟩
    · unfold F_X_ifAround
      rw [if_neg c1, if_pos c.2, f1, ob1_s, f2, ob1_s]
      exact congrArg (fun z => some (z, h2)) M2.2.2.2.1
    · obtain ⟨hm', g2, V2, a, mr⟩ := count_main og (pad := pad) (hist := hist) (sv := sv) hs0 hm hh
      obtain ⟨hm2, g3, L3, w3⟩ := M_lay_all og hs0 mr V2 most 0
      rw [← ep] at g3
      refine ⟨hm2, ?_, a.tr w3⟩
      unfold F_M_ifAround
      rw [M_in_1 c, if_neg (show ¬ (1 : Int) = 0 by decide), g2, ob1_s, g3, ob2_s]
  · refine sim_flat (-1) ?_ (fun hm _ => by unfold F_M_ifAround; rw [M_in_0 c, if_pos rfl])
    unfold F_X_ifAround
    by_cases c3 : p1 < 0
    · rw [if_pos c3]
    · rw [if_neg c3, if_neg (by omega)]
theorem sim_ifLaid {h : MH} {pad : List Int} {g : SG} {hist : List SG} {sv : Option SG} (C : CR h pad g hist sv) (og : OKg g) (p1 p2 p3 : Int) : SIM (F_X_ifLaid p1 p2 p3) (F_M_ifLaid p1 p2 p3) h pad g hist sv := by
  obtain ⟨h1, H, f1, hs0, V, hk, w1⟩ := X_show C og
  have hs := V.2.2.2.2.2.1
  have h28 := V.2.2.2.2.2.2.2
  have h14 := hs.len14 h28
  have main := count_main og (pad := pad) (hist := hist) (sv := sv) hs0
  have most : g.2.2.2.1 = ((g.2.2.2.1).toNat : Int) := by have := og.2.2.2.1; omega
  have set0 : F_St_setting 3 0 h1 = ((g.2.2.2.1).toNat : Int) := by
    rw [← most]
    unfold F_St_setting
    rw [if_pos rfl, w1 3 (by decide)]; exact C.2.1.2.2.2.2.1
  have el : wr (((shw g H).2.length : Int) - 1) = ((shw g H).2.length : Int) - 1 := wr_id (by omega)
  by_cases c3 : p3 = 0 ∨ p3 = 1
  · have hX : F_X_ifLaid p1 p2 p3 h = (if F_V_has p1 h1 = 0 then (some ((-1), h1)) else (ob1 (F_La_layAll (F_St_text 3 2) (F_St_setting 3 0 h1) p2 h1) (fun (h6 : MH) => if F_La_placeOf p1 h6 = (-4) then (some ((-4), h6)) else (if p3 = 0 then (some (F_La_placeOf p1 h6, h6)) else (some (wr ((F_La_lowerOf p1 h6) + 100), h6)))))) := by
      unfold F_X_ifLaid
      rw [jk1_p]
      rcases c3 with e | e
      · rw [if_pos e, f1, ob1_s]
      · rw [if_neg (by omega), if_pos e, f1, ob1_s]
    by_cases c : 0 ≤ p1 ∧ p1 < ((shw g H).2.length : Int)
    · have ep : p1 = (p1.toNat : Int) := by omega
      have c' : 0 ≤ p1 ∧ p1 ≤ ((shw g H).2.length : Int) - 1 := by omega
      have gk : 0 ≤ p1 ∧ p1 < 28 := by omega
      have c3' : 0 ≤ p3 ∧ p3 ≤ 1 := by omega
      obtain ⟨h2, f2, M2, I2, w2⟩ := X_lay_all C og V hk hs0 w1 (g.2.2.2.1).toNat p2
      generalize hS : lay (shw g H).1 (vss g.1 g.2.1) (shw g H).2 (g.2.2.2.1).toNat p2 g.2.2.1 = S at *
      have W : FR SCR h h2 := w1.tr (w2.mono (by decide))
      have l1 : S.2.1.length = (shw g H).2.length := I2.2.1
      have l2 : S.2.2.1.length = (shw g H).2.length := I2.2.2.1
      have pe : F_La_placeOf p1 h2 = S.2.1.getD p1.toNat (-1) := by unfold F_La_placeOf; rw [M2.2.1.at, lg_in c.1]
      have le : F_La_lowerOf p1 h2 = S.2.2.1.getD p1.toNat (-1) := by unfold F_La_lowerOf; rw [M2.2.2.1.at, lg_in c.1]
      have hM : ∀ hm, MRR hm pad g hist sv → ∃ hm', F_M_ifLaid p1 p2 p3 hm = (if S.2.1.getD p1.toNat (-1) = (-4) then (some ((-4), hm')) else (if p3 = 0 then (some (S.2.1.getD p1.toNat (-1), hm')) else (some (wr (S.2.2.1.getD p1.toNat (-1) + 100), hm')))) ∧ FZ hm hm' := fun hm hh => by
        obtain ⟨hm', g2, V2, a, mr⟩ := main hm hh
        obtain ⟨hm2, g3, L3, w3⟩ := M_lay_all og hs0 mr V2 (g.2.2.2.1).toNat p2
        rw [hS] at g3 L3
        refine ⟨hm2, ?_, a.tr w3⟩
        unfold F_M_ifLaid
        rw [g2, ob1_s, M_hunks V2 hk hs, ob1_s, el, M_in_1 c', if_neg (show ¬ (1 : Int) = 0 by decide), M_in_1 c3', if_neg (show ¬ (1 : Int) = 0 by decide), mr.1.2.2.2.1.trans most, g3, ob2_s, gd_pos gk, gd_pos gk, gd_pos gk, L3.2.1 p1.toNat (by omega), L3.2.2.1 p1.toNat (by omega)]
      rw [V_has V, if_pos c, if_neg (show ¬ (1 : Int) = 0 by decide), set0, f2, ob1_s, pe, le] at hX
      unfold SIM
      rw [hX]
      by_cases d1 : S.2.1.getD p1.toNat (-1) = -4
      · rw [if_pos d1]
        exact ⟨_, h2, rfl, W, fun hm hh => by obtain ⟨hm', a, b⟩ := hM hm hh; rw [if_pos d1] at a; exact ⟨hm', a, b⟩⟩
      · rw [if_neg d1]
        by_cases d2 : p3 = 0
        · rw [if_pos d2]
          exact ⟨_, h2, rfl, W, fun hm hh => by obtain ⟨hm', a, b⟩ := hM hm hh; rw [if_neg d1, if_pos d2] at a; exact ⟨hm', a, b⟩⟩
        · rw [if_neg d2]
          exact ⟨_, h2, rfl, W, fun hm hh => by obtain ⟨hm', a, b⟩ := hM hm hh; rw [if_neg d1, if_neg d2] at a; exact ⟨hm', a, b⟩⟩
    · rw [V_has V, if_neg c, if_pos rfl] at hX
      refine ⟨_, h1, hX, w1, fun hm hh => ?_⟩
      obtain ⟨hm', g2, V2, a, mr⟩ := main hm hh
      refine ⟨hm', ?_, a⟩
      unfold F_M_ifLaid
      rw [g2, ob1_s, M_hunks V2 hk hs, ob1_s, el, M_in_0 (by omega), if_pos rfl]
  · refine ⟨-1, h, ?_, FR.rf _ _, fun hm hh => ?_⟩
    · unfold F_X_ifLaid
      rw [jk1_p, if_neg (fun z => c3 (Or.inl z)), if_neg (fun z => c3 (Or.inr z))]
    · obtain ⟨hm', g2, V2, a, mr⟩ := main hm hh
      refine ⟨hm', ?_, a⟩
      unfold F_M_ifLaid
      rw [g2, ob1_s, M_hunks V2 hk hs, ob1_s]
      split
      · rfl
      · rw [M_in_0 (by omega), if_pos rfl]

/-! ===== the law's isLeast ===== -/
def hcut (hist : List SG) : List SG := if hist.length < 4 then hist else hist.tail
theorem hpush_eq (hist : List SG) (g : SG) : hpush hist g = hcut hist ++ [g] := rfl
section LEAST
variable {h : MH} {g : SG} {hist : List SG} {sv : Option SG}
theorem isL_loop (og : OKg g) : ∀ (m fuel p : Nat) (b d x2 : Int) (hist : List SG) (h : MH), p + m = g.1.length → m < fuel → INV h g hist sv →
    TO (F_L_isLeast_L36 (g.1.length : Int) x2 fuel b d (p : Int) h) (fun h' => Sum.inr ((lbs g.1 g.2.1 m p b d).1, (lbs g.1 g.2.1 m p b d).2, (g.1.length : Int), h')) (fun h' => ∃ hist', INV h' g hist' sv) := by
  have l1 := og.1.1
  have l2 := og.2.1.1
  intro m
  induction m with
  | zero =>
    intro fuel p b d x2 hist h hp hf I
    obtain ⟨fuel, rfl⟩ : ∃ n, fuel = n + 1 := ⟨fuel - 1, by omega⟩
    have e : p = g.1.length := by omega
    rw [F_L_isLeast_L36, if_neg (by omega), lbs, e]
    exact ⟨h, rfl, hist, I⟩
  | succ m ih =>
    intro fuel p b d x2 hist h hp hf I
    obtain ⟨fuel, rfl⟩ : ∃ n, fuel = n + 1 := ⟨fuel - 1, by omega⟩
    have pm : p + 1 + m = g.1.length ∧ m < fuel ∧ p < g.1.length ∧ p + 1 ≤ 1000 := by omega
    have f1 : (p : Int) < 14 := by omega
    have f2 : ¬ (((hcut hist).length : Nat) : Int) < 0 := by omega
    rw [F_L_isLeast_L36, if_pos (lt_int pm.2.2.1), if_pos f1]
    refine (q_out I (t := 0) (by decide) (i := p) pm.2.2.1).go (fun h1 I1 => ?_)
    refine (q_dist0 I1).go (fun h2 I2 => ?_)
    have e0 : wr ((g.1.length : Int) - 1) = (g.1.length : Int) - 1 := wr_s (n := 100) rfl (by omega) (by omega) (by decide)
    have e1 : ((getT g 0).length : Int) - 1 = wr ((g.1.length : Int) - 1) := e0.symm
    have e2 : dst (setT g 0 (del (getT g 0) p)).1 (setT g 0 (del (getT g 0) p)).2.1 = dst (del g.1 p) g.2.1 := rfl
    rw [jn1_q, jn1_q, if_pos e1, e2]
    rw [hpush_eq] at I2
    refine (q_undo I2).go (fun h3 I3 => ?_)
    rw [if_neg f2, wr_p1 pm.2.2.2, lbs]
    by_cases c : dst (del g.1 p) g.2.1 < d
    · rw [if_pos c, if_pos c, if_pos c]
      exact ih fuel (p + 1) _ _ _ (hcut hist) h3 pm.1 pm.2.1 I3
    · rw [if_neg c, if_neg c, if_neg c]
      exact ih fuel (p + 1) _ _ _ (hcut hist) h3 pm.1 pm.2.1 I3
theorem lbs_first {l1 l2 : List Int} (h1 : l1.length ≤ 14) (h2 : l2.length ≤ 14) (h0 : l1.length ≠ 0) : lbs l1 l2 l1.length 0 0 29 = lbs l1 l2 l1.length 0 (-1) 99 := by
  obtain ⟨m, hm⟩ : ∃ m, l1.length = m + 1 := ⟨l1.length - 1, by omega⟩
  have b := del_bd (l1 := l1) (l2 := l2) (i := 0) (by omega) h1 h2
  rw [hm, lbs, lbs, if_pos (by omega), if_pos (by omega)]
theorem L_isLeast (I : INV h g hist sv) : TO (F_L_isLeast h) (fun h' => ((1 : Int), h')) (fun h' => ∃ hist', INV h' g hist' sv) := by
  have og := I.og
  have l1 := og.1.1
  have l2 := og.2.1.1
  unfold F_L_isLeast
  refine (q_c0 I).go (fun h1 I1 => ?_)
  by_cases c : g.1.length = 0
  · refine (q_least0 I1 c).go (fun h2 I2 => ?_)
    rw [if_pos (by omega), if_pos rfl]
    exact TO.done (f := fun h' => ((1 : Int), h')) ⟨hist, I2⟩
  · refine (q_least I1 c).go (fun h2 I2 => ?_)
    obtain ⟨h3, e3, hist3, I3⟩ := isL_loop og g.1.length FUEL 0 (-1) 99 (lbs g.1 g.2.1 g.1.length 0 0 29).1 hist h2 (by omega) (by rw [FUEL_eq]; omega) I2
    have e3' : F_L_isLeast_L36 (g.1.length : Int) (lbs g.1 g.2.1 g.1.length 0 0 29).1 FUEL (-1) 99 0 h2 = some (Sum.inr ((lbs g.1 g.2.1 g.1.length 0 (-1) 99).1, (lbs g.1 g.2.1 g.1.length 0 (-1) 99).2, (g.1.length : Int), h3)) := e3
    rw [if_neg (by omega), e3', os_r]
    dsimp only
    rw [if_pos (congrArg Prod.fst (lbs_first l1 l2 c))]
    refine (q_c0 I3).go (fun h4 I4 => ?_)
    rw [if_pos rfl]
    exact TO.done (f := fun h' => ((1 : Int), h')) ⟨hist3, I4⟩
end LEAST

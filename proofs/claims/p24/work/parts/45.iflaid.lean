/-! ===== what would be laid ===== -/
theorem X_lay_all {h h1 : MH} {pad : List Int} {g : SG} {hist : List SG} {sv : Option SG} (C : CR h pad g hist sv) (og : OKg g) {H : HL} (V : VC h1 (shw g H).1 (vss g.1 g.2.1) (shw g H).2) (hk : KOK (shw g H).1) (hs0 : HSP (vks g.1 g.2.1) H) (w1 : FR SCR h h1) (most : Nat) (dn : Int) :
    ∃ h', F_La_layAll (F_St_text 3 2) (most : Int) dn h1 = some h' ∧ LM h' (lay (shw g H).1 (vss g.1 g.2.1) (shw g H).2 most dn g.2.2.1) ∧ LI (shw g H).1 (shw g H).2 dn g.2.2.1.length (shw g H).2.length (lay (shw g H).1 (vss g.1 g.2.1) (shw g H).2 most dn g.2.2.1) ∧ FR LR h1 h' := by
  have sf := shw_facts og hs0
  rw [show F_St_text 3 2 = 8 by decide]
  exact La_layAll V hk (C.2.1.2.2.2.1.fr w1 (by decide) (by decide)) (by decide) og.2.2.1.1 most dn (sf.2.2.2.2 (sR dn) (sRA dn).1)

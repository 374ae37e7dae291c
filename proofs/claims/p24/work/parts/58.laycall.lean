/-! ===== to lay ===== -/
theorem pt_mem {ks ss : List Int} {k : Int} {a : Nat} : ∀ (n : Nat), a + n ≤ ss.length → ∀ x ∈ pt ks ss k a n, x ∈ ss := by
  intro n
  induction n with
  | zero => intro _ x hx; cases hx
  | succ n ih =>
    intro h x hx
    rw [pt] at hx
    rcases List.mem_append.mp hx with hx | hx
    · exact ih (by omega) x hx
    · by_cases c : ks.getD (a + n) (-1) = k
      · rw [if_pos c] at hx; cases hx
      · rw [if_neg c] at hx
        have e : x = ss.getD (a + n) (-1) := by simpa using hx
        have hl : a + n < ss.length := by omega
        rw [e, List.getD_eq_getElem?_getD, List.getElem?_eq_getElem hl]
        exact List.getElem_mem hl
def GS (S : LayS) : Prop := (∀ x ∈ S.1, 0 ≤ x ∧ x ≤ 8) ∧ (S.1.length : Int) ≤ imax 14 S.2.2.2.2.1
theorem GS_lst {ks ss : List Int} {H : HL} (hs : HSP ks H) (hk : KOK ks) (hl : ks.length = ss.length) (hss : ∀ x ∈ ss, 0 ≤ x ∧ x ≤ 8) {most : Nat} {dn : Int} {k : Nat} {S : LayS} (G : GS S) : GS (lst ks ss H most dn k S) := by
  unfold lst
  cases hq : H[k]? with
  | none => exact G
  | some q =>
    dsimp only
    by_cases c : fP ks ss H most dn k q S = -4
    · rw [if_pos c]
      exact G
    · rw [if_neg c]
      have pf := part_facts (ss := ss) hs hk hq most (sA dn) (sRA dn).2
      have hm := List.mem_of_getElem? hq
      have a1 := hs.1.2 q hm
      refine ⟨fun x hx => ?_, ?_⟩
      · have hx : x ∈ rp S.1 (fP ks ss H most dn k q S).toNat (oP ks ss H most dn k q).length (iP ks ss H most dn k q) := hx
        unfold rp at hx
        rcases List.mem_append.mp hx with hx | hx
        · exact G.1 x (List.mem_of_mem_take hx)
        · rcases List.mem_append.mp hx with hx | hx
          · unfold iP at hx
            exact hss x (pt_mem _ (by omega) x hx)
          · exact G.1 x (List.mem_of_mem_drop hx)
      · show ((rp S.1 (fP ks ss H most dn k q S).toNat (oP ks ss H most dn k q).length (iP ks ss H most dn k q)).length : Int) ≤ imax 14 (imax S.2.2.2.2.1 ((rp S.1 (fP ks ss H most dn k q S).toNat (oP ks ss H most dn k q).length (iP ks ss H most dn k q)).length : Int))
        have x1 := imax_le2 14 (imax S.2.2.2.2.1 ((rp S.1 (fP ks ss H most dn k q S).toNat (oP ks ss H most dn k q).length (iP ks ss H most dn k q)).length : Int))
        have x2 := imax_le2 S.2.2.2.2.1 ((rp S.1 (fP ks ss H most dn k q S).toNat (oP ks ss H most dn k q).length (iP ks ss H most dn k q)).length : Int)
        exact Int.le_trans x2 x1
theorem GS_lsn {ks ss : List Int} {H : HL} (hs : HSP ks H) (hk : KOK ks) (hl : ks.length = ss.length) (hss : ∀ x ∈ ss, 0 ≤ x ∧ x ≤ 8) {most : Nat} {dn : Int} : ∀ (n k : Nat) (S : LayS), GS S → GS (lsn ks ss H most dn n k S) := by
  intro n
  induction n with
  | zero => intro k S G; exact G
  | succ n ih =>
    intro k S G
    rw [lsn]
    exact ih (k + 1) _ (GS_lst hs hk hl hss G)
theorem LR_lo : ∀ x ∈ LR, x < 76 := by decide
/-- the state behind a laying -/
def layG (g : SG) (S : LayS) (n : Int) : SG := (g.1, g.2.1, S.1, g.2.2.2.1, g.2.2.2.2.1, wr (g.2.2.2.2.2.1 + S.2.2.2.1), wr (g.2.2.2.2.2.2 + wr (n - S.2.2.2.1)))

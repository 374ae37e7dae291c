/-! ===== the line without which the distance is least ===== -/
def lbs (l1 l2 : List Int) : Nat → Nat → Int → Int → Int × Int
  | 0, _, b, d => (b, d)
  | r + 1, i, b, d => if dst (del l1 i) l2 < d then lbs l1 l2 r (i + 1) (i : Int) (dst (del l1 i) l2) else lbs l1 l2 r (i + 1) b d
theorem dst_bd {l1 l2 : List Int} (h1 : l1.length ≤ 14) (h2 : l2.length ≤ 14) : 0 ≤ dst l1 l2 ∧ dst l1 l2 ≤ 28 := by
  have b := kp_b l1 l2 0 0
  unfold dst
  omega
theorem del_bd {l1 l2 : List Int} {i : Nat} (hi : i < l1.length) (h1 : l1.length ≤ 14) (h2 : l2.length ≤ 14) : 0 ≤ dst (del l1 i) l2 ∧ dst (del l1 i) l2 ≤ 28 := dst_bd (by rw [del_len hi]; omega) h2
theorem X_least_step {l1 l2 : List Int} (h1 : l1.length ≤ 14) (h2 : l2.length ≤ 14) {i : Nat} (hi : i < l1.length) {n : Nat} {b d : Int} {h : MH} (R1 : RW h 4 l1) (R2 : RW h 6 l2) :
    ∃ h', F_X_least_L27 4 (n + 1) b d (i : Int) h = (if dst (del l1 i) l2 < d then F_X_least_L27 4 n (i : Int) (dst (del l1 i) l2) ((i + 1 : Nat) : Int) h' else F_X_least_L27 4 n b d ((i + 1 : Nat) : Int) h') ∧ RW h' 4 l1 ∧ RW h' 6 l2 ∧ FR [47, 48, 50, 51] h h' := by
  obtain ⟨ha, f1, r1, w1⟩ := Ro_become (o := 47) (p := 4) rfl R1 (by decide) (by show _ ≤ 14; exact h1)
  obtain ⟨hb, f2, r2, w2⟩ := Ro_putOut r1 (i := (i : Int)) (by omega) (by omega)
  rw [nn] at r2
  have W2 : FR [47, 48, 50, 51] h hb := (w1.mono (by decide)).tr (w2.mono (by decide))
  obtain ⟨hc, f3, w3⟩ := C_apart (o := 47) (p := 6) r2 (R2.fr W2 (by decide) (by decide)) (by decide) (by decide) (by rw [del_len hi]; omega) h2
  have W3 : FR [47, 48, 50, 51] h hc := W2.tr (w3.mono (by decide))
  refine ⟨hc, ?_, R1.fr W3 (by decide) (by decide), R2.fr W3 (by decide) (by decide), W3⟩
  have e1 : wr ((i : Int) + 1) = ((i + 1 : Nat) : Int) := by rw [wr_id (by omega)]; omega
  rw [F_X_least_L27, R1.size, if_pos (lt_int hi), f1, ob1_s, f2, ob1_s, show F_St_text 3 1 = 6 by decide, f3, ob2_s, e1]
  by_cases c : dst (del l1 i) l2 < d
  · rw [if_pos c, if_pos c, jn2]
  · rw [if_neg c, if_neg c, jn2]
theorem X_least_loop {l1 l2 : List Int} (h1 : l1.length ≤ 14) (h2 : l2.length ≤ 14) : ∀ (r n i : Nat) (b d : Int) (h : MH), RW h 4 l1 → RW h 6 l2 → i + r = l1.length → r < n →
    ∃ h', F_X_least_L27 4 n b d (i : Int) h = some ((lbs l1 l2 r i b d).1, (lbs l1 l2 r i b d).2, (l1.length : Int), h') ∧ FR [47, 48, 50, 51] h h' := by
  intro r
  induction r with
  | zero =>
    intro n i b d h R1 R2 hi hn
    obtain ⟨n, rfl⟩ : ∃ m, n = m + 1 := ⟨n - 1, by omega⟩
    have : i = l1.length := by omega
    subst this
    refine ⟨h, ?_, FR.rf _ _⟩
    rw [F_X_least_L27, R1.size, if_neg (by omega)]
    rfl
  | succ r ih =>
    intro n i b d h R1 R2 hi hn
    obtain ⟨n, rfl⟩ : ∃ m, n = m + 1 := ⟨n - 1, by omega⟩
    obtain ⟨hc, f, q1, q2, W⟩ := X_least_step h1 h2 (i := i) (by omega) (n := n) (b := b) (d := d) R1 R2
    rw [f, lbs]
    by_cases c : dst (del l1 i) l2 < d
    · rw [if_pos c, if_pos c]
      obtain ⟨h', a, w⟩ := ih n (i + 1) (i : Int) (dst (del l1 i) l2) hc q1 q2 (by omega) (by omega)
      exact ⟨h', a, W.tr w⟩
    · rw [if_neg c, if_neg c]
      obtain ⟨h', a, w⟩ := ih n (i + 1) b d hc q1 q2 (by omega) (by omega)
      exact ⟨h', a, W.tr w⟩
def FL (h h' : MH) : Prop := ∀ a b, a ≠ 81 → ¬ (a = 76 ∧ b = 8) → h' a b = h a b
theorem FL.tr {h1 h2 h3 : MH} (a : FL h1 h2) (b : FL h2 h3) : FL h1 h3 := fun x y p q => (b x y p q).trans (a x y p q)

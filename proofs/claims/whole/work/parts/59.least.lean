/-! ===== the line without which the distance is least ===== -/
def lbs (l1 l2 : List Int) : Nat → Nat → Int → Int → Int × Int
  | 0, _, b, d => (b, d)
  | r + 1, i, b, d => if dst (del l1 i) l2 < d then lbs l1 l2 r (i + 1) (i : Int) (dst (del l1 i) l2) else lbs l1 l2 r (i + 1) b d
theorem dst_bd {l1 l2 : List Int} (h1 : l1.length ≤ 14) (h2 : l2.length ≤ 14) : 0 ≤ dst l1 l2 ∧ dst l1 l2 ≤ 28 := by
  have b := kp_b l1 l2 0 0
  unfold dst
  omega
theorem del_bd {l1 l2 : List Int} {i : Nat} (hi : i < l1.length) (h1 : l1.length ≤ 14) (h2 : l2.length ≤ 14) : 0 ≤ dst (del l1 i) l2 ∧ dst (del l1 i) l2 ≤ 28 := dst_bd (by rw [del_len hi]; omega) h2
theorem X_least_step {l1 l2 : List Int} (h1 : l1.length ≤ 14) (h2 : l2.length ≤ 14) {i : Nat} (hi : i < l1.length) {n : Nat} {b d : Int} {h : MH} (R1 : RW h 4 l1) (R2 : RW h 6 l2) :
    ∃ h', F_X_least_L27 4 (n + 1) b d (i : Int) h = (if dst (del l1 i) l2 < d then F_X_least_L27 4 n (i : Int) (dst (del l1 i) l2) ((i + 1 : Nat) : Int) h' else F_X_least_L27 4 n b d ((i + 1 : Nat) : Int) h') ∧ RW h' 4 l1 ∧ RW h' 6 l2 ∧ FR [47, 48, 50, 51] h h' := by
  obtain ⟨ha, f1, r1, w1⟩ := Ro_become (o := 47) (p := 4) rfl R1 (by decide) (by show _ ≤ 14; exact h1)
  obtain ⟨hb, f2, r2, w2⟩ := Ro_putOut r1 (i := (i : Int)) (by omega) (by omega)
  rw [nn] at r2
  have W2 : FR [47, 48, 50, 51] h hb := (w1.mono (by decide)).tr (w2.mono (by decide))
  obtain ⟨hc, f3, w3⟩ := C_apart (o := 47) (p := 6) r2 (R2.fr W2 (by decide) (by decide)) (by decide) (by decide) (by rw [del_len hi]; omega) h2
  have W3 : FR [47, 48, 50, 51] h hc := W2.tr (w3.mono (by decide))
  refine ⟨hc, ?_, R1.fr W3 (by decide) (by decide), R2.fr W3 (by decide) (by decide), W3⟩
  have e1 : wr ((i : Int) + 1) = ((i + 1 : Nat) : Int) := by rw [wr_id (by omega)]; omega
  rw [F_X_least_L27, R1.size, if_pos (lt_int hi), f1, ob1_s, f2, ob1_s, show F_St_text 3 1 = 6 by decide, f3, ob2_s, e1]
  by_cases c : dst (del l1 i) l2 < d
  · rw [if_pos c, if_pos c, jn2]
  · rw [if_neg c, if_neg c, jn2]
theorem X_least_loop {l1 l2 : List Int} (h1 : l1.length ≤ 14) (h2 : l2.length ≤ 14) : ∀ (r n i : Nat) (b d : Int) (h : MH), RW h 4 l1 → RW h 6 l2 → i + r = l1.length → r < n →
    ∃ h', F_X_least_L27 4 n b d (i : Int) h = some ((lbs l1 l2 r i b d).1, (lbs l1 l2 r i b d).2, (l1.length : Int), h') ∧ FR [47, 48, 50, 51] h h' := by
  intro r
  induction r with
  | zero =>
    intro n i b d h R1 R2 hi hn
    obtain ⟨n, rfl⟩ : ∃ m, n = m + 1 := ⟨n - 1, by omega⟩
    have : i = l1.length := by omega
    subst this
    refine ⟨h, ?_, FR.rf _ _⟩
    rw [F_X_least_L27, R1.size, if_neg (by omega)]
    rfl
  | succ r ih =>
    intro n i b d h R1 R2 hi hn
    obtain ⟨n, rfl⟩ : ∃ m, n = m + 1 := ⟨n - 1, by omega⟩
    obtain ⟨hc, f, q1, q2, W⟩ := X_least_step h1 h2 (i := i) (by omega) (n := n) (b := b) (d := d) R1 R2
    rw [f, lbs]
    by_cases c : dst (del l1 i) l2 < d
    · rw [if_pos c, if_pos c]
      obtain ⟨h', a, w⟩ := ih n (i + 1) (i : Int) (dst (del l1 i) l2) hc q1 q2 (by omega) (by omega)
      exact ⟨h', a, W.tr w⟩
    · rw [if_neg c, if_neg c]
      obtain ⟨h', a, w⟩ := ih n (i + 1) b d hc q1 q2 (by omega) (by omega)
      exact ⟨h', a, W.tr w⟩
def FL (h h' : MH) : Prop := ∀ a b, a ≠ 81 → ¬ (a = 76 ∧ b = 8) → h' a b = h a b
theorem FL.tr {h1 h2 h3 : MH} (a : FL h1 h2) (b : FL h2 h3) : FL h1 h3 := fun x y p q => (b x y p q).trans (a x y p q)
theorem M_least_step {g : SG} (og : OKg g) {i : Nat} (hi : i < g.1.length) {n : Nat} {b d : Int} {h : MH} (Hs : SM (h 77) g) :
    ∃ h', F_M_least_L18 (n + 1) b d (i : Int) h = (if b = -4 ∨ dst (del g.1 i) g.2.1 < d then F_M_least_L18 n (i : Int) (dst (del g.1 i) g.2.1) ((i + 1 : Nat) : Int) h' else F_M_least_L18 n b d ((i + 1 : Nat) : Int) h') ∧ SM (h' 77) g ∧ FL h h' := by
  have l14 := og.1.1
  obtain ⟨hc, f1, k1, w1⟩ := M_counts (h := up h 76 8 (i : Int)) (l1 := del g.1 i) og (by rw [up_ne (by decide)]; exact Hs) (Or.inr ⟨i, hi, by rw [up_at], rfl⟩)
  have e1 : wr ((i : Int) + 1) = ((i + 1 : Nat) : Int) := by rw [wr_id (by omega)]; omega
  refine ⟨hc, ?_, by rw [w1 77 (by decide), up_ne (by decide)]; exact Hs, fun x y p q => by rw [w1 x (by simpa using p), up_other q]⟩
  rw [F_M_least_L18, M_lines0 Hs, ob1_s, if_pos (lt_int hi), f1, ob2_s, e1, jk1_p, jk1_p]
  by_cases c1 : b = -4
  · rw [if_pos c1, if_pos (Or.inl c1)]
    show jn1 (if (1 : Int) = 0 then b else (i : Int)) (fun s11 => jn1 (if (1 : Int) = 0 then d else dst (del g.1 i) g.2.1) (fun s14 => F_M_least_L18 n s11 s14 ((i + 1 : Nat) : Int) hc)) = _
    rw [jn1_p, jn1_p, if_neg one_ne, if_neg one_ne]
  · rw [if_neg c1]
    by_cases c2 : dst (del g.1 i) g.2.1 < d
    · rw [if_pos c2, if_pos (Or.inr c2)]
      show jn1 (if (1 : Int) = 0 then b else (i : Int)) (fun s11 => jn1 (if (1 : Int) = 0 then d else dst (del g.1 i) g.2.1) (fun s14 => F_M_least_L18 n s11 s14 ((i + 1 : Nat) : Int) hc)) = _
      rw [jn1_p, jn1_p, if_neg one_ne, if_neg one_ne]
    · rw [if_neg c2, if_neg (fun z => z.elim c1 c2)]
      show jn1 (if (0 : Int) = 0 then b else (i : Int)) (fun s11 => jn1 (if (0 : Int) = 0 then d else dst (del g.1 i) g.2.1) (fun s14 => F_M_least_L18 n s11 s14 ((i + 1 : Nat) : Int) hc)) = _
      rw [jn1_p, jn1_p, if_pos rfl, if_pos rfl]
theorem M_least_loop {g : SG} (og : OKg g) : ∀ (r n i : Nat) (b d : Int) (h : MH), SM (h 77) g → 0 ≤ b → i + r = g.1.length → r < n →
    ∃ h', F_M_least_L18 n b d (i : Int) h = some ((lbs g.1 g.2.1 r i b d).1, (lbs g.1 g.2.1 r i b d).2, (g.1.length : Int), h') ∧ FL h h' := by
  intro r
  induction r with
  | zero =>
    intro n i b d h Hs hb hi hn
    obtain ⟨n, rfl⟩ : ∃ m, n = m + 1 := ⟨n - 1, by omega⟩
    have : i = g.1.length := by omega
    subst this
    refine ⟨h, ?_, fun _ _ _ _ => rfl⟩
    rw [F_M_least_L18, M_lines0 Hs, ob1_s, if_neg (by omega)]
    rfl
  | succ r ih =>
    intro n i b d h Hs hb hi hn
    obtain ⟨n, rfl⟩ : ∃ m, n = m + 1 := ⟨n - 1, by omega⟩
    obtain ⟨hc, f, q1, W⟩ := M_least_step og (i := i) (by omega) (n := n) (b := b) (d := d) Hs
    rw [f, lbs]
    by_cases c : dst (del g.1 i) g.2.1 < d
    · rw [if_pos c, if_pos (Or.inr c)]
      obtain ⟨h', a, w⟩ := ih n (i + 1) (i : Int) (dst (del g.1 i) g.2.1) hc q1 (by omega) (by omega) (by omega)
      exact ⟨h', a, W.tr w⟩
    · rw [if_neg c, if_neg (fun z => z.elim (fun y => by omega) c)]
      obtain ⟨h', a, w⟩ := ih n (i + 1) b d hc q1 hb (by omega) (by omega)
      exact ⟨h', a, W.tr w⟩
theorem sim_least {h : MH} {pad : List Int} {g : SG} {hist : List SG} {sv : Option SG} (C : CR h pad g hist sv) (og : OKg g) : SIM F_X_least F_M_least h pad g hist sv := by
  obtain ⟨x0, x1, -⟩ := X_text C
  have x0 : RW h 4 g.1 := x0
  have x1 : RW h 6 g.2.1 := x1
  have l0 := og.1.1
  have l1 := og.2.1.1
  by_cases c : g.1.length = 0
  · refine sim_flat (-2) ?_ (fun hm hh => ?_)
    · have ei : F_Ro_isEmpty 4 h = 1 := by
        unfold F_Ro_isEmpty
        rw [if_pos (by rw [x0.2.1]; omega)]
      unfold F_X_least
      rw [show F_St_text 3 0 = 4 by decide, ei, if_neg one_ne]
    · unfold F_M_least
      rw [M_lines0 hh.1, ob1_s, if_pos (by omega)]
  · obtain ⟨r, hr⟩ : ∃ r, r + 1 = g.1.length := ⟨g.1.length - 1, by omega⟩
    have db := del_bd (i := 0) (by omega) l0 l1
    obtain ⟨h', f, w⟩ := X_least_loop l0 l1 (r + 1) FUEL 0 0 29 h x0 x1 (by omega) (by rw [FUEL_eq]; omega)
    rw [show ((0 : Nat) : Int) = 0 from rfl] at f
    have e : lbs g.1 g.2.1 (r + 1) 0 0 29 = lbs g.1 g.2.1 r 1 0 (dst (del g.1 0) g.2.1) := by
      rw [lbs, if_pos (by omega)]
      rfl
    refine ⟨(lbs g.1 g.2.1 (r + 1) 0 0 29).1, h', ?_, w.mono (by decide), fun hm hh => ?_⟩
    · have ei : F_Ro_isEmpty 4 h = 0 := by
        unfold F_Ro_isEmpty
        rw [if_neg (by rw [x0.2.1]; omega)]
      unfold F_X_least
      rw [show F_St_text 3 0 = 4 by decide, ei, if_pos rfl, f]
      rfl
    · obtain ⟨hc, f1, q1, W1⟩ := M_least_step og (i := 0) (by omega) (n := 999) (b := -4) (d := 0) hh.1
      rw [if_pos (Or.inl rfl)] at f1
      obtain ⟨hd, f2, W2⟩ := M_least_loop og r 999 1 0 (dst (del g.1 0) g.2.1) hc q1 (by decide) (by omega) (by omega)
      have f3 : F_M_least_L18 FUEL (-4) 0 0 hm = some ((lbs g.1 g.2.1 r 1 0 (dst (del g.1 0) g.2.1)).1, (lbs g.1 g.2.1 r 1 0 (dst (del g.1 0) g.2.1)).2, (g.1.length : Int), hd) := f1.trans f2
      refine ⟨up hd 76 8 (-4), ?_, fun a b x1 x2 x3 x4 x5 x6 x7 => ?_⟩
      · unfold F_M_least
        rw [M_lines0 hh.1, ob1_s, if_neg (by omega), f3, e]
        rfl
      · by_cases cc : a = 76 ∧ b = 8
        · obtain ⟨rfl, rfl⟩ := cc
          rw [up_at]
          exact hh.2.2.2.2.symm
        · rw [up_other cc]
          exact (W1.tr W2) a b x1 cc

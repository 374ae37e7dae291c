/-! ===== the hunks are found: tops, ends, which are plain ===== -/
/-- as far as the place p: the hunks that are closed, and where an unclosed one began -/
def HP (ks : List Int) (p : Nat) (H : HL) (o : Option Nat) : Prop :=
  SO H ∧ (∀ q ∈ H, q.2 ≤ p ∧ (q.2 = p → ¬ kz ks p)) ∧ (∀ r, r < p → (kz ks r ↔ (∃ q ∈ H, q.1 ≤ r ∧ r < q.2) ∨ ∃ t, o = some t ∧ t ≤ r)) ∧
  (∀ t, o = some t → t < p ∧ kz ks p ∧ kz ks (p - 1) ∧ ∀ q ∈ H, q.2 < t) ∧ (o = none → p = 0 ∨ ¬ kz ks (p - 1) ∨ ¬ kz ks p) ∧ H.length + o.toList.length ≤ p
theorem HP.none_step {ks : List Int} {p : Nat} {H : HL} {o : Option Nat} (h : HP ks p H o) (hk : ¬ kz ks p) : o = none ∧ HP ks (p + 1) H none := by
  obtain ⟨a, b, c, d, e, f⟩ := h
  have ho : o = none := by
    cases o with
    | none => rfl
    | some t => exact absurd (d t rfl).2.1 hk
  subst ho
  refine ⟨rfl, a, fun q hq => ⟨by have := (b q hq).1; omega, fun h2 => by have := (b q hq).1; omega⟩, fun r hr => ?_, (fun t ht => by cases ht), (fun _ => Or.inr (Or.inl (by rw [Nat.add_sub_cancel]; exact hk))), (by simp at f ⊢; omega)⟩
  by_cases hrp : r < p
  · exact c r hrp
  · have : r = p := by omega
    subst this
    constructor
    · intro z; exact absurd z hk
    · rintro (⟨q, hq, h1, h2⟩ | ⟨t, ht, _⟩)
      · have := (b q hq).1; omega
      · cases ht
theorem HP.open_of {ks : List Int} {p : Nat} {H : HL} {o : Option Nat} (h : HP ks p H o) (hk : kz ks p) : (o = none ∧ (p = 0 ∨ ¬ kz ks (p - 1))) ∨ (∃ t, o = some t ∧ p ≠ 0 ∧ kz ks (p - 1)) := by
  obtain ⟨a, b, c, d, e, f⟩ := h
  cases o with
  | none =>
    left
    refine ⟨rfl, ?_⟩
    rcases e rfl with h1 | h1 | h1
    · exact Or.inl h1
    · exact Or.inr h1
    · exact absurd hk h1
  | some t =>
    right
    have := d t rfl
    exact ⟨t, rfl, by omega, this.2.2.1⟩
/-- the run that goes on at p began at t: closed behind p, or unclosed still -/
theorem HP.go {ks : List Int} {p : Nat} {H : HL} {o : Option Nat} (h : HP ks p H o) (hk : kz ks p) {t : Nat} (ht : o = some t ∨ (o = none ∧ (p = 0 ∨ ¬ kz ks (p - 1)) ∧ t = p)) :
    (kz ks (p + 1) → HP ks (p + 1) H (some t)) ∧ (¬ kz ks (p + 1) → HP ks (p + 1) (H ++ [(t, p + 1)]) none) := by
  obtain ⟨a, b, c, d, e, f⟩ := h
  have htp : t ≤ p := by
    rcases ht with ht | ⟨_, _, ht⟩
    · have := (d t ht).1; omega
    · omega
  have hqt : ∀ q ∈ H, q.2 < t := by
    rcases ht with ht | ⟨_, h2, ht⟩
    · exact (d t ht).2.2.2
    · intro q hq
      have h1 := b q hq
      rw [ht]
      by_cases hc : q.2 = p
      · exact absurd hk (h1.2 hc)
      · omega
  have hin : ∀ r, r < p + 1 → (kz ks r ↔ (∃ q ∈ H, q.1 ≤ r ∧ r < q.2) ∨ t ≤ r) := by
    intro r hr
    by_cases hrp : r < p
    · rw [c r hrp]
      constructor
      · rintro (h1 | ⟨t2, h1, h2⟩)
        · exact Or.inl h1
        · rcases ht with ht | ⟨ht, _, _⟩
          · rw [ht] at h1; cases h1; exact Or.inr h2
          · rw [ht] at h1; cases h1
      · rintro (h1 | h1)
        · exact Or.inl h1
        · rcases ht with ht | ⟨_, _, ht⟩
          · exact Or.inr ⟨t, ht, h1⟩
          · omega
    · have : r = p := by omega
      subst this
      exact ⟨fun _ => Or.inr htp, fun _ => hk⟩
  constructor
  · intro hn
    refine ⟨a, fun q hq => ⟨by have := hqt q hq; omega, fun z => by have := hqt q hq; omega⟩, fun r hr => ?_, fun t2 h2 => ?_, (fun z => by cases z), ?_⟩
    · rw [hin r hr]
      constructor
      · rintro (h1 | h1)
        · exact Or.inl h1
        · exact Or.inr ⟨t, rfl, h1⟩
      · rintro (h1 | ⟨t2, h1, h2⟩)
        · exact Or.inl h1
        · cases h1; exact Or.inr h2
    · cases h2
      exact ⟨by omega, hn, by rw [Nat.add_sub_cancel]; exact hk, hqt⟩
    · rcases ht with ht | ⟨ht, _, _⟩ <;> rw [ht] at f <;> simp at f ⊢ <;> omega
  · intro hn
    refine ⟨⟨?_, ?_⟩, ?_, fun r hr => ?_, (fun t2 h2 => by cases h2), fun _ => Or.inr (Or.inr hn), ?_⟩
    · rw [List.pairwise_append]
      refine ⟨a.1, List.pairwise_singleton _ _, fun q hq r hr => ?_⟩
      simp at hr
      subst hr
      exact hqt q hq
    · intro q hq
      rcases List.mem_append.mp hq with hq | hq
      · exact a.2 q hq
      · simp at hq; subst hq; show t < p + 1; omega
    · intro q hq
      rcases List.mem_append.mp hq with hq | hq
      · have := hqt q hq
        exact ⟨by omega, fun z => by omega⟩
      · simp at hq; subst hq; exact ⟨Nat.le_refl _, fun _ => hn⟩
    · rw [hin r hr]
      constructor
      · rintro (⟨q, hq, h1⟩ | h1)
        · exact Or.inl ⟨q, List.mem_append_left _ hq, h1⟩
        · exact Or.inl ⟨(t, p + 1), by simp, h1, hr⟩
      · rintro (⟨q, hq, h1⟩ | ⟨t2, h1, _⟩)
        · rcases List.mem_append.mp hq with hq | hq
          · exact Or.inl ⟨q, hq, h1⟩
          · simp at hq; subst hq; exact Or.inr h1.1
        · cases h1
    · rcases ht with ht | ⟨ht, _, _⟩ <;> rw [ht] at f <;> simp at f ⊢ <;> omega
theorem HP.done {ks : List Int} {H : HL} {o : Option Nat} (h : HP ks ks.length H o) : o = none ∧ HSP ks H := by
  have hk : ¬ kz ks ks.length := fun z => absurd (kz_lt z) (Nat.lt_irrefl _)
  obtain ⟨ho, _⟩ := h.none_step hk
  subst ho
  obtain ⟨a, b, c, d, e, f⟩ := h
  refine ⟨rfl, a, fun q hq => (b q hq).1, fun p => ?_⟩
  by_cases hp : p < ks.length
  · rw [c p hp]
    constructor
    · rintro (h1 | ⟨t, h1, _⟩)
      · exact h1
      · cases h1
    · exact Or.inl
  · constructor
    · intro z; exact absurd (kz_lt z) hp
    · rintro ⟨q, hq, h1, h2⟩
      have := (b q hq).1
      omega
theorem tops_app (H : HL) (q : Nat × Nat) : tops (H ++ [q]) = tops H ++ [(q.1 : Int)] := by simp [tops]
theorem ends_app (H : HL) (q : Nat × Nat) : ends (H ++ [q]) = ends H ++ [(q.2 : Int)] := by simp [ends]
def otop (o : Option Nat) : List Int := o.toList.map (fun (t : Nat) => (t : Int))
theorem find_loop {ks : List Int} (hlen : ks.length ≤ 28) : ∀ (n p : Nat) (h : MH) (H : HL) (o : Option Nat), RW h 55 ks → RW h 59 (tops H ++ otop o) → RW h 61 (ends H) → HP ks p H o → p ≤ ks.length → ks.length < p + n →
    ∃ h' H', F_V_findHunks_L23 n (p : Int) h = some ((ks.length : Int), h') ∧ RW h' 59 (tops H') ∧ RW h' 61 (ends H') ∧ HSP ks H' ∧ FR [59, 60, 61, 62] h h' := by
  intro n
  induction n with
  | zero => intro p h H o _ _ _ _ h1 h2; omega
  | succ n ih =>
    intro p h H o R R1 R2 hP hp hn
    unfold F_V_findHunks_L23 F_V_size
    rw [R.size]
    dsimp only [jn1]
    by_cases hc : p < ks.length
    · rw [if_pos (lt_int hc)]
      have w1 : wr ((p : Int) + 1) = ((p + 1 : Nat) : Int) := by rw [wr_id (by omega)]; omega
      rw [w1]
      by_cases hk : kz ks p
      · have hi : ¬ F_V_inHunk (p : Int) h = 0 := fun z => (inHunk_eq R p).mp z hk
        rw [if_neg hi]
        have hlenH : H.length + o.toList.length ≤ p := hP.2.2.2.2.2
        -- the top
        have htop : ∃ (h1 : MH) (t : Nat), (if F_V_inHunk (wr ((p : Int) - 1)) h = 0 then F_Ro_add 59 (p : Int) h else h) = h1 ∧ RW h1 59 (tops H ++ [(t : Int)]) ∧ FR [59, 60] h h1 ∧ (o = some t ∨ (o = none ∧ (p = 0 ∨ ¬ kz ks (p - 1)) ∧ t = p)) := by
          have w2 : F_V_inHunk (wr ((p : Int) - 1)) h = 0 ↔ (p = 0 ∨ ¬ kz ks (p - 1)) := by
            rw [wr_id (by omega)]
            by_cases h0 : p = 0
            · subst h0
              exact ⟨fun _ => Or.inl rfl, fun _ => inHunk_neg R (by decide)⟩
            · rw [show (p : Int) - 1 = ((p - 1 : Nat) : Int) by omega, inHunk_eq R]
              exact ⟨Or.inr, fun z => z.resolve_left h0⟩
          rcases hP.open_of hk with ⟨ho, hb⟩ | ⟨t, ho, h0, hb⟩
          · rw [if_pos (w2.mpr hb)]
            subst ho
            obtain ⟨A, B⟩ := Ro_add R1 (p : Int) (by
              simp [tops, otop] at hlenH ⊢
              show _ < 28
              omega)
            exact ⟨_, p, rfl, by simpa [otop] using A, B, Or.inr ⟨rfl, hb, rfl⟩⟩
          · rw [if_neg (fun z => by
              rcases w2.mp z with z | z
              · exact h0 z
              · exact z hb)]
            subst ho
            exact ⟨_, t, rfl, by simpa [otop] using R1, FR.rf _ _, Or.inl rfl⟩
        obtain ⟨h1, t, e1, A1, B1, ht⟩ := htop
        rw [e1]
        have R' : RW h1 55 ks := R.off B1 rfl (by omega)
        have R2' : RW h1 61 (ends H) := R2.off B1 rfl (by omega)
        rw [if_neg (fun z => (inHunk_eq R' p).mp z hk)]
        obtain ⟨g1, g2⟩ := hP.go hk ht
        have B1' : FR [59, 60, 61, 62] h h1 := B1.mono (by simp)
        by_cases hk2 : kz ks (p + 1)
        · rw [if_neg (fun z => (inHunk_eq R' (p + 1)).mp z hk2)]
          obtain ⟨h', H', x1, x2, x3, x4, x5⟩ := ih (p + 1) h1 H (some t) R' (by simpa [otop] using A1) R2' (g1 hk2) (by omega) (by omega)
          exact ⟨h', H', x1, x2, x3, x4, B1'.tr x5⟩
        · rw [if_pos ((inHunk_eq R' (p + 1)).mpr hk2)]
          obtain ⟨A2, B2⟩ := Ro_add R2' ((p + 1 : Nat) : Int) (by
            simp [ends]
            show _ < 28
            omega)
          have B2' : FR [59, 60, 61, 62] _ _ := B2.mono (S' := [59, 60, 61, 62]) (by simp)
          obtain ⟨h', H', x1, x2, x3, x4, x5⟩ := ih (p + 1) _ (H ++ [(t, p + 1)]) none (R'.off B2 rfl (by omega)) (by rw [tops_app]; simpa [otop] using A1.off B2 rfl (by omega)) (by rw [ends_app]; exact A2) (g2 hk2) (by omega) (by omega)
          exact ⟨h', H', x1, x2, x3, x4, (B1'.tr B2').tr x5⟩
      · have hi : F_V_inHunk (p : Int) h = 0 := (inHunk_eq R p).mpr hk
        rw [if_pos hi, if_pos hi]
        obtain ⟨ho, hP'⟩ := hP.none_step hk
        subst ho
        exact ih (p + 1) h H none R R1 R2 hP' (by omega) (by omega)
    · rw [if_neg (nlt_int hc)]
      have : p = ks.length := by omega
      subst this
      obtain ⟨ho, hS⟩ := hP.done
      subst ho
      exact ⟨h, H, rfl, by simpa [otop] using R1, R2, hS, FR.rf _ _⟩
theorem HSP.len14 {ks : List Int} {H : HL} (hs : HSP ks H) (hl : ks.length ≤ 28) : H.length ≤ 14 := by
  have := hs.1.len hs.2.1
  omega
theorem tops_lg {H : HL} {k : Nat} {q : Nat × Nat} (h : H[k]? = some q) : lg (tops H) (k : Int) = (q.1 : Int) := by
  rw [lg_in (Int.natCast_nonneg _), nn, List.getD_eq_getElem?_getD]
  unfold tops
  rw [List.getElem?_map, h]
  rfl
theorem ends_lg {H : HL} {k : Nat} {q : Nat × Nat} (h : H[k]? = some q) : lg (ends H) (k : Int) = (q.2 : Int) := by
  rw [lg_in (Int.natCast_nonneg _), nn, List.getD_eq_getElem?_getD]
  unfold ends
  rw [List.getElem?_map, h]
  rfl
theorem tops_len (H : HL) : (tops H).length = H.length := by simp [tops]
theorem ends_len (H : HL) : (ends H).length = H.length := by simp [ends]
theorem pls_len (ks : List Int) (H : HL) : (pls ks H).length = H.length := by simp [pls]
theorem V_linesOf {ks : List Int} {H : HL} {h : MH} (R : RW h 55 ks) (R1 : RW h 59 (tops H)) (R2 : RW h 61 (ends H)) (hs : HSP ks H) (hlen : ks.length ≤ 28) {k : Nat} {q : Nat × Nat} (hq : H[k]? = some q) (kd : Int) : F_V_linesOf (k : Int) kd h = some (cn ks kd q.1 (q.2 - q.1)) := by
  unfold F_V_linesOf F_V_top F_V_end
  have hm := List.mem_of_getElem? hq
  have h1 := hs.1.2 q hm
  have h2 := hs.2.1 q hm
  rw [R1.at, R2.at, tops_lg hq, ends_lg hq, V_linesWithin R (Nat.le_of_lt h1) (by omega)]
  rfl
theorem plain_loop {ks : List Int} {H : HL} (hs : HSP ks H) (hlen : ks.length ≤ 28) : ∀ (n i : Nat) (h : MH), RW h 55 ks → RW h 59 (tops H) → RW h 61 (ends H) → RW h 63 (pls ks (H.take i)) → i ≤ H.length → H.length < i + n →
    ∃ h', F_V_findHunks_L93 n (i : Int) h = some ((H.length : Int), h') ∧ RW h' 63 (pls ks H) ∧ FR [63, 64] h h' := by
  intro n
  induction n with
  | zero => intro i h _ _ _ _ h1 h2; omega
  | succ n ih =>
    intro i h R R1 R2 R3 hi hn
    have h14 := hs.len14 hlen
    unfold F_V_findHunks_L93 F_V_hunks
    rw [R1.size, tops_len]
    by_cases hc : i < H.length
    · rw [if_pos (lt_int hc)]
      obtain ⟨q, hq⟩ : ∃ q, H[i]? = some q := ⟨_, List.getElem?_eq_getElem hc⟩
      rw [V_linesOf R R1 R2 hs hlen hq, ob1_s]
      dsimp only [jk1, jn1]
      rw [V_linesOf R R1 R2 hs hlen hq, ob1_s]
      have w1 : wr ((i : Int) + 1) = ((i + 1 : Nat) : Int) := by rw [wr_id (by omega)]; omega
      rw [w1]
      have b1 := cn_bd ks 1 q.1 (q.2 - q.1)
      have b2 := cn_bd ks 2 q.1 (q.2 - q.1)
      have fin : ∀ v, v = pl ks q → ∃ h', F_V_findHunks_L93 n ((i + 1 : Nat) : Int) (F_Ro_add 63 v h) = some ((H.length : Int), h') ∧ RW h' 63 (pls ks H) ∧ FR [63, 64] h h' := by
        intro v hv
        subst hv
        obtain ⟨A, B⟩ := Ro_add R3 (pl ks q) (by rw [pls_len, List.length_take]; show _ < 28; omega)
        have e : pls ks (H.take i) ++ [pl ks q] = pls ks (H.take (i + 1)) := by
          unfold pls
          rw [List.take_succ, hq]
          simp
        rw [e] at A
        obtain ⟨h', x1, x2, x3⟩ := ih (i + 1) _ (R.off B rfl (by omega)) (R1.off B rfl (by omega)) (R2.off B rfl (by omega)) A (by omega) (by omega)
        exact ⟨h', x1, x2, B.tr x3⟩
      unfold pl at fin
      by_cases c1 : cn ks 1 q.1 (q.2 - q.1) ≤ 0
      · rw [if_pos c1]
        simp only [if_true]
        exact fin 1 (by rw [if_pos (Or.inl (by omega))])
      · rw [if_neg c1]
        by_cases c2 : cn ks 2 q.1 (q.2 - q.1) ≤ 0
        · rw [if_pos c2]
          simp only [if_true]
          exact fin 1 (by rw [if_pos (Or.inr (by omega))])
        · rw [if_neg c2]
          rw [if_neg (show ¬ (1 : Int) = 0 by decide)]
          exact fin 0 (by rw [if_neg (by omega)])
    · rw [if_neg (nlt_int hc)]
      have : i = H.length := by omega
      subst this
      rw [List.take_length] at R3
      exact ⟨h, rfl, R3, FR.rf _ _⟩
/-- the system's view -/
def VC (h : MH) (ks ss : List Int) (H : HL) : Prop := RW h 55 ks ∧ RW h 57 ss ∧ RW h 59 (tops H) ∧ RW h 61 (ends H) ∧ RW h 63 (pls ks H) ∧ HSP ks H ∧ ks.length = ss.length ∧ ks.length ≤ 28
def VS : List Nat := [55, 56, 57, 58, 59, 60, 61, 62, 63, 64]
theorem V_findHunks {h : MH} {ks ss : List Int} (R : RW h 55 ks) (Rs : RW h 57 ss) (hl : ks.length = ss.length) (hlen : ks.length ≤ 28) : ∃ h' H, F_V_findHunks h = some h' ∧ VC h' ks ss H ∧ FR VS h h' := by
  unfold F_V_findHunks
  obtain ⟨A1, B1⟩ := Ro_emptyOut (h := h) (o := 59) rfl
  obtain ⟨A2, B2⟩ := Ro_emptyOut (h := F_Ro_emptyOut 59 h) (o := 61) rfl
  obtain ⟨A3, B3⟩ := Ro_emptyOut (h := F_Ro_emptyOut 61 (F_Ro_emptyOut 59 h)) (o := 63) rfl
  have Rb := ((R.off B1 rfl (by omega)).off B2 rfl (by omega)).off B3 rfl (by omega)
  have Rsb := ((Rs.off B1 rfl (by omega)).off B2 rfl (by omega)).off B3 rfl (by omega)
  obtain ⟨h1, H, f1, r1, r2, hs, w1⟩ := find_loop hlen FUEL 0 _ [] none Rb ((A1.off B2 rfl (by omega)).off B3 rfl (by omega)) (A2.off B3 rfl (by omega)) ⟨⟨List.Pairwise.nil, fun q hq => by cases hq⟩, (fun q hq => by cases hq), (fun r hr => by omega), (fun t ht => by cases ht), (fun _ => Or.inl rfl), Nat.le_refl _⟩ (Nat.zero_le _) (by rw [FUEL_eq]; omega)
  rw [show ((0 : Nat) : Int) = 0 from rfl] at f1
  rw [f1, ob2_s]
  have R1 : RW h1 55 ks := Rb.fr w1 (by simp) (by simp)
  have Rs1 : RW h1 57 ss := Rsb.fr w1 (by simp) (by simp)
  have A3' : RW h1 63 [] := A3.fr w1 (by simp) (by simp)
  obtain ⟨h2, f2, r3, w2⟩ := plain_loop hs hlen FUEL 0 h1 R1 r1 r2 (by simpa [pls] using A3') (Nat.zero_le _) (by have := hs.len14 hlen; rw [FUEL_eq]; omega)
  rw [show ((0 : Nat) : Int) = 0 from rfl] at f2
  rw [f2]
  refine ⟨h2, H, rfl, ⟨R1.off w2 rfl (by omega), Rs1.off w2 rfl (by omega), r1.off w2 rfl (by omega), r2.off w2 rfl (by omega), r3, hs, hl, hlen⟩, ?_⟩
  exact ((((B1.mono (by simp [VS])).tr (B2.mono (by simp [VS]))).tr (B3.mono (by simp [VS]))).tr (w1.mono (by simp [VS]))).tr (w2.mono (by simp [VS]))

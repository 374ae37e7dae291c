/-! ===== the system's view as a whole; the reference's hunks ===== -/
def SCR : List Nat := [47, 48, 49, 50, 51, 52, 53, 54, 55, 56, 57, 58, 59, 60, 61, 62, 63, 64, 65, 66, 67, 68, 69, 70, 71, 72, 73, 74, 75]
theorem V_gather {h : MH} {o p : Nat} {l1 l2 : List Int} (Ho : RW h o l1) (Hp : RW h p l2) (o1 : o < 50) (p1 : p < 50) (hl1 : l1.length ≤ 14) (hl2 : l2.length ≤ 14) : ∃ h' H, F_V_gather o p h = some h' ∧ VC h' (vks l1 l2) (vss l1 l2) H ∧ FR SCR h h' := by
  unfold F_V_gather
  obtain ⟨h1, f1, K1, w1⟩ := C_compare Ho Hp (by omega) (by omega) hl1 hl2
  rw [f1, ob1_s]
  have no := row_apart (o := 50) rfl Ho.1 (by omega)
  have np := row_apart (o := 50) rfl Hp.1 (by omega)
  obtain ⟨A1, B1⟩ := Ro_emptyOut (h := h1) (o := 55) rfl
  obtain ⟨A2, B2⟩ := Ro_emptyOut (h := F_Ro_emptyOut 55 h1) (o := 57) rfl
  have Ho2 := (((Ho.fr w1 no.1 no.2).off B1 rfl (by omega)).off B2 rfl (by omega))
  have Hp2 := (((Hp.fr w1 np.1 np.2).off B1 rfl (by omega)).off B2 rfl (by omega))
  rw [Ho2.size, Hp2.size, wr_id (by omega)]
  have K2 : KM (F_Ro_emptyOut 57 (F_Ro_emptyOut 55 h1)) (kp l1 l2) := by
    have a := (B1.mono (S' := [55, 56, 57, 58]) (by simp)).tr (B2.mono (S' := [55, 56, 57, 58]) (by simp))
    exact ⟨by rw [a 50 (by simp)]; exact K1.1, fun i j x y => by rw [a 51 (by simp)]; exact K1.2 i j x y⟩
  obtain ⟨a, b, c, h2, f2, r1, r2, w2⟩ := gather_loop hl1 hl2 o1 p1 FUEL (l1.length + l2.length) 0 0 _ [] [] Ho2 Hp2 K2 (A1.off B2 rfl (by omega)) A2 rfl (Nat.le_refl _) (Nat.zero_le _) (Nat.zero_le _) (Nat.le_refl _) (by rw [FUEL_eq]; omega)
  have f2' : F_V_gather_L40 o p ((l1.length : Int) + (l2.length : Int)) FUEL 0 0 0 (F_Ro_emptyOut 57 (F_Ro_emptyOut 55 h1)) = some (a, b, c, h2) := f2
  rw [f2']
  show ∃ h' H, ob1 (F_V_findHunks h2) _ = some h' ∧ _
  have hle := vks_le l1 l2
  obtain ⟨h3, H, f3, v3, w3⟩ := V_findHunks (h := h2) (ks := vks l1 l2) (ss := vss l1 l2) r1 r2 (vks_len l1 l2) (by omega)
  rw [f3]
  refine ⟨h3, H, rfl, v3, ?_⟩
  exact ((((w1.mono (by decide)).tr (B1.mono (by decide))).tr (B2.mono (by decide))).tr (w2.mono (by decide))).tr (w3.mono (by decide))
def KOK (ks : List Int) : Prop := ∀ x ∈ ks, x = 0 ∨ x = 1 ∨ x = 2
theorem KOK.get {ks : List Int} (hk : KOK ks) {p : Nat} (hp : p < ks.length) : ks.getD p (-1) = 0 ∨ ks.getD p (-1) = 1 ∨ ks.getD p (-1) = 2 := by
  rw [List.getD_eq_getElem?_getD, List.getElem?_eq_getElem hp]
  exact hk _ (List.getElem_mem hp)
theorem KOK.not {ks : List Int} (hk : KOK ks) {p : Nat} (hp : p < ks.length) : ¬ kz ks p ↔ ks.getD p (-1) = 0 := by
  unfold kz
  have := hk.get hp
  omega
theorem vks_ok {l1 l2 : List Int} (h1 : OKt l1) (h2 : OKt l2) : KOK (vks l1 l2) := by
  intro x hx
  obtain ⟨q, hq, rfl⟩ := List.mem_map.mp hx
  exact (vw_prop l1 l2 h1 h2 _ _ _ q hq).1
theorem vss_ok {l1 l2 : List Int} (h1 : OKt l1) (h2 : OKt l2) : ∀ x ∈ vss l1 l2, 0 ≤ x ∧ x ≤ 8 := by
  intro x hx
  obtain ⟨q, hq, rfl⟩ := List.mem_map.mp hx
  exact (vw_prop l1 l2 h1 h2 _ _ _ q hq).2
def bg (ks : List Int) (p : Nat) : Prop := kz ks p ∧ (p = 0 ∨ ¬ kz ks (p - 1))
theorem M_begins {h : MH} {ks ss : List Int} (V : MV2 h ks ss) (hk : KOK ks) {p : Nat} (hp : p < ks.length) : ∃ r, F_M_begins (p : Int) h = some r ∧ ((bg ks p ∧ r = 1) ∨ (¬ bg ks p ∧ r = 0)) := by
  obtain ⟨a, b, c, d, e⟩ := V
  unfold F_M_begins
  rw [gd_pos ⟨Int.natCast_nonneg _, by omega⟩, nn, d p hp]
  by_cases h1 : ks.getD p (-1) ≤ 0
  · rw [if_pos h1]
    exact ⟨0, rfl, Or.inr ⟨fun z => by have := z.1; unfold kz at this; omega, rfl⟩⟩
  · rw [if_neg h1]
    by_cases h0 : p = 0
    · rw [if_pos (by omega)]
      exact ⟨1, rfl, Or.inl ⟨⟨by unfold kz; omega, Or.inl h0⟩, rfl⟩⟩
    · rw [if_neg (by omega), wr_id (by omega), gd_pos (by omega)]
      have e1 : ((p : Int) - 1).toNat = p - 1 := by omega
      rw [e1, d _ (by omega)]
      by_cases h2 : ks.getD (p - 1) (-1) = 0
      · rw [if_pos h2]
        exact ⟨1, rfl, Or.inl ⟨⟨by unfold kz; omega, Or.inr (by unfold kz; omega)⟩, rfl⟩⟩
      · rw [if_neg h2]
        refine ⟨0, rfl, Or.inr ⟨fun z => ?_, rfl⟩⟩
        rcases z.2 with z | z
        · exact h0 z
        · exact h2 ((hk.not (by omega)).mp z)
theorem M_hunks_loop {h : MH} {ks ss : List Int} {H : HL} (V : MV2 h ks ss) (hk : KOK ks) (hs : HSP ks H) : ∀ (n p : Nat), p ≤ ks.length → ks.length < p + n → F_M_hunks_L4 h n (nt H p : Int) (p : Int) = some ((H.length : Int), (ks.length : Int)) := by
  intro n
  induction n with
  | zero => intro p h1 h2; omega
  | succ n ih =>
    intro p h1 h2
    have hl := V.2.2.1
    have h14 := hs.len14 hl
    unfold F_M_hunks_L4
    rw [V.1]
    by_cases hc : p < ks.length
    · rw [if_pos (lt_int hc)]
      obtain ⟨r, f, hr⟩ := M_begins V hk hc
      rw [f, ob1_s]
      dsimp only [jn1]
      have hb := nt_le H p
      have w1 : wr ((p : Int) + 1) = ((p + 1 : Nat) : Int) := by rw [wr_id (by omega)]; omega
      rw [w1]
      rcases hr with ⟨h3, rfl⟩ | ⟨h3, rfl⟩
      · obtain ⟨q, hq, e⟩ := hs.beg.mp h3
        obtain ⟨k, hk2⟩ := List.getElem?_of_mem hq
        subst e
        rw [if_neg (by decide), nt_at hs.1 hk2, wr_id (by
          have := (List.getElem?_eq_some_iff.mp hk2).1
          omega)]
        have := ih (q.1 + 1) (by omega) (by omega)
        rw [nt_yes hs.1 hk2] at this
        exact this
      · rw [if_pos rfl, wr_id (by omega), Int.add_zero]
        have := ih (p + 1) (by omega) (by omega)
        rw [nt_no (fun q hq e => h3 (hs.beg.mpr ⟨q, hq, e⟩))] at this
        exact this
    · rw [if_neg (nlt_int hc)]
      have : p = ks.length := by omega
      subst this
      rw [nt_all (fun q hq => by have := hs.1.2 q hq; have := hs.2.1 q hq; omega)]
theorem M_hunks {h : MH} {ks ss : List Int} {H : HL} (V : MV2 h ks ss) (hk : KOK ks) (hs : HSP ks H) : F_M_hunks h = some (H.length : Int) := by
  unfold F_M_hunks
  have := M_hunks_loop V hk hs FUEL 0 (Nat.zero_le _) (by have := V.2.2.1; rw [FUEL_eq]; omega)
  rw [nt_zero (fun q hq => Nat.zero_le _)] at this
  rw [show ((0 : Nat) : Int) = 0 from rfl] at this
  rw [this]
  rfl
theorem M_start_loop {h : MH} {ks ss : List Int} {H : HL} (V : MV2 h ks ss) (hk : KOK ks) (hs : HSP ks H) {k : Nat} {q : Nat × Nat} (hq : H[k]? = some q) : ∀ (n p : Nat), p ≤ q.1 → q.1 < p + n → F_M_start_L4 h n ((k : Int) - (nt H p : Int)) (p : Int) = some (Sum.inl (q.1 : Int)) := by
  intro n
  induction n with
  | zero => intro p h1 h2; omega
  | succ n ih =>
    intro p h1 h2
    have hl := V.2.2.1
    have h14 := hs.len14 hl
    have hm := List.mem_of_getElem? hq
    have hq1 := hs.1.2 q hm
    have hq2 := hs.2.1 q hm
    have hkl := (List.getElem?_eq_some_iff.mp hq).1
    have hc : p < ks.length := by omega
    unfold F_M_start_L4
    rw [V.1, if_pos (lt_int hc)]
    obtain ⟨r, f, hr⟩ := M_begins V hk hc
    rw [f, ob1_s]
    dsimp only [jk1]
    have hb := nt_le H p
    have w1 : wr ((p : Int) + 1) = ((p + 1 : Nat) : Int) := by rw [wr_id (by omega)]; omega
    rw [w1]
    by_cases hpq : p = q.1
    · subst hpq
      have : bg ks q.1 := hs.beg.mpr ⟨q, hm, rfl⟩
      rcases hr with ⟨_, rfl⟩ | ⟨h3, _⟩
      · rw [if_neg (by decide), nt_at hs.1 hq, if_pos (by omega)]
      · exact absurd this h3
    · rcases hr with ⟨h3, rfl⟩ | ⟨h3, rfl⟩
      · obtain ⟨q2, hq3, e⟩ := hs.beg.mp h3
        obtain ⟨k2, hk2⟩ := List.getElem?_of_mem hq3
        subst e
        have hlt : k2 < k := by
          rcases Nat.lt_trichotomy k2 k with c | c | c
          · exact c
          · subst c; rw [hq] at hk2; cases hk2; exact absurd rfl hpq
          · have := hs.1.lt hq hk2 c; omega
        rw [if_neg (by decide), nt_at hs.1 hk2, if_neg (by omega), wr_id (by omega)]
        have := ih (q2.1 + 1) (by omega) (by omega)
        rw [nt_yes hs.1 hk2] at this
        rw [show (k : Int) - (k2 : Int) + -1 = (k : Int) - ((k2 + 1 : Nat) : Int) by omega]
        exact this
      · rw [if_pos rfl]
        have := ih (p + 1) (by omega) (by omega)
        rw [nt_no (fun q2 hq3 e => h3 (hs.beg.mpr ⟨q2, hq3, e⟩))] at this
        exact this
theorem M_start {h : MH} {ks ss : List Int} {H : HL} (V : MV2 h ks ss) (hk : KOK ks) (hs : HSP ks H) {k : Nat} {q : Nat × Nat} (hq : H[k]? = some q) : F_M_start (k : Int) h = some (q.1 : Int) := by
  unfold F_M_start
  have hm := List.mem_of_getElem? hq
  have := hs.1.2 q hm
  have := hs.2.1 q hm
  have := V.2.2.1
  have h1 := M_start_loop V hk hs hq FUEL 0 (Nat.zero_le _) (by rw [FUEL_eq]; omega)
  rw [nt_zero (fun q hq => Nat.zero_le _)] at h1
  rw [show (k : Int) - ((0 : Nat) : Int) = (k : Int) by omega, show ((0 : Nat) : Int) = 0 from rfl] at h1
  rw [h1]
  rfl
theorem M_size_loop {h : MH} {ks ss : List Int} (V : MV2 h ks ss) {a b : Nat} (hin : ∀ p, a ≤ p → p < b → kz ks p) (hb : b ≤ ks.length) (he : ¬ kz ks b) : ∀ (n m : Nat), a + m ≤ b → b < a + m + n → F_M_size_L2 (a : Int) h n (m : Int) = some ((b - a : Nat) : Int) := by
  intro n
  induction n with
  | zero => intro m h1 h2; omega
  | succ n ih =>
    intro m h1 h2
    have hl := V.2.2.1
    have e1 : wr ((a : Int) + (m : Int)) = ((a + m : Nat) : Int) := by rw [wr_id (by omega)]; omega
    have w1 : wr ((m : Int) + 1) = ((m + 1 : Nat) : Int) := by rw [wr_id (by omega)]; omega
    unfold F_M_size_L2
    rw [e1, V.1]
    by_cases hc : a + m < ks.length
    · rw [if_pos (lt_int hc), gd_pos ⟨Int.natCast_nonneg _, by omega⟩, nn, V.2.2.2.1 _ hc]
      by_cases hd : a + m < b
      · have := hin (a + m) (by omega) hd
        unfold kz at this
        rw [if_neg (by omega), w1]
        exact ih (m + 1) (by omega) (by omega)
      · have e2 : a + m = b := by omega
        unfold kz at he
        rw [e2, if_pos (by omega)]
        exact congrArg some (by omega)
    · rw [if_neg (nlt_int hc)]
      exact congrArg some (by omega)
theorem HSP.inn {ks : List Int} {H : HL} (hs : HSP ks H) {q : Nat × Nat} (hq : q ∈ H) : ∀ p, q.1 ≤ p → p < q.2 → kz ks p := fun p h1 h2 => (hs.2.2 p).mpr ⟨q, hq, h1, h2⟩
theorem M_size {h : MH} {ks ss : List Int} {H : HL} (V : MV2 h ks ss) (hs : HSP ks H) {q : Nat × Nat} (hq : q ∈ H) : F_M_size (q.1 : Int) h = some ((q.2 - q.1 : Nat) : Int) := by
  have hl := V.2.2.1
  have h1 := hs.1.2 q hq
  have h2 := hs.2.1 q hq
  unfold F_M_size
  have := M_size_loop V (hs.inn hq) h2 (hs.fin hq) FUEL 0 (by omega) (by rw [FUEL_eq]; omega)
  rw [show ((0 : Nat) : Int) = 0 from rfl] at this
  rw [this]
  rfl
theorem M_marked_loop {h : MH} {ks ss : List Int} {H : HL} (V : MV2 h ks ss) (hs : HSP ks H) {q : Nat × Nat} (hq : q ∈ H) (k : Int) : ∀ (n m : Nat), m ≤ q.2 - q.1 → q.2 - q.1 < m + n → F_M_marked_L5 (q.1 : Int) k h n (cn ks k q.1 m) (m : Int) = some (cn ks k q.1 (q.2 - q.1), ((q.2 - q.1 : Nat) : Int)) := by
  intro n
  induction n with
  | zero => intro m h1 h2; omega
  | succ n ih =>
    intro m h1 h2
    have hl := V.2.2.1
    have g1 := hs.1.2 q hq
    have g2 := hs.2.1 q hq
    have e1 : wr ((q.1 : Int) + (m : Int)) = ((q.1 + m : Nat) : Int) := by rw [wr_id (by omega)]; omega
    have w1 : wr ((m : Int) + 1) = ((m + 1 : Nat) : Int) := by rw [wr_id (by omega)]; omega
    unfold F_M_marked_L5
    rw [M_size V hs hq, ob1_s]
    by_cases hc : m < q.2 - q.1
    · rw [if_pos (lt_int hc), e1, gd_pos ⟨Int.natCast_nonneg _, by omega⟩]
      dsimp only [jn1]
      rw [nn, V.2.2.2.1 _ (by omega), w1]
      have hb := cn_bd ks k q.1 m
      have e2 : wr (cn ks k q.1 m + (if ks.getD (q.1 + m) (-1) = k then 1 else 0)) = cn ks k q.1 (m + 1) := by
        rw [cn, wr_id (by split <;> omega)]
      rw [e2]
      exact ih (m + 1) (by omega) (by omega)
    · rw [if_neg (nlt_int hc)]
      have : m = q.2 - q.1 := by omega
      rw [this]
theorem M_marked {h : MH} {ks ss : List Int} {H : HL} (V : MV2 h ks ss) (hs : HSP ks H) {q : Nat × Nat} (hq : q ∈ H) (k : Int) : F_M_marked (q.1 : Int) k h = some (cn ks k q.1 (q.2 - q.1)) := by
  have hl := V.2.2.1
  have h1 := hs.1.2 q hq
  have h2 := hs.2.1 q hq
  unfold F_M_marked
  have := M_marked_loop V hs hq k FUEL 0 (Nat.zero_le _) (by rw [FUEL_eq]; omega)
  rw [show cn ks k q.1 0 = 0 from rfl, show ((0 : Nat) : Int) = 0 from rfl] at this
  rw [this]
  rfl
theorem M_isPlain {h : MH} {ks ss : List Int} {H : HL} (V : MV2 h ks ss) (hs : HSP ks H) {q : Nat × Nat} (hq : q ∈ H) : F_M_isPlain (q.1 : Int) h = some (pl ks q) := by
  unfold F_M_isPlain
  rw [M_marked V hs hq, ob1_s, M_marked V hs hq, ob1_s]
  unfold pl
  by_cases c1 : cn ks 1 q.1 (q.2 - q.1) = 0
  · rw [if_pos c1, if_pos (Or.inl c1)]
  · rw [if_neg c1]
    by_cases c2 : cn ks 2 q.1 (q.2 - q.1) = 0
    · rw [if_pos c2, if_pos (Or.inr c2)]
    · rw [if_neg c2, if_neg (fun z => z.elim c1 c2)]

/-! ===== parts of the view; where they fit ===== -/
/-- the signs of the lines from a on that are not of a kind -/
def pt (ks ss : List Int) (k : Int) (a : Nat) : Nat → List Int
  | 0 => []
  | n + 1 => pt ks ss k a n ++ (if ks.getD (a + n) (-1) = k then [] else [ss.getD (a + n) (-1)])
theorem pt_len (ks ss : List Int) (k : Int) (a : Nat) : ∀ n, ((pt ks ss k a n).length : Int) = (n : Int) - cn ks k a n := by
  intro n
  induction n with
  | zero => rfl
  | succ n ih =>
    rw [pt, cn, List.length_append]
    by_cases c : ks.getD (a + n) (-1) = k
    · rw [if_pos c, if_pos c, List.length_nil]; omega
    · rw [if_neg c, if_neg c, List.length_singleton]; omega
theorem pt_le (ks ss : List Int) (k : Int) (a n : Nat) : (pt ks ss k a n).length ≤ n := by
  have := pt_len ks ss k a n
  have := cn_bd ks k a n
  omega
theorem La_take_loop {ks ss : List Int} (hl : ks.length = ss.length) (h28 : ks.length ≤ 28) (x5 x6 : Int) {a b : Nat} (hb : b ≤ ks.length) : ∀ (n m : Nat) (h : MH), RW h 55 ks → RW h 57 ss → RW h 68 (pt ks ss x6 a m) → RW h 70 (pt ks ss x5 a m) → a + m ≤ b → b < a + m + n →
    ∃ h' x, F_La_takeParts_L41 (b : Int) x5 x6 n ((a + m : Nat) : Int) h = some (x, h') ∧ RW h' 68 (pt ks ss x6 a (b - a)) ∧ RW h' 70 (pt ks ss x5 a (b - a)) ∧ FR [68, 69, 70, 71] h h' := by
  intro n
  induction n with
  | zero => intro m h _ _ _ _ h1 h2; omega
  | succ n ih =>
    intro m h R1 R2 R3 R4 h1 h2
    unfold F_La_takeParts_L41 F_V_kind F_V_sign
    by_cases hc : a + m < b
    · have e1 : wr (((a + m : Nat) : Int) + 1) = ((a + (m + 1) : Nat) : Int) := by rw [wr_id (by omega)]; omega
      have l3 := pt_le ks ss x6 a m
      have l4 := pt_le ks ss x5 a m
      have ke : lg ks ((a + m : Nat) : Int) = ks.getD (a + m) (-1) := by rw [lg_in (Int.natCast_nonneg _), nn]
      have se : lg ss ((a + m : Nat) : Int) = ss.getD (a + m) (-1) := by rw [lg_in (Int.natCast_nonneg _), nn]
      rw [if_pos (lt_int hc), jn1_p, jn1_p, e1, R1.at, R2.at, ke, se]
      have step1 : ∃ h1, (if ks.getD (a + m) (-1) = x6 then h else F_Ro_add 68 (ss.getD (a + m) (-1)) h) = h1 ∧ RW h1 68 (pt ks ss x6 a (m + 1)) ∧ FR [68, 69] h h1 := by
        rw [pt]
        by_cases c : ks.getD (a + m) (-1) = x6
        · rw [if_pos c, if_pos c, List.append_nil]; exact ⟨h, rfl, R3, FR.rf _ _⟩
        · rw [if_neg c, if_neg c]
          obtain ⟨A, B⟩ := Ro_add R3 (ss.getD (a + m) (-1)) (by show _ < 28; omega)
          exact ⟨_, rfl, A, B⟩
      obtain ⟨h1', f1, S3, w1⟩ := step1
      rw [f1]
      have Q1 := R1.fr w1 (by decide) (by decide)
      have Q2 := R2.fr w1 (by decide) (by decide)
      have Q4 := R4.fr w1 (by decide) (by decide)
      rw [Q1.at, Q2.at, ke, se]
      have step2 : ∃ h2, (if ks.getD (a + m) (-1) = x5 then h1' else F_Ro_add 70 (ss.getD (a + m) (-1)) h1') = h2 ∧ RW h2 70 (pt ks ss x5 a (m + 1)) ∧ FR [70, 71] h1' h2 := by
        rw [pt]
        by_cases c : ks.getD (a + m) (-1) = x5
        · rw [if_pos c, if_pos c, List.append_nil]; exact ⟨h1', rfl, Q4, FR.rf _ _⟩
        · rw [if_neg c, if_neg c]
          obtain ⟨A, B⟩ := Ro_add Q4 (ss.getD (a + m) (-1)) (by show _ < 28; omega)
          exact ⟨_, rfl, A, B⟩
      obtain ⟨h2', f2, S4, w2⟩ := step2
      rw [f2]
      have W : FR [68, 69, 70, 71] h h2' := (w1.mono (by decide)).tr (w2.mono (by decide))
      obtain ⟨h', x, g1, g2, g3, g4⟩ := ih (m + 1) h2' (R1.fr W (by decide) (by decide)) (R2.fr W (by decide) (by decide)) (S3.fr w2 (by decide) (by decide)) S4 (by omega) (by omega)
      exact ⟨h', x, g1, g2, g3, W.tr g4⟩
    · rw [if_neg (nlt_int hc)]
      rw [show b - a = m by omega]
      exact ⟨h, _, rfl, R3, R4, FR.rf _ _⟩
def sR (dn : Int) : Int := if dn = 0 then 2 else 1
def sA (dn : Int) : Int := if dn = 0 then 1 else 2
theorem La_takeParts {h : MH} {ks ss : List Int} {H : HL} (V : VC h ks ss H) {a b : Nat} (hab : a ≤ b) (hb : b ≤ ks.length) (dn : Int) :
    ∃ h', F_La_takeParts (a : Int) (b : Int) dn h = some h' ∧ RW h' 68 (pt ks ss (sR dn) a (b - a)) ∧ RW h' 70 (pt ks ss (sA dn) a (b - a)) ∧ FR [68, 69, 70, 71] h h' := by
  obtain ⟨R1, R2, R3, R4, R5, hs, hl, h28⟩ := V
  obtain ⟨A1, B1⟩ := Ro_emptyOut (h := h) (o := 68) rfl
  obtain ⟨A2, B2⟩ := Ro_emptyOut (h := F_Ro_emptyOut 68 h) (o := 70) rfl
  have W : FR [68, 69, 70, 71] h (F_Ro_emptyOut 70 (F_Ro_emptyOut 68 h)) := (B1.mono (by decide)).tr (B2.mono (by decide))
  obtain ⟨h', x, g1, g2, g3, g4⟩ := La_take_loop hl h28 (sA dn) (sR dn) (a := a) hb FUEL 0 _ (R1.fr W (by decide) (by decide)) (R2.fr W (by decide) (by decide)) (A1.fr B2 (by decide) (by decide)) A2 (by omega) (by rw [FUEL_eq]; omega)
  unfold F_La_takeParts
  rw [jn1_p, jn1_p]
  rw [Nat.add_zero] at g1
  rw [show (if dn = 0 then (1 : Int) else 2) = sA dn from rfl, show (if dn = 0 then (2 : Int) else 1) = sR dn from rfl]
  rw [g1]
  exact ⟨h', rfl, g2, g3, W.tr g4⟩
/-- the first n lines of a part are the text's, from a place on -/
def mtb (T out : List Int) (p : Int) : Nat → Bool
  | 0 => true
  | n + 1 => mtb T out p n && decide (lg out (n : Int) = lg T (p + (n : Int)))
theorem mtb_iff (T out : List Int) (p : Int) : ∀ n, mtb T out p n = true ↔ ∀ i : Nat, i < n → lg out (i : Int) = lg T (p + (i : Int)) := by
  intro n
  induction n with
  | zero => exact ⟨fun _ i hi => absurd hi (Nat.not_lt_zero _), fun _ => rfl⟩
  | succ n ih =>
    rw [mtb, Bool.and_eq_true, ih, decide_eq_true_eq]
    constructor
    · rintro ⟨a, b⟩ i hi
      rcases Nat.lt_succ_iff_lt_or_eq.mp hi with c | c
      · exact a i c
      · subst c; exact b
    · intro h
      exact ⟨fun i hi => h i (by omega), h n (by omega)⟩
/-- a part fits at a place -/
def fit (T out : List Int) (first p : Int) : Bool := decide (first ≤ p ∧ p + (out.length : Int) ≤ (T.length : Int)) && mtb T out p out.length
theorem La_fits_loop {h : MH} {T out : List Int} (R1 : RW h 66 T) (R2 : RW h 68 out) (h28 : out.length ≤ 28) {p : Int} (hp : -1000 ≤ p ∧ p ≤ 1000) : ∀ (n i : Nat), i ≤ out.length → out.length < i + n → (∀ j : Nat, j < i → lg out (j : Int) = lg T (p + (j : Int))) →
    F_La_fitsAt_L31 p h n (i : Int) = (if mtb T out p out.length = true then some (Sum.inr (out.length : Int)) else some (Sum.inl 0)) := by
  intro n
  induction n with
  | zero => intro i h1 h2; omega
  | succ n ih =>
    intro i h1 h2 h3
    unfold F_La_fitsAt_L31
    rw [R2.size, R2.at, R1.at]
    by_cases hc : i < out.length
    · rw [if_pos (lt_int hc), wr_id (z := p + (i : Int)) (by omega)]
      have e1 : wr ((i : Int) + 1) = ((i + 1 : Nat) : Int) := by rw [wr_id (by omega)]; omega
      by_cases c : lg out (i : Int) = lg T (p + (i : Int))
      · rw [if_pos c, e1]
        exact ih (i + 1) (by omega) (by omega) (fun j hj => by
          rcases Nat.lt_succ_iff_lt_or_eq.mp hj with z | z
          · exact h3 j z
          · subst z; exact c)
      · rw [if_neg c, if_neg (fun z => c ((mtb_iff T out p _).mp z i hc))]
    · rw [if_neg (nlt_int hc), if_pos ((mtb_iff T out p _).mpr (fun j hj => h3 j (by omega))), show i = out.length by omega]
theorem La_fitsAt {h : MH} {T out : List Int} (R1 : RW h 66 T) (R2 : RW h 68 out) (h28 : out.length ≤ 28) {p first : Int} (h9 : h 65 9 = first) (hp : -1000 ≤ p ∧ p ≤ 1000) : F_La_fitsAt p h = some (if fit T out first p = true then 1 else 0) := by
  have hT := R1.le
  have hT2 : T.length ≤ 28 := R1.2.2.1
  unfold F_La_fitsAt fit
  rw [h9, R2.size, R1.size, wr_id (z := p + (out.length : Int)) (by omega)]
  have f := La_fits_loop R1 R2 h28 hp FUEL 0 (Nat.zero_le _) (by rw [FUEL_eq]; omega) (fun j hj => absurd hj (Nat.not_lt_zero _))
  rw [show ((0 : Nat) : Int) = 0 from rfl] at f
  rw [f]
  by_cases c1 : p < first
  · rw [if_pos c1, show decide (first ≤ p ∧ p + (out.length : Int) ≤ (T.length : Int)) = false from decide_eq_false (by omega)]
    rfl
  · rw [if_neg c1]
    by_cases c2 : p + (out.length : Int) ≤ (T.length : Int)
    · rw [if_pos c2, show decide (first ≤ p ∧ p + (out.length : Int) ≤ (T.length : Int)) = true from decide_eq_true (by omega), Bool.true_and]
      by_cases c3 : mtb T out p out.length = true
      · rw [if_pos c3, if_pos c3]; rfl
      · rw [if_neg c3, if_neg c3]; rfl
    · rw [if_neg c2, show decide (first ≤ p ∧ p + (out.length : Int) ≤ (T.length : Int)) = false from decide_eq_false (by omega)]
      rfl
/-- the nearest place: n distances from d on, up before down -/
def fnd (T out : List Int) (first w : Int) : Nat → Nat → Int
  | 0, _ => -4
  | n + 1, d => if fit T out first (w - (d : Int)) = true then w - (d : Int) else if fit T out first (w + (d : Int)) = true then w + (d : Int) else fnd T out first w n (d + 1)
theorem La_search_loop {h : MH} {T out : List Int} (R1 : RW h 66 T) (R2 : RW h 68 out) (h28 : out.length ≤ 28) {w first : Int} (h9 : h 65 9 = first) (hw : -500 ≤ w ∧ w ≤ 500) : ∀ (n r d : Nat), d + r = 113 → r < n →
    os (F_La_search_L2 w h n (d : Int)) (fun (a : Int) => some a) (fun (_ : Int) => some (-4)) = some (fnd T out first w r d) := by
  intro n
  induction n with
  | zero => intro r d h1 h2; omega
  | succ n ih =>
    intro r d h1 h2
    unfold F_La_search_L2
    cases r with
    | zero => rw [if_neg (by omega)]; rfl
    | succ r =>
      have e1 : wr ((d : Int) + 1) = ((d + 1 : Nat) : Int) := by rw [wr_id (by omega)]; omega
      rw [if_pos (by omega), wr_id (z := w - (d : Int)) (by omega), wr_id (z := w + (d : Int)) (by omega), La_fitsAt R1 R2 h28 h9 (by omega), ob1_s, La_fitsAt R1 R2 h28 h9 (by omega), ob1_s, e1, fnd]
      by_cases c1 : fit T out first (w - (d : Int)) = true
      · rw [if_pos c1, if_pos c1, if_neg (by decide)]; rfl
      · rw [if_neg c1, if_neg c1, if_pos rfl]
        by_cases c2 : fit T out first (w + (d : Int)) = true
        · rw [if_pos c2, if_pos c2, if_neg (by decide)]; rfl
        · rw [if_neg c2, if_neg c2, if_pos rfl]
          exact ih r (d + 1) (by omega) (by omega)
theorem La_search {h : MH} {T out : List Int} (R1 : RW h 66 T) (R2 : RW h 68 out) (h28 : out.length ≤ 28) {w first : Int} (h9 : h 65 9 = first) (hw : -500 ≤ w ∧ w ≤ 500) : F_La_search w h = some (fnd T out first w 113 0) := by
  have := La_search_loop R1 R2 h28 h9 hw FUEL 113 0 rfl (by rw [FUEL_eq]; omega)
  unfold F_La_search
  exact this
theorem fit_in {T out : List Int} {first p : Int} (h : fit T out first p = true) : first ≤ p ∧ p + (out.length : Int) ≤ (T.length : Int) ∧ mtb T out p out.length = true := by
  unfold fit at h
  rw [Bool.and_eq_true, decide_eq_true_eq] at h
  exact ⟨h.1.1, h.1.2, h.2⟩
/-- further out nothing fits -/
theorem fnd_far {T out : List Int} {first w : Int} : ∀ (n d : Nat), (∀ e : Nat, d ≤ e → fit T out first (w - (e : Int)) = false ∧ fit T out first (w + (e : Int)) = false) → fnd T out first w n d = -4 := by
  intro n
  induction n with
  | zero => intro d _; rfl
  | succ n ih =>
    intro d h
    rw [fnd, (h d (Nat.le_refl _)).1, (h d (Nat.le_refl _)).2, if_neg (by decide), if_neg (by decide)]
    exact ih (d + 1) (fun e he => h e (by omega))
theorem fnd_more {T out : List Int} {first w : Int} : ∀ (n m d : Nat), (∀ e : Nat, d + n ≤ e → fit T out first (w - (e : Int)) = false ∧ fit T out first (w + (e : Int)) = false) → fnd T out first w (n + m) d = fnd T out first w n d := by
  intro n
  induction n with
  | zero => intro m d h; rw [Nat.zero_add]; exact fnd_far m d (fun e he => h e (by omega))
  | succ n ih =>
    intro m d h
    rw [show n + 1 + m = (n + m) + 1 by omega, fnd, fnd, ih m (d + 1) (fun e he => h e (by omega))]

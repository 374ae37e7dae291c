/-! ===== the reference settles; both views agree ===== -/
theorem fill_up {h : MH} {v : Int} {l : List Int} {a m : Nat} (hp : ∀ p, p < l.length → h 83 p = (fill v l a m).getD p (-1)) : ∀ p, p < l.length → up h 83 (a + m) v 83 p = (fill v l a (m + 1)).getD p (-1) := by
  intro p hpl
  rw [up_if, hp p hpl, fill_get, fill_get]
  by_cases c : p = a + m
  · rw [if_pos c, if_pos (by omega)]
  · rw [if_neg c]
    by_cases c2 : a ≤ p ∧ p < a + m ∧ p < l.length
    · rw [if_pos c2, if_pos (by omega)]
    · rw [if_neg c2, if_neg (by omega)]
theorem M_fill0 {l : List Int} {a z : Nat} (hz : a + z ≤ l.length) (hl : l.length ≤ 28) (x4 x5 : Int) : ∀ (n m : Nat) (h : MH), (∀ p, p < l.length → h 83 p = (fill 0 l a m).getD p (-1)) → m ≤ z → z < m + n →
    ∃ h' x, F_M_settles_L39 (a : Int) (z : Int) x4 x5 n (m : Int) h = some (x, h') ∧ (∀ p, p < l.length → h' 83 p = (fill 0 l a z).getD p (-1)) ∧ FR [83] h h' := by
  intro n
  induction n with
  | zero => intro m h _ h1 h2; omega
  | succ n ih =>
    intro m h hp h1 h2
    unfold F_M_settles_L39
    by_cases hc : m < z
    · have e1 : wr ((a : Int) + (m : Int)) = ((a + m : Nat) : Int) := by rw [wr_id (by omega)]; omega
      have e2 : wr ((m : Int) + 1) = ((m + 1 : Nat) : Int) := by rw [wr_id (by omega)]; omega
      rw [if_pos (lt_int hc), e1, e2, gd_pos ⟨Int.natCast_nonneg _, by omega⟩, nn]
      obtain ⟨h', x, g1, g2, g3⟩ := ih (m + 1) _ (fill_up hp) (by omega) (by omega)
      exact ⟨h', x, g1, g2, (FR.up (by simp)).tr g3⟩
    · rw [if_neg (nlt_int hc)]
      have : m = z := by omega
      subst this
      exact ⟨h, _, rfl, hp, FR.rf _ _⟩
theorem M_fill1 {l : List Int} {a z : Nat} {v : Int} (hz : a + z ≤ l.length) (hl : l.length ≤ 28) : ∀ (n m : Nat) (h : MH), (∀ p, p < l.length → h 83 p = (fill v l a m).getD p (-1)) → m ≤ z → z < m + n →
    ∃ h' x, F_M_settles_L64 (z : Int) v (a : Int) n (m : Int) h = some (x, h') ∧ (∀ p, p < l.length → h' 83 p = (fill v l a z).getD p (-1)) ∧ FR [83] h h' := by
  intro n
  induction n with
  | zero => intro m h _ h1 h2; omega
  | succ n ih =>
    intro m h hp h1 h2
    unfold F_M_settles_L64
    by_cases hc : m < z
    · have e1 : wr ((a : Int) + (m : Int)) = ((a + m : Nat) : Int) := by rw [wr_id (by omega)]; omega
      have e2 : wr ((m : Int) + 1) = ((m + 1 : Nat) : Int) := by rw [wr_id (by omega)]; omega
      rw [if_pos (lt_int hc), e1, e2, gd_pos ⟨Int.natCast_nonneg _, by omega⟩, nn]
      obtain ⟨h', x, g1, g2, g3⟩ := ih (m + 1) _ (fill_up hp) (by omega) (by omega)
      exact ⟨h', x, g1, g2, (FR.up (by simp)).tr g3⟩
    · rw [if_neg (nlt_int hc)]
      have : m = z := by omega
      subst this
      exact ⟨h, _, rfl, hp, FR.rf _ _⟩
theorem M_settles {h : MH} {ks ss : List Int} {H : HL} (V : MV2 h ks ss) (hk : KOK ks) (hso : SOK ss) (hs : HSP ks H) {k : Nat} (hkl : k < H.length) :
    ∃ h', F_M_settles (k : Int) h = some h' ∧ MV2 h' (st1 ss (ks, H) k).1 ss ∧ FR [83] h h' := by
  have hq : H[k]? = some (H[k]'hkl) := List.getElem?_eq_getElem _
  generalize H[k]'hkl = q at hq
  have hm := List.mem_of_getElem? hq
  have a1 := hs.1.2 q hm
  have a2 := hs.2.1 q hm
  obtain ⟨v1, v2, v3, v4, v5⟩ := V
  have V : MV2 h ks ss := ⟨v1, v2, v3, v4, v5⟩
  unfold F_M_settles
  rw [M_start V hk hs hq, ob1_s, M_isPlain V hs hm, ob1_s]
  by_cases hp : pl ks q = 0
  · rw [if_pos hp]
    refine ⟨h, rfl, ?_, FR.rf _ _⟩
    unfold st1; dsimp only; rw [hq]; dsimp only; rw [if_pos hp]; exact V
  · have hf := bt_free hs hso v2 v3 hm (pl_1 hp)
    rw [if_neg hp, M_size V hs hm, ob1_s, gd_pos ⟨Int.natCast_nonneg _, by omega⟩, M_bestPlace V hso hs hm, ob1_s, nn, v4 _ (by omega)]
    have hfl := hf.1
    obtain ⟨h1, x1, f1, r1, w1⟩ := M_fill0 (l := ks) (a := q.1) (z := q.2 - q.1) (by omega) v3 (ks.getD q.1 (-1)) ((bt ks ss q : Nat) : Int) FUEL 0 h v4 (Nat.zero_le _) (by rw [FUEL_eq]; omega)
    rw [show ((0 : Nat) : Int) = 0 from rfl] at f1
    rw [f1]
    obtain ⟨h2, x2, f2, r2, w2⟩ := M_fill1 (l := fill 0 ks q.1 (q.2 - q.1)) (a := bt ks ss q) (z := q.2 - q.1) (v := ks.getD q.1 (-1)) (by rw [fill_len]; omega) (by rw [fill_len]; exact v3) FUEL 0 h1 (by rw [fill_len]; exact r1) (Nat.zero_le _) (by rw [FUEL_eq]; omega)
    rw [show ((0 : Nat) : Int) = 0 from rfl] at f2
    show ∃ h', ob2 (F_M_settles_L64 ((q.2 - q.1 : Nat) : Int) (ks.getD q.1 (-1)) ((bt ks ss q : Nat) : Int) FUEL 0 h1) _ = some h' ∧ _
    rw [f2]
    refine ⟨h2, rfl, ?_, w1.tr w2⟩
    unfold st1; dsimp only; rw [hq]; dsimp only; rw [if_neg hp]
    have W := w1.tr w2
    rw [fill_len] at r2
    refine ⟨by rw [W 76 (by decide), mv_len]; exact v1, by rw [mv_len]; exact v2, by rw [mv_len]; exact v3, fun p hpl => ?_, fun p hpl => ?_⟩
    · rw [mv_len] at hpl; exact r2 p hpl
    · rw [mv_len] at hpl; rw [W 82 (by decide)]; exact v5 p hpl
theorem M_settle_loop {ss : List Int} (hso : SOK ss) : ∀ (n r k : Nat) (h : MH) (ks : List Int) (H : HL), MV2 h ks ss → KOK ks → HSP ks H → h 77 46 = 1 → k + r = H.length → r < n →
    ∃ h' x, F_M_views_L183 n (k : Int) h = some (x, h') ∧ MV2 h' (stn ss r k (ks, H)).1 ss ∧ FR [83] h h' := by
  intro n
  induction n with
  | zero => intro r k h ks H _ _ _ _ _ h2; omega
  | succ n ih =>
    intro r k h ks H V hk hs h46 h1 h2
    have hl := V.2.1
    have h28 := V.2.2.1
    have h14 := hs.len14 h28
    unfold F_M_views_L183
    rw [M_hunks V hk hs, ob1_s]
    cases r with
    | zero =>
      rw [if_neg (by omega)]
      exact ⟨h, _, rfl, V, FR.rf _ _⟩
    | succ r =>
      have e1 : wr ((k : Int) + 1) = ((k + 1 : Nat) : Int) := by rw [wr_id (by omega)]; omega
      have so := st1_ok hs hk hso hl h28 k
      rw [if_pos (by omega), if_pos h46, e1]
      obtain ⟨h3, f3, v3, w3⟩ := M_settles V hk hso hs (k := k) (by omega)
      rw [f3, ob1_s, stn]
      obtain ⟨h', x, g1, g2, g3⟩ := ih r (k + 1) h3 _ _ v3 so.2.1 so.1 (by rw [w3 77 (by decide)]; exact h46) (by rw [so.2.2.2.1]; omega) (by omega)
      exact ⟨h', x, g1, g2, w3.tr g3⟩
theorem stn_ok {ss : List Int} (hso : SOK ss) : ∀ (r k : Nat) (ks : List Int) (H : HL), HSP ks H → KOK ks → ks.length = ss.length → ks.length ≤ 28 →
    HSP (stn ss r k (ks, H)).1 (stn ss r k (ks, H)).2 ∧ KOK (stn ss r k (ks, H)).1 ∧ (stn ss r k (ks, H)).1.length = ks.length ∧ (stn ss r k (ks, H)).2.length = H.length := by
  intro r
  induction r with
  | zero => intro k ks H a b _ _; exact ⟨a, b, rfl, rfl⟩
  | succ r ih =>
    intro k ks H a b c d
    have so := st1_ok a b hso c d k
    rw [stn]
    have := ih (k + 1) _ _ so.1 so.2.1 (by rw [so.2.2.1]; exact c) (by rw [so.2.2.1]; exact d)
    exact ⟨this.1, this.2.1, by rw [this.2.2.1, so.2.2.1], by rw [this.2.2.2, so.2.2.2.1]⟩
/-- hunks of kinds are of one making -/
theorem HSP.uniq {ks : List Int} {H H' : HL} (a : HSP ks H) (b : HSP ks H') : H = H' := by
  have aux : ∀ {H H' : HL}, HSP ks H → HSP ks H' → ∀ (k : Nat) (q : Nat × Nat), H[k]? = some q → H'[k]? = some q := by
    intro H H' a b k q hq
    have hm := List.mem_of_getElem? hq
    have q1 := a.1.2 q hm
    obtain ⟨r, hr, e⟩ := b.beg.mp (a.beg.mpr ⟨q, hm, rfl⟩)
    have r1 := b.1.2 r hr
    obtain ⟨j, hj⟩ := List.getElem?_of_mem hr
    have he : r.2 = q.2 := by
      rcases Nat.lt_trichotomy r.2 q.2 with c | c | c
      · exact absurd (a.inn hm r.2 (by omega) c) (b.fin hr)
      · exact c
      · exact absurd (b.inn hr q.2 (by omega) c) (a.fin hm)
    have hrq : r = q := Prod.ext e he
    subst hrq
    have hn : nt H r.1 = nt H' r.1 := by
      -- tops ahead of a place are the same ones on both sides
      have key : ∀ p, nt H p = nt H' p := by
        intro p
        induction p with
        | zero => rw [nt_zero (fun q hq => Nat.zero_le _), nt_zero (fun q hq => Nat.zero_le _)]
        | succ p ihp =>
          by_cases hb : ∃ q ∈ H, q.1 = p
          · obtain ⟨s, hs, es⟩ := hb
            obtain ⟨t, ht, et⟩ := b.beg.mp (a.beg.mpr ⟨s, hs, es⟩)
            obtain ⟨i, hi⟩ := List.getElem?_of_mem hs
            obtain ⟨i', hi'⟩ := List.getElem?_of_mem ht
            subst es
            have x1 := nt_yes a.1 hi
            have x2 := nt_at a.1 hi
            have x3 := nt_yes b.1 hi'
            have x4 := nt_at b.1 hi'
            rw [et] at x3 x4
            omega
          · have hb' : ∀ q ∈ H', q.1 ≠ p := fun q hq e => hb (a.beg.mp (b.beg.mpr ⟨q, hq, e⟩))
            rw [nt_no (fun q hq e => hb ⟨q, hq, e⟩), nt_no hb', ihp]
      exact key r.1
    have y1 := nt_at a.1 hq
    have y2 := nt_at b.1 hj
    rw [show k = j by omega]
    exact hj
  apply List.ext_getElem?
  intro k
  cases h1 : H[k]? with
  | some q => rw [aux a b k q h1]
  | none =>
    cases h2 : H'[k]? with
    | none => rfl
    | some q => rw [aux b a k q h2] at h1; exact absurd h1 (by simp)
/-- the view of a state: its kinds, its signs, its hunks -/
def shw (g : SG) (H : HL) : List Int × HL := if g.2.2.2.2.1 = 1 then stn (vss g.1 g.2.1) H.length 0 (vks g.1 g.2.1, H) else (vks g.1 g.2.1, H)
theorem sok_of {l1 l2 : List Int} (h1 : OKt l1) (h2 : OKt l2) : SOK (vss l1 l2) := fun x hx => (vss_ok h1 h2 x hx).1
theorem X_show {h : MH} {pad : List Int} {g : SG} {hist : List SG} {sv : Option SG} (C : CR h pad g hist sv) (og : OKg g) :
    ∃ h' H, F_X_show h = some h' ∧ HSP (vks g.1 g.2.1) H ∧ VC h' (shw g H).1 (vss g.1 g.2.1) (shw g H).2 ∧ KOK (shw g H).1 ∧ FR SCR h h' := by
  obtain ⟨c1, c2, c3, c4, c5⟩ := C
  obtain ⟨d0, d1, d2, d3, d4, d5, d6, d7⟩ := c2
  have hk := vks_ok og.1 og.2.1
  have hso := sok_of og.1 og.2.1
  obtain ⟨h1, H, f1, v1, w1⟩ := V_gather (o := 4) (p := 6) d1 d2 (by decide) (by decide) og.1.1 og.2.1.1
  have hs := v1.2.2.2.2.2.1
  have hl := v1.2.2.2.2.2.2.1
  have h28 := v1.2.2.2.2.2.2.2
  unfold F_X_show
  have t0 : F_St_text 3 0 = 4 := by decide
  have t1 : F_St_text 3 1 = 6 := by decide
  rw [t0, t1, f1, ob1_s]
  have t2 : F_St_setting 3 1 h1 = g.2.2.2.2.1 := by
    unfold F_St_setting
    rw [if_neg (by decide), w1 3 (by decide)]; exact d5
  rw [t2]
  by_cases c : g.2.2.2.2.1 = 1
  · rw [if_pos c]
    obtain ⟨h2, f2, v2, w2⟩ := V_settle v1 hk hso
    rw [f2]
    have so := stn_ok hso H.length 0 _ H hs hk hl h28
    refine ⟨h2, H, rfl, hs, ?_, ?_, w1.tr (w2.mono (by decide))⟩
    · unfold shw; rw [if_pos c]; exact v2
    · unfold shw; rw [if_pos c]; exact so.2.1
  · rw [if_neg c]
    refine ⟨h1, H, rfl, hs, ?_, ?_, w1⟩
    · unfold shw; rw [if_neg c]; exact v1
    · unfold shw; rw [if_neg c]; exact hk
def FW (h h' : MH) : Prop := ∀ a b, a ≠ 81 → a ≠ 82 → a ≠ 83 → ¬ (a = 76 ∧ b = 11) → h' a b = h a b
theorem FW.row {h h' : MH} (F : FW h h') {a : Nat} (h0 : a ≠ 81) (h1 : a ≠ 82) (h2 : a ≠ 83) (h3 : a ≠ 76) : h' a = h a := funext fun b => F a b h0 h1 h2 (fun z => h3 z.1)
theorem FW.mrr {h h' : MH} {pad : List Int} {g : SG} {hist : List SG} {sv : Option SG} (F : FW h h') (M : MRR h pad g hist sv) : MRR h' pad g hist sv := by
  obtain ⟨m1, ⟨m2, m3, m4⟩, ⟨m5, m6⟩, ⟨m7, m8, m9⟩, m10⟩ := M
  have r77 := F.row (a := 77) (by decide) (by decide) (by decide) (by decide)
  have r78 := F.row (a := 78) (by decide) (by decide) (by decide) (by decide)
  have r79 := F.row (a := 79) (by decide) (by decide) (by decide) (by decide)
  have r80 := F.row (a := 80) (by decide) (by decide) (by decide) (by decide)
  have s76 : ∀ b, b ≠ 11 → h' 76 b = h 76 b := fun b hb => F 76 b (by decide) (by decide) (by decide) (fun z => hb z.2)
  exact ⟨by rw [r77]; exact m1, ⟨by rw [s76 2 (by decide)]; exact m2, m3, by rw [r78]; exact m4⟩, ⟨by rw [s76 4 (by decide)]; exact m5, by rw [r79]; exact m6⟩, ⟨by rw [s76 6 (by decide)]; exact m7, m8, by rw [r80]; exact m9⟩, by rw [s76 8 (by decide)]; exact m10⟩
theorem F_M_views_183_top (N n : Nat) (hN : N = n + 1) (h : MH) {r1 : Int} (hr : F_M_hunks h = some r1) : F_M_views_L183 N 0 h = (if 0 < r1 then (if h 77 46 = 1 then (ob1 (F_M_settles 0 h) (fun (h5 : MH) => F_M_views_L183 n (wr (0 + 1)) h5)) else (some (0, h))) else (some (0, h))) := by
  subst hN
  rw [F_M_views_L183, hr, ob1_s]
theorem M_views {h : MH} {pad : List Int} {g : SG} {hist : List SG} {sv : Option SG} (M : MRR h pad g hist sv) (og : OKg g) {H : HL} (hs : HSP (vks g.1 g.2.1) H) :
    ∃ h', F_M_views h = some h' ∧ MV2 h' (shw g H).1 (vss g.1 g.2.1) ∧ FW h h' := by
  have hk := vks_ok og.1 og.2.1
  have hso := sok_of og.1 og.2.1
  have hle := vks_le g.1 g.2.1
  have l0 := og.1.1
  have l1 := og.2.1.1
  have M0 := M
  obtain ⟨m1, -, -, -, m10⟩ := M
  unfold F_M_views
  obtain ⟨h1, f1, k1, w1⟩ := M_counts og m1 (Or.inl ⟨m10, rfl⟩)
  rw [f1]
  have a1 : SM (up h1 76 11 0 77) g := by rw [up_ne (by decide), w1 77 (by decide)]; exact m1
  have a2 : up h1 76 11 0 76 8 = -4 := by rw [up_other (by decide), w1 76 (by decide)]; exact m10
  obtain ⟨a, b, h2, f2, v2, w2⟩ := M_views_loop og FUEL (g.1.length + g.2.1.length) 0 0 (up h1 76 11 0) [] [] a1 a2 (fun i' j' x y => by rw [up_ne (by decide)]; exact k1 i' j' x y)
    ⟨by rw [up_at]; rfl, rfl, by decide, fun p hp => absurd hp (Nat.not_lt_zero _), fun p hp => absurd hp (Nat.not_lt_zero _)⟩ (Nat.le_refl _) (Nat.zero_le _) (Nat.zero_le _) (Nat.le_refl _) (by rw [FUEL_eq]; omega)
  rw [show ((0 : Nat) : Int) = 0 from rfl] at f2
  show ∃ h', ob3 (F_M_views_L14 FUEL 0 0 (up h1 76 11 0)) _ = some h' ∧ _
  rw [f2]
  have v2' : MV2 h2 (vks g.1 g.2.1) (vss g.1 g.2.1) := v2
  show ∃ h', ob2 (F_M_views_L183 FUEL 0 h2) _ = some h' ∧ _
  have W : FW h h2 := by
    intro x y x1 x2 x3 x4
    rw [w2 x y x2 x3 x4]
    by_cases hx : x = 76
    · subst hx
      rw [up_other (by omega), w1 76 (by decide)]
    · rw [up_ne hx, w1 x (by simpa using x1)]
  have h46 : h2 77 46 = g.2.2.2.2.1 := by
    rw [W 77 46 (by decide) (by decide) (by decide) (by decide)]
    exact m1.2.2.2.2.1
  by_cases c : g.2.2.2.2.1 = 1
  · have h14 := hs.len14 (by omega)
    obtain ⟨h3, x, f3, v3, w3⟩ := M_settle_loop hso FUEL H.length 0 h2 _ H v2' hk hs (by rw [h46]; exact c) (by omega) (by rw [FUEL_eq]; omega)
    rw [show ((0 : Nat) : Int) = 0 from rfl] at f3
    rw [f3]
    refine ⟨h3, rfl, ?_, fun x y x1 x2 x3 x4 => ?_⟩
    · unfold shw; rw [if_pos c]; exact v3
    · rw [w3 x (by simpa using x3)]; exact W x y x1 x2 x3 x4
  · have f3 : F_M_views_L183 FUEL 0 h2 = some (0, h2) := by
      rw [F_M_views_183_top FUEL 999 FUEL_eq h2 (M_hunks v2' hk hs)]
      split
      · rw [if_neg (by rw [h46]; exact c)]
      · rfl
    rw [f3]
    refine ⟨h2, rfl, ?_, W⟩
    unfold shw; rw [if_neg c]; exact v2'

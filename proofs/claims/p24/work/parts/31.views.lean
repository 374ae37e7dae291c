/-! ===== the reference settles; both views agree ===== -/
theorem fill_up {h : MH} {v : Int} {l : List Int} {a m : Nat} (hp : ∀ p, p < l.length → h 83 p = (fill v l a m).getD p (-1)) : ∀ p, p < l.length → up h 83 (a + m) v 83 p = (fill v l a (m + 1)).getD p (-1) := by
  intro p hpl
  rw [up_if, hp p hpl, fill_get, fill_get]
  by_cases c : p = a + m
  · rw [if_pos c, if_pos (by omega)]
  · rw [if_neg c]
    by_cases c2 : a ≤ p ∧ p < a + m ∧ p < l.length
    · rw [if_pos c2, if_pos (by omega)]
    · rw [if_neg c2, if_neg (by omega)]
theorem stn_ok {ss : List Int} (hso : SOK ss) : ∀ (r k : Nat) (ks : List Int) (H : HL), HSP ks H → KOK ks → ks.length = ss.length → ks.length ≤ 28 →
    HSP (stn ss r k (ks, H)).1 (stn ss r k (ks, H)).2 ∧ KOK (stn ss r k (ks, H)).1 ∧ (stn ss r k (ks, H)).1.length = ks.length ∧ (stn ss r k (ks, H)).2.length = H.length := by
  intro r
  induction r with
  | zero => intro k ks H a b _ _; exact ⟨a, b, rfl, rfl⟩
  | succ r ih =>
    intro k ks H a b c d
    have so := st1_ok a b hso c d k
    rw [stn]
    have := ih (k + 1) _ _ so.1 so.2.1 (by rw [so.2.2.1]; exact c) (by rw [so.2.2.1]; exact d)
    exact ⟨this.1, this.2.1, by rw [this.2.2.1, so.2.2.1], by rw [this.2.2.2, so.2.2.2.1]⟩
/-- hunks of kinds are of one making -/
theorem HSP.uniq {ks : List Int} {H H' : HL} (a : HSP ks H) (b : HSP ks H') : H = H' := by
  have aux : ∀ {H H' : HL}, HSP ks H → HSP ks H' → ∀ (k : Nat) (q : Nat × Nat), H[k]? = some q → H'[k]? = some q := by
    intro H H' a b k q hq
    have hm := List.mem_of_getElem? hq
    have q1 := a.1.2 q hm
    obtain ⟨r, hr, e⟩ := b.beg.mp (a.beg.mpr ⟨q, hm, rfl⟩)
    have r1 := b.1.2 r hr
    obtain ⟨j, hj⟩ := List.getElem?_of_mem hr
    have he : r.2 = q.2 := by
      rcases Nat.lt_trichotomy r.2 q.2 with c | c | c
      · exact absurd (a.inn hm r.2 (by omega) c) (b.fin hr)
      · exact c
      · exact absurd (b.inn hr q.2 (by omega) c) (a.fin hm)
    have hrq : r = q := Prod.ext e he
    subst hrq
    have hn : nt H r.1 = nt H' r.1 := by
      -- tops ahead of a place are the same ones on both sides
      have key : ∀ p, nt H p = nt H' p := by
        intro p
        induction p with
        | zero => rw [nt_zero (fun q hq => Nat.zero_le _), nt_zero (fun q hq => Nat.zero_le _)]
        | succ p ihp =>
          by_cases hb : ∃ q ∈ H, q.1 = p
          · obtain ⟨s, hs, es⟩ := hb
            obtain ⟨t, ht, et⟩ := b.beg.mp (a.beg.mpr ⟨s, hs, es⟩)
            obtain ⟨i, hi⟩ := List.getElem?_of_mem hs
            obtain ⟨i', hi'⟩ := List.getElem?_of_mem ht
            subst es
            have x1 := nt_yes a.1 hi
            have x2 := nt_at a.1 hi
            have x3 := nt_yes b.1 hi'
            have x4 := nt_at b.1 hi'
            rw [et] at x3 x4
            omega
          · have hb' : ∀ q ∈ H', q.1 ≠ p := fun q hq e => hb (a.beg.mp (b.beg.mpr ⟨q, hq, e⟩))
            rw [nt_no (fun q hq e => hb ⟨q, hq, e⟩), nt_no hb', ihp]
      exact key r.1
    have y1 := nt_at a.1 hq
    have y2 := nt_at b.1 hj
    rw [show k = j by omega]
    exact hj
  apply List.ext_getElem?
  intro k
  cases h1 : H[k]? with
  | some q => rw [aux a b k q h1]
  | none =>
    cases h2 : H'[k]? with
    | none => rfl
    | some q => rw [aux b a k q h2] at h1; exact absurd h1 (by simp)
/-- the view of a state: its kinds, its signs, its hunks -/
def shw (g : SG) (H : HL) : List Int × HL := if g.2.2.2.2.1 = 1 then stn (vss g.1 g.2.1) H.length 0 (vks g.1 g.2.1, H) else (vks g.1 g.2.1, H)
theorem sok_of {l1 l2 : List Int} (h1 : OKt l1) (h2 : OKt l2) : SOK (vss l1 l2) := fun x hx => (vss_ok h1 h2 x hx).1
theorem X_show {h : MH} {pad : List Int} {g : SG} {hist : List SG} {sv : Option SG} (C : CR h pad g hist sv) (og : OKg g) :
    ∃ h' H, F_X_show h = some h' ∧ HSP (vks g.1 g.2.1) H ∧ VC h' (shw g H).1 (vss g.1 g.2.1) (shw g H).2 ∧ KOK (shw g H).1 ∧ FR SCR h h' := by
  obtain ⟨c1, c2, c3, c4, c5⟩ := C
  obtain ⟨d0, d1, d2, d3, d4, d5, d6, d7⟩ := c2
  have hk := vks_ok og.1 og.2.1
  have hso := sok_of og.1 og.2.1
  obtain ⟨h1, H, f1, v1, w1⟩ := V_gather (o := 4) (p := 6) d1 d2 (by decide) (by decide) og.1.1 og.2.1.1
  have hs := v1.2.2.2.2.2.1
  have hl := v1.2.2.2.2.2.2.1
  have h28 := v1.2.2.2.2.2.2.2
  unfold F_X_show
  have t0 : F_St_text 3 0 = 4 := by decide
  have t1 : F_St_text 3 1 = 6 := by decide
  rw [t0, t1, f1, ob1_s]
  have t2 : F_St_setting 3 1 h1 = g.2.2.2.2.1 := by
    unfold F_St_setting
    rw [if_neg (by decide), w1 3 (by decide)]; exact d5
  rw [t2]
  by_cases c : g.2.2.2.2.1 = 1
  · rw [if_pos c]
    obtain ⟨h2, f2, v2, w2⟩ := V_settle v1 hk hso
    rw [f2]
    have so := stn_ok hso H.length 0 _ H hs hk hl h28
    refine ⟨h2, H, rfl, hs, ?_, ?_, w1.tr (w2.mono (by decide))⟩
    · unfold shw; rw [if_pos c]; exact v2
    · unfold shw; rw [if_pos c]; exact so.2.1
  · rw [if_neg c]
    refine ⟨h1, H, rfl, hs, ?_, ?_, w1⟩
    · unfold shw; rw [if_neg c]; exact v1
    · unfold shw; rw [if_neg c]; exact hk

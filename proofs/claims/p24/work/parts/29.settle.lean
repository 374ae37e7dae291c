/-! ===== the best place; to settle ===== -/
theorem wr_n {z : Int} (n : Nat) (h : z = (n : Int)) (hn : n ≤ 100000) : wr z = (n : Int) := by rw [wr_id (by omega)]; exact h
def bsl (w : Nat → Int) : Nat → Nat → Nat → Nat
  | 0, b, _ => b
  | n + 1, b, c => bsl w n (if w c < w b then b else c) (c + 1)
theorem bsl_range (w : Nat → Int) (lo : Nat) : ∀ (n b c : Nat), lo ≤ b → b < c → lo ≤ bsl w n b c ∧ bsl w n b c < c + n := by
  intro n
  induction n with
  | zero => intro b c h1 h2; exact ⟨h1, h2⟩
  | succ n ih =>
    intro b c h1 h2
    rw [bsl]
    split
    · have := ih b (c + 1) h1 (by omega); omega
    · have := ih c (c + 1) (by omega) (by omega); omega
/-- the best place of a hunk: its top there -/
def bt (ks ss : List Int) (q : Nat × Nat) : Nat := bsl (fun c => wth ss (c : Int) ((c + (q.2 - q.1) : Nat) : Int)) (sld ks ss q 0 + sld ks ss q 1) (q.1 - sld ks ss q 0) (q.1 - sld ks ss q 0 + 1)
theorem sld_le {ks ss : List Int} (hs : SOK ss) (q : Nat × Nat) (h1 : q.1 < q.2) (h2 : q.2 ≤ ss.length) (h3 : ss.length ≤ 28) : sld ks ss q 0 ≤ q.1 ∧ q.2 + sld ks ss q 1 ≤ ss.length := by
  have a := slc_le (ks := ks) hs q 0 h1 h2 h3
  have b := slc_le (ks := ks) hs q 1 h1 h2 h3
  unfold sld
  have a1 := a.1 rfl
  have b1 := b.2.1 (by decide)
  split <;> omega
theorem bt_range {ks ss : List Int} (hs : SOK ss) (q : Nat × Nat) (h1 : q.1 < q.2) (h2 : q.2 ≤ ss.length) (h3 : ss.length ≤ 28) : q.1 - sld ks ss q 0 ≤ bt ks ss q ∧ bt ks ss q ≤ q.1 + sld ks ss q 1 := by
  have a := sld_le (ks := ks) hs q h1 h2 h3
  have := bsl_range (fun c => wth ss (c : Int) ((c + (q.2 - q.1) : Nat) : Int)) (q.1 - sld ks ss q 0) (sld ks ss q 0 + sld ks ss q 1) (q.1 - sld ks ss q 0) (q.1 - sld ks ss q 0 + 1) (Nat.le_refl _) (Nat.lt_succ_self _)
  unfold bt
  omega
theorem V_best_loop {h : MH} {ss : List Int} (Rs : RW h 57 ss) (hso : SOK ss) (hlen : ss.length ≤ 28) {z last : Nat} (hz : 1 ≤ z) (hl : last + z ≤ ss.length) : ∀ (n r b c : Nat), b ≤ last → c + r = last + 1 → r < n →
    ∃ x, F_V_bestTop_L45 (z : Int) (last : Int) h n (b : Int) (c : Int) = some (((bsl (fun c => wth ss (c : Int) ((c + z : Nat) : Int)) r b c : Nat) : Int), x) := by
  intro n
  induction n with
  | zero => intro r b c _ _ h2; omega
  | succ n ih =>
    intro r b c h1 h2 h3
    unfold F_V_bestTop_L45
    dsimp only [jn1]
    cases r with
    | zero =>
      rw [if_neg (by omega)]
      exact ⟨_, rfl⟩
    | succ r =>
      have e1 : wr ((c : Int) + (z : Int)) = ((c + z : Nat) : Int) := by rw [wr_id (by omega)]; omega
      have e2 : wr ((b : Int) + (z : Int)) = ((b + z : Nat) : Int) := by rw [wr_id (by omega)]; omega
      have e3 : wr ((c : Int) + 1) = ((c + 1 : Nat) : Int) := by rw [wr_id (by omega)]; omega
      rw [if_pos (by omega), e1, e2, e3, V_worthAt Rs hso hlen (Int.natCast_nonneg _) (by omega) (by omega), V_worthAt Rs hso hlen (Int.natCast_nonneg _) (by omega) (by omega)]
      rw [bsl]
      by_cases hc : wth ss (c : Int) ((c + z : Nat) : Int) < wth ss (b : Int) ((b + z : Nat) : Int)
      · rw [if_pos hc, if_pos hc]
        exact ih r b (c + 1) h1 (by omega) (by omega)
      · rw [if_neg hc, if_neg hc]
        exact ih r c (c + 1) (by omega) (by omega) (by omega)
theorem V_bestTop {h : MH} {ks ss : List Int} {H : HL} (V : VC h ks ss H) (hso : SOK ss) {k : Nat} {q : Nat × Nat} (hq : H[k]? = some q) : F_V_bestTop (k : Int) h = some ((bt ks ss q : Nat) : Int) := by
  obtain ⟨a1, a2, a3, a4, a5⟩ := V.q hq
  have s := sld_le (ks := ks) hso q a1 a3 a4
  unfold F_V_bestTop
  rw [V_reach V hso hq, ob1_s, V_reach V hso hq, ob1_s, V_top V hq, V_end V hq]
  have b0 : q.2 - q.1 ≤ 100000 ∧ q.1 + sld ks ss q 1 ≤ 100000 ∧ 1 ≤ q.2 - q.1 ∧ q.1 + sld ks ss q 1 + (q.2 - q.1) ≤ ss.length ∧ q.1 - sld ks ss q 0 ≤ q.1 + sld ks ss q 1 ∧ q.1 - sld ks ss q 0 + 1 + (sld ks ss q 0 + sld ks ss q 1) = q.1 + sld ks ss q 1 + 1 ∧ sld ks ss q 0 + sld ks ss q 1 < 1000 := by omega
  obtain ⟨x, f⟩ := V_best_loop V.2.1 hso a4 (z := q.2 - q.1) (last := q.1 + sld ks ss q 1) b0.2.2.1 b0.2.2.2.1 FUEL (sld ks ss q 0 + sld ks ss q 1) (q.1 - sld ks ss q 0) (q.1 - sld ks ss q 0 + 1) b0.2.2.2.2.1 b0.2.2.2.2.2.1 b0.2.2.2.2.2.2
  rw [wr_n (z := (q.2 : Int) - (q.1 : Int)) (q.2 - q.1) (by omega) (by omega), wr_n (z := (q.1 : Int) + ((sld ks ss q 1 : Nat) : Int)) (q.1 + sld ks ss q 1) (by omega) (by omega), wr_n (z := (q.1 : Int) - ((sld ks ss q 0 : Nat) : Int)) (q.1 - sld ks ss q 0) (by omega) (by omega), wr_n (z := ((q.1 - sld ks ss q 0 : Nat) : Int) + 1) (q.1 - sld ks ss q 0 + 1) (by omega) (by omega)]
  rw [f]
  rfl
/-- places that become one value -/
def fill (v : Int) (l : List Int) (a : Nat) : Nat → List Int
  | 0 => l
  | n + 1 => (fill v l a n).set (a + n) v
theorem fill_len (v : Int) (l : List Int) (a : Nat) : ∀ n, (fill v l a n).length = l.length := by
  intro n
  induction n with
  | zero => rfl
  | succ n ih => rw [fill, lset_len, ih]
theorem fill_get (v : Int) (l : List Int) (a : Nat) : ∀ (n p : Nat), (fill v l a n).getD p (-1) = if a ≤ p ∧ p < a + n ∧ p < l.length then v else l.getD p (-1) := by
  intro n
  induction n with
  | zero => intro p; rw [fill, if_neg (by omega)]
  | succ n ih =>
    intro p
    rw [fill, List.getD_eq_getElem?_getD, List.getElem?_set, fill_len]
    by_cases h1 : a + n = p
    · rw [if_pos h1]
      by_cases h2 : a + n < l.length
      · rw [if_pos h2, if_pos (by omega)]; rfl
      · rw [if_neg h2, if_neg (by omega), List.getD_eq_getElem?_getD, List.getElem?_eq_none (by omega)]
    · rw [if_neg h1, ← List.getD_eq_getElem?_getD, ih]
      by_cases h2 : a ≤ p ∧ p < a + n ∧ p < l.length
      · rw [if_pos h2, if_pos (by omega)]
      · rw [if_neg h2, if_neg (by omega)]
/-- a hunk is moved: its places become kept ones, then those from b on come or go -/
def mv (ks : List Int) (q : Nat × Nat) (b : Nat) : List Int := fill (ks.getD q.1 (-1)) (fill 0 ks q.1 (q.2 - q.1)) b (q.2 - q.1)
theorem mv_len (ks : List Int) (q : Nat × Nat) (b : Nat) : (mv ks q b).length = ks.length := by unfold mv; rw [fill_len, fill_len]
theorem mv_get (ks : List Int) (q : Nat × Nat) (b p : Nat) (h1 : q.1 < q.2) (h2 : q.2 ≤ ks.length) : (mv ks q b).getD p (-1) = if b ≤ p ∧ p < b + (q.2 - q.1) ∧ p < ks.length then ks.getD q.1 (-1) else if q.1 ≤ p ∧ p < q.2 then 0 else ks.getD p (-1) := by
  unfold mv
  rw [fill_get, fill_len, fill_get]
  split
  · rfl
  · by_cases h3 : q.1 ≤ p ∧ p < q.2
    · rw [if_pos (by omega), if_pos h3]
    · rw [if_neg (by omega), if_neg h3]
theorem V_move0 {h0 : MH} {H : HL} {k : Nat} {q : Nat × Nat} (hq : H[k]? = some q) {x2 x3 x4 : Int} (v : Int) {ks : List Int} (hqk : q.2 ≤ ks.length) (hlen : ks.length ≤ 28) : ∀ (n m : Nat) (h : MH), RW h 55 (fill 0 ks q.1 m) → RW h 61 (ends H) → q.1 + m ≤ q.2 → q.2 < q.1 + m + n →
    ∃ h' x, F_V_moveTo_L35 (k : Int) x2 x3 x4 n ((q.1 + m : Nat) : Int) h = some (x, h') ∧ RW h' 55 (fill 0 ks q.1 (q.2 - q.1)) ∧ FR [55, 56] h h' := by
  intro n
  induction n with
  | zero => intro m h _ _ h1 h2; omega
  | succ n ih =>
    intro m h R R2 h1 h2
    unfold F_V_moveTo_L35 F_V_end
    rw [R2.at, ends_lg hq]
    by_cases hc : q.1 + m < q.2
    · rw [if_pos (lt_int hc)]
      obtain ⟨A, B⟩ := Ro_change R ((q.1 + m : Nat) : Int) 0 (Int.natCast_nonneg _) (by rw [fill_len]; omega)
      rw [nn] at A
      have e1 : wr (((q.1 + m : Nat) : Int) + 1) = ((q.1 + (m + 1) : Nat) : Int) := by rw [wr_id (by omega)]; omega
      rw [e1]
      obtain ⟨h', x, g1, g2, g3⟩ := ih (m + 1) _ A (R2.off B rfl (by omega)) (by omega) (by omega)
      exact ⟨h', x, g1, g2, B.tr g3⟩
    · rw [if_neg (nlt_int hc)]
      refine ⟨h, _, rfl, ?_, FR.rf _ _⟩
      rw [show q.2 - q.1 = m by omega]
      exact R
theorem V_move1 {x1 x2 : Int} {l : List Int} (v : Int) {a e : Nat} (he : e ≤ l.length) (hlen : l.length ≤ 28) : ∀ (n m : Nat) (h : MH), RW h 55 (fill v l a m) → a + m ≤ e → e < a + m + n →
    ∃ h' x, F_V_moveTo_L64 x1 x2 v (e : Int) n ((a + m : Nat) : Int) h = some (x, h') ∧ RW h' 55 (fill v l a (e - a)) ∧ FR [55, 56] h h' := by
  intro n
  induction n with
  | zero => intro m h _ h1 h2; omega
  | succ n ih =>
    intro m h R h1 h2
    unfold F_V_moveTo_L64
    by_cases hc : a + m < e
    · rw [if_pos (lt_int hc)]
      obtain ⟨A, B⟩ := Ro_change R ((a + m : Nat) : Int) v (Int.natCast_nonneg _) (by rw [fill_len]; omega)
      rw [nn] at A
      have e1 : wr (((a + m : Nat) : Int) + 1) = ((a + (m + 1) : Nat) : Int) := by rw [wr_id (by omega)]; omega
      rw [e1]
      obtain ⟨h', x, g1, g2, g3⟩ := ih (m + 1) _ A (by omega) (by omega)
      exact ⟨h', x, g1, g2, B.tr g3⟩
    · rw [if_neg (nlt_int hc)]
      refine ⟨h, _, rfl, ?_, FR.rf _ _⟩
      rw [show e - a = m by omega]
      exact R
theorem tops_set (H : HL) (k : Nat) (q : Nat × Nat) : tops (H.set k q) = (tops H).set k (q.1 : Int) := by unfold tops; rw [List.map_set]
theorem ends_set (H : HL) (k : Nat) (q : Nat × Nat) : ends (H.set k q) = (ends H).set k (q.2 : Int) := by unfold ends; rw [List.map_set]
/-- nothing comes or goes on the way to the new place, and directly beyond it, but for the hunk itself -/
def free (ks : List Int) (q : Nat × Nat) (b : Nat) : Prop := b + (q.2 - q.1) ≤ ks.length ∧ ∀ p, (b ≤ p + 1 ∨ q.1 ≤ p + 1) → (p ≤ b + (q.2 - q.1) ∨ p ≤ q.2) → (p < q.1 ∨ q.2 ≤ p) → ¬ kz ks p
theorem mv_kz {ks : List Int} {q : Nat × Nat} {b : Nat} (h1 : q.1 < q.2) (h2 : q.2 ≤ ks.length) (hk : kz ks q.1) (hb : b + (q.2 - q.1) ≤ ks.length) (p : Nat) : kz (mv ks q b) p ↔ (b ≤ p ∧ p < b + (q.2 - q.1)) ∨ (kz ks p ∧ ¬ (q.1 ≤ p ∧ p < q.2)) := by
  unfold kz at hk ⊢
  rw [mv_get ks q b p h1 h2]
  by_cases c1 : b ≤ p ∧ p < b + (q.2 - q.1) ∧ p < ks.length
  · rw [if_pos c1]
    exact ⟨fun _ => Or.inl ⟨c1.1, c1.2.1⟩, fun _ => hk⟩
  · rw [if_neg c1]
    by_cases c2 : q.1 ≤ p ∧ p < q.2
    · rw [if_pos c2]
      constructor
      · intro z; exact absurd z (by decide)
      · rintro (z | z)
        · omega
        · exact absurd c2 z.2
    · rw [if_neg c2]
      constructor
      · intro z; exact Or.inr ⟨z, c2⟩
      · rintro (z | z)
        · omega
        · exact z.1
theorem HSP.move {ks : List Int} {H : HL} (hs : HSP ks H) {k : Nat} {q : Nat × Nat} (hq : H[k]? = some q) {b : Nat} (hf : free ks q b) : HSP (mv ks q b) (H.set k (b, b + (q.2 - q.1))) := by
  have hm := List.mem_of_getElem? hq
  have a1 := hs.1.2 q hm
  have a2 := hs.2.1 q hm
  have hkl := (List.getElem?_eq_some_iff.mp hq).1
  have hkz : kz ks q.1 := hs.inn hm q.1 (Nat.le_refl _) a1
  -- other hunks stay clear of the new place
  have clear : ∀ (j : Nat) (r : Nat × Nat), H[j]? = some r → (j < k → r.2 < b) ∧ (k < j → b + (q.2 - q.1) < r.1) := by
    intro j r hr
    have hrm := List.mem_of_getElem? hr
    have r1 := hs.1.2 r hrm
    constructor
    · intro hlt
      have h1 := hs.1.lt hr hq hlt
      rcases Nat.lt_or_ge r.2 b with c | c
      · exact c
      · exact absurd (hs.inn hrm (r.2 - 1) (by omega) (by omega)) (hf.2 (r.2 - 1) (Or.inl (by omega)) (Or.inr (by omega)) (Or.inl (by omega)))
    · intro hlt
      have h1 := hs.1.lt hq hr hlt
      rcases Nat.lt_or_ge (b + (q.2 - q.1)) r.1 with c | c
      · exact c
      · exact absurd (hs.inn hrm r.1 (Nat.le_refl _) r1) (hf.2 r.1 (Or.inr (by omega)) (Or.inl c) (Or.inr (by omega)))
  have hget : ∀ (j : Nat) (r : Nat × Nat), (H.set k (b, b + (q.2 - q.1)))[j]? = some r → (j = k ∧ r = (b, b + (q.2 - q.1))) ∨ (j ≠ k ∧ H[j]? = some r) := by
    intro j r hr
    rw [List.getElem?_set] at hr
    by_cases hjk : k = j
    · rw [if_pos hjk, if_pos hkl] at hr
      exact Or.inl ⟨hjk.symm, (Option.some.inj hr).symm⟩
    · rw [if_neg hjk] at hr
      exact Or.inr ⟨fun z => hjk z.symm, hr⟩
  have hset : ∀ (j : Nat) (r : Nat × Nat), j ≠ k → H[j]? = some r → (H.set k (b, b + (q.2 - q.1)))[j]? = some r := by
    intro j r hjk hr
    rw [List.getElem?_set, if_neg (fun z => hjk z.symm)]
    exact hr
  have hsetk : (H.set k (b, b + (q.2 - q.1)))[k]? = some (b, b + (q.2 - q.1)) := by
    rw [List.getElem?_set, if_pos rfl, if_pos hkl]
  refine ⟨⟨?_, ?_⟩, ?_, ?_⟩
  · rw [List.pairwise_iff_getElem]
    intro i j hi hj hij
    rcases hget i _ (List.getElem?_eq_getElem hi) with ⟨x1, x2⟩ | ⟨x1, x2⟩ <;> rcases hget j _ (List.getElem?_eq_getElem hj) with ⟨y1, y2⟩ | ⟨y1, y2⟩
    · omega
    · rw [x2]; exact (clear j _ y2).2 (by omega)
    · rw [y2]; exact (clear i _ x2).1 (by omega)
    · exact hs.1.lt x2 y2 hij
  · intro r hr
    obtain ⟨j, hj⟩ := List.getElem?_of_mem hr
    rcases hget j r hj with ⟨_, rfl⟩ | ⟨_, x2⟩
    · show b < b + (q.2 - q.1); omega
    · exact hs.1.2 r (List.mem_of_getElem? x2)
  · intro r hr
    rw [mv_len]
    obtain ⟨j, hj⟩ := List.getElem?_of_mem hr
    rcases hget j r hj with ⟨_, rfl⟩ | ⟨_, x2⟩
    · exact hf.1
    · exact hs.2.1 r (List.mem_of_getElem? x2)
  · intro p
    rw [mv_kz a1 a2 hkz hf.1]
    constructor
    · rintro (z | ⟨z1, z2⟩)
      · exact ⟨_, List.mem_of_getElem? hsetk, z⟩
      · obtain ⟨r, hr, r1, r2⟩ := (hs.2.2 p).mp z1
        obtain ⟨j, hj⟩ := List.getElem?_of_mem hr
        have hjk : j ≠ k := by
          intro e
          subst e
          rw [hq] at hj
          cases hj
          exact z2 ⟨r1, r2⟩
        exact ⟨r, List.mem_of_getElem? (hset j r hjk hj), r1, r2⟩
    · rintro ⟨r, hr, r1, r2⟩
      obtain ⟨j, hj⟩ := List.getElem?_of_mem hr
      rcases hget j r hj with ⟨_, rfl⟩ | ⟨x1, x2⟩
      · exact Or.inl ⟨r1, r2⟩
      · right
        refine ⟨hs.inn (List.mem_of_getElem? x2) p r1 r2, fun z => ?_⟩
        rcases Nat.lt_or_gt_of_ne x1 with c | c
        · have := hs.1.lt x2 hq c; omega
        · have := hs.1.lt hq x2 c; omega

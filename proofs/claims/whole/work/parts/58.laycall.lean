/-! ===== to lay ===== -/
theorem pt_mem {ks ss : List Int} {k : Int} {a : Nat} : ∀ (n : Nat), a + n ≤ ss.length → ∀ x ∈ pt ks ss k a n, x ∈ ss := by
  intro n
  induction n with
  | zero => intro _ x hx; cases hx
  | succ n ih =>
    intro h x hx
    rw [pt] at hx
    rcases List.mem_append.mp hx with hx | hx
    · exact ih (by omega) x hx
    · by_cases c : ks.getD (a + n) (-1) = k
      · rw [if_pos c] at hx; cases hx
      · rw [if_neg c] at hx
        have e : x = ss.getD (a + n) (-1) := by simpa using hx
        have hl : a + n < ss.length := by omega
        rw [e, List.getD_eq_getElem?_getD, List.getElem?_eq_getElem hl]
        exact List.getElem_mem hl
def GS (S : LayS) : Prop := (∀ x ∈ S.1, 0 ≤ x ∧ x ≤ 8) ∧ (S.1.length : Int) ≤ imax 14 S.2.2.2.2.1
theorem GS_lst {ks ss : List Int} {H : HL} (hs : HSP ks H) (hk : KOK ks) (hl : ks.length = ss.length) (hss : ∀ x ∈ ss, 0 ≤ x ∧ x ≤ 8) {most : Nat} {dn : Int} {k : Nat} {S : LayS} (G : GS S) : GS (lst ks ss H most dn k S) := by
  unfold lst
  cases hq : H[k]? with
  | none => exact G
  | some q =>
    dsimp only
    by_cases c : fP ks ss H most dn k q S = -4
    · rw [if_pos c]
      exact G
    · rw [if_neg c]
      have pf := part_facts (ss := ss) hs hk hq most (sA dn) (sRA dn).2
      have hm := List.mem_of_getElem? hq
      have a1 := hs.1.2 q hm
      refine ⟨fun x hx => ?_, ?_⟩
      · have hx : x ∈ rp S.1 (fP ks ss H most dn k q S).toNat (oP ks ss H most dn k q).length (iP ks ss H most dn k q) := hx
        unfold rp at hx
        rcases List.mem_append.mp hx with hx | hx
        · exact G.1 x (List.mem_of_mem_take hx)
        · rcases List.mem_append.mp hx with hx | hx
          · unfold iP at hx
            exact hss x (pt_mem _ (by omega) x hx)
          · exact G.1 x (List.mem_of_mem_drop hx)
      · show ((rp S.1 (fP ks ss H most dn k q S).toNat (oP ks ss H most dn k q).length (iP ks ss H most dn k q)).length : Int) ≤ imax 14 (imax S.2.2.2.2.1 ((rp S.1 (fP ks ss H most dn k q S).toNat (oP ks ss H most dn k q).length (iP ks ss H most dn k q)).length : Int))
        have x1 := imax_le2 14 (imax S.2.2.2.2.1 ((rp S.1 (fP ks ss H most dn k q S).toNat (oP ks ss H most dn k q).length (iP ks ss H most dn k q)).length : Int))
        have x2 := imax_le2 S.2.2.2.2.1 ((rp S.1 (fP ks ss H most dn k q S).toNat (oP ks ss H most dn k q).length (iP ks ss H most dn k q)).length : Int)
        exact Int.le_trans x2 x1
theorem GS_lsn {ks ss : List Int} {H : HL} (hs : HSP ks H) (hk : KOK ks) (hl : ks.length = ss.length) (hss : ∀ x ∈ ss, 0 ≤ x ∧ x ≤ 8) {most : Nat} {dn : Int} : ∀ (n k : Nat) (S : LayS), GS S → GS (lsn ks ss H most dn n k S) := by
  intro n
  induction n with
  | zero => intro k S G; exact G
  | succ n ih =>
    intro k S G
    rw [lsn]
    exact ih (k + 1) _ (GS_lst hs hk hl hss G)
theorem M_lay_loop {T : List Int} (hT : T.length ≤ 14) {r : Int} : ∀ (n i : Nat) (h : MH), h 76 13 = (T.length : Int) → (∀ p, p < T.length → h 84 p = T.getD p (-1)) → i ≤ T.length → T.length < i + n →
    ∃ h', F_M_lay_L44 r n (i : Int) h = some ((T.length : Int), h') ∧ (∀ j, h' 77 j = if 31 + i ≤ j ∧ j < 31 + T.length then T.getD (j - 31) (-1) else h 77 j) ∧ FR [77] h h' := by
  intro n
  induction n with
  | zero => intro i h _ _ h1 h2; omega
  | succ n ih =>
    intro i h m1 m2 h1 h2
    unfold F_M_lay_L44
    rw [m1]
    by_cases hi : i < T.length
    · have e1 : wr ((i : Int) + 1) = ((i + 1 : Nat) : Int) := by rw [wr_id (by omega)]; omega
      have e2 : wr (31 + (i : Int)) = ((31 + i : Nat) : Int) := by rw [wr_id (by omega)]; omega
      have g1 : 0 ≤ (i : Int) ∧ (i : Int) < 60 := by omega
      have g2 : 0 ≤ ((31 + i : Nat) : Int) ∧ ((31 + i : Nat) : Int) < 49 := by omega
      rw [if_pos (lt_int hi), gd_pos g1, e2, gd_pos g2, e1, nn, nn, m2 i hi]
      obtain ⟨h', a, b, c⟩ := ih (i + 1) (up h 77 (31 + i) (T.getD i (-1))) (by rw [up_ne (by decide)]; exact m1) (fun p hp => by rw [up_ne (by decide)]; exact m2 p hp) (by omega) (by omega)
      refine ⟨h', a, fun j => ?_, (FR.up (by simp)).tr c⟩
      rw [b, up_if]
      by_cases c1 : 31 + i ≤ j ∧ j < 31 + T.length
      · rw [if_pos c1]
        by_cases c2 : 31 + (i + 1) ≤ j ∧ j < 31 + T.length
        · rw [if_pos c2]
        · have ej : j = 31 + i := by omega
          have ex : j - 31 = i := by omega
          rw [if_neg c2, if_pos ej, ex]
      · rw [if_neg c1, if_neg (by omega), if_neg (by omega)]
    · rw [if_neg (nlt_int hi)]
      have : i = T.length := by omega
      subst this
      exact ⟨h, rfl, fun j => by rw [if_neg (by omega)], FR.rf _ _⟩
theorem LR_lo : ∀ x ∈ LR, x < 76 := by decide
/-- the state behind a laying -/
def layG (g : SG) (S : LayS) (n : Int) : SG := (g.1, g.2.1, S.1, g.2.2.2.1, g.2.2.2.2.1, wr (g.2.2.2.2.2.1 + S.2.2.2.1), wr (g.2.2.2.2.2.2 + wr (n - S.2.2.2.1)))
theorem step_lay {h : MH} {pad : List Int} {g : SG} {hist : List SG} {sv : Option SG} (C : CR h pad g hist sv) (og : OKg g) (oh : OKh hist) (p1 : Int) :
    STEP (F_X_lay p1) (F_M_lay p1) h pad g hist sv pad g hist sv ∨ ∃ g', OKg g' ∧ STEP (F_X_lay p1) (F_M_lay p1) h pad g hist sv pad g' (hpush hist g) sv := by
  obtain ⟨h1, H, f1, hs0, V, hk, w1⟩ := X_show C og
  have sf := shw_facts og hs0
  have hs := V.2.2.2.2.2.1
  have h28 := V.2.2.2.2.2.2.2
  have h14 := hs.len14 h28
  have main := count_main og (pad := pad) (hist := hist) (sv := sv) hs0
  have most : g.2.2.2.1 = ((g.2.2.2.1).toNat : Int) := by have := og.2.2.2.1; omega
  have set0 : F_St_setting 3 0 h1 = ((g.2.2.2.1).toNat : Int) := by
    rw [← most]
    unfold F_St_setting
    rw [if_pos rfl, w1 3 (by decide)]; exact C.2.1.2.2.2.2.1
  obtain ⟨h3, f3, L3, I3, w3⟩ := X_lay_all C og V hk hs0 w1 (g.2.2.2.1).toNat p1
  have gs : GS (lay (shw g H).1 (vss g.1 g.2.1) (shw g H).2 (g.2.2.2.1).toNat p1 g.2.2.1) := by
    unfold lay
    refine GS_lsn sf.1 sf.2.1 sf.2.2.1 (vss_ok og.1 og.2.1) _ _ _ ⟨og.2.2.1.2, ?_⟩
    have := imax_le1 14 (0 : Int)
    have o2 := og.2.2.1.1
    show (g.2.2.1.length : Int) ≤ imax 14 0
    omega
  have hM0 : ∀ hm, MRR hm pad g hist sv → ∃ hm1 hm2, F_M_views hm = some hm1 ∧ hm1 77 45 = ((g.2.2.2.1).toNat : Int) ∧ F_M_lays p1 ((g.2.2.2.1).toNat : Int) hm1 = some ((lay (shw g H).1 (vss g.1 g.2.1) (shw g H).2 (g.2.2.2.1).toNat p1 g.2.2.1).2.2.2.1, hm2) ∧ LMM hm2 (lay (shw g H).1 (vss g.1 g.2.1) (shw g H).2 (g.2.2.2.1).toNat p1 g.2.2.1) ∧ MV2 hm2 (shw g H).1 (vss g.1 g.2.1) ∧ FZ hm hm2 := by
    intro hm hh
    obtain ⟨hm1, a1, V2, a3, mr⟩ := main hm hh
    obtain ⟨hm2, b1, b2, b3⟩ := M_lays og mr.1 V2 sf.2.1 sf.1 (g.2.2.2.1).toNat p1 (sf.2.2.2.2 (sR p1) (sRA p1).1)
    refine ⟨hm1, hm2, a1, mr.1.2.2.2.1.trans most, b1, b2, ?_, a3.tr b3.z⟩
    obtain ⟨v1, v2, v3, v4, v5⟩ := V2
    refine ⟨by rw [b3 76 11 (by decide) (by decide) (by decide) (by decide)]; exact v1, v2, v3, fun p hp => by rw [b3 83 p (by decide) (by decide) (by decide) (fun z => absurd z.1 (by decide))]; exact v4 p hp, fun p hp => by rw [b3 82 p (by decide) (by decide) (by decide) (fun z => absurd z.1 (by decide))]; exact v5 p hp⟩
  generalize hS : lay (shw g H).1 (vss g.1 g.2.1) (shw g H).2 (g.2.2.2.1).toNat p1 g.2.2.1 = S at *
  have C3 : CR h3 pad g hist sv := (C.fr w1 (by decide)).fr w3 (by decide)
  have eL : F_La_longest h3 = S.2.2.2.2.1 := L3.2.2.2.2.1
  by_cases c : S.2.2.2.2.1 ≤ 14
  · have oS : OKt S.1 := by
      refine ⟨?_, gs.1⟩
      have := gs.2
      unfold imax at this
      split at this <;> omega
    obtain ⟨h6, f6, a6, w6⟩ := Hi_record C3.2.2.1 C3.2.1
    have C6 := C3.rec w6 a6
    have R6 : RW h6 66 S.1 := L3.1.fr w6 (by decide) (by decide)
    obtain ⟨h8, f8, R8, w8⟩ := Ro_become (o := 8) (p := 66) rfl R6 (by decide) (by show _ ≤ 14; exact oS.1)
    have C8 : CR h8 pad (setT g 2 S.1) (hpush hist g) sv := C6.setT (t := 2) (by decide) R8 w8
    have lh : F_La_laid h8 = S.2.2.2.1 := by
      unfold F_La_laid
      rw [w8 65 (by decide), w6 65 (by decide)]
      exact L3.2.2.2.1
    have hh8 : F_V_hunks h8 = ((shw g H).2.length : Int) := by
      unfold F_V_hunks
      have R59 : RW h8 59 (tops (shw g H).2) := ((V.2.2.1.fr w3 (by decide) (by decide)).fr w6 (by decide) (by decide)).fr w8 (by decide) (by decide)
      rw [R59.size, tops_len]
    obtain ⟨c1, ⟨d0, d1, d2, d3, d4, d5, d6, d7⟩, c3, c4, c5⟩ := C8
    have e5 : up h8 3 5 (wr (h8 3 5 + S.2.2.2.1)) 3 6 = g.2.2.2.2.2.2 := by rw [up_other (by decide)]; exact d7
    have e6 : h8 3 5 = g.2.2.2.2.2.1 := d6
    have F8 : FR [3] h8 (up (up h8 3 5 (wr (g.2.2.2.2.2.1 + S.2.2.2.1))) 3 6 (wr (g.2.2.2.2.2.2 + wr (((shw g H).2.length : Int) - S.2.2.2.1)))) := (FR.up (by decide)).tr (FR.up (by decide))
    refine Or.inr ⟨layG g S ((shw g H).2.length : Int), ⟨og.1, og.2.1, oS, og.2.2.2⟩, S.2.2.2.1, up (up h8 3 5 (wr (g.2.2.2.2.2.1 + S.2.2.2.1))) 3 6 (wr (g.2.2.2.2.2.2 + wr (((shw g H).2.length : Int) - S.2.2.2.1))), ?_, ⟨c1.fr F8 (by decide) (by decide), ⟨d0, d1.fr F8 (by decide) (by decide), d2.fr F8 (by decide) (by decide), d3.fr F8 (by decide) (by decide), by rw [up_other (by decide), up_other (by decide)]; exact d4, by rw [up_other (by decide), up_other (by decide)]; exact d5, by rw [up_other (by decide), up_at]; rfl, by rw [up_at]; rfl⟩, c3.fr F8 (by decide), by rw [F8 0 (by decide)]; exact c4, fun q hq => (c5 q hq).fr F8 (by decide)⟩, fun i hi => ?_, fun hm hh => ?_⟩
    · unfold F_X_lay F_St_addPatches
      rw [f1, ob1_s, set0, f3, ob1_s, eL, if_pos c, f6, ob1_s, show F_St_text 3 2 = 8 by decide, f8, ob1_s, lh, hh8, e5, e6]
      have e7 : F_La_laid (up (up h8 3 5 (wr (g.2.2.2.2.2.1 + S.2.2.2.1))) 3 6 (wr (g.2.2.2.2.2.2 + wr (((shw g H).2.length : Int) - S.2.2.2.1)))) = S.2.2.2.1 := by
        rw [← lh]
        unfold F_La_laid
        rw [up_ne (by decide), up_ne (by decide)]
      rw [e7]
    · rw [F8 i (by simp; omega), w8 i (by simp; omega), w6 i (fun z => by have := HS_lo i z; omega), w3 i (fun z => by have := LR_lo i z; omega), SCR_hi w1 i hi]
    · obtain ⟨hm1, hm2, a1, a2, b1, ⟨⟨b2, b3, b4⟩, -, -, b5⟩, V2, wz⟩ := hM0 hm hh
      have M2 := wz.mrr hh
      obtain ⟨hm3, g1, N1, r1⟩ := M_remembers (hist := hist) (g := g) M2.2.1 M2.1 oh og
      have MR3 := M2.rec r1 N1
      have t13 : hm3 76 13 = (S.1.length : Int) := by rw [r1 76 13 (by decide) (by decide)]; exact b3
      obtain ⟨hm4, q1, q2, q3⟩ := M_lay_loop oS.1 (r := S.2.2.2.1) FUEL 0 (up hm3 77 30 (S.1.length : Int)) (by rw [up_ne (by decide)]; exact t13) (fun p hp => by rw [up_ne (by decide), r1 84 p (by decide) (fun z => absurd z.1 (by decide))]; exact b2 p hp) (Nat.zero_le _) (by have := oS.1; rw [FUEL_eq]; omega)
      rw [show ((0 : Nat) : Int) = 0 from rfl] at q1
      have W : FR [77] hm3 hm4 := (FR.up (by simp)).tr q3
      have S4 : SM (hm4 77) (setT g 2 S.1) := by
        refine MR3.1.setT og (t := 2) (by decide) ?_ (fun p hp => ?_) (fun j hj => ?_)
        · rw [q2, if_neg (by omega), up_at]
        · have ex : 15 * 2 + 1 + p - 31 = p := by omega
          rw [q2, if_pos (by omega), ex]
        · have l14 := oS.1
          rw [q2, if_neg (by omega), up_other (by omega)]
      have x47 : hm4 77 47 = g.2.2.2.2.2.1 := S4.2.2.2.2.2.1
      have x48 : hm4 77 48 = g.2.2.2.2.2.2 := S4.2.2.2.2.2.2
      have V4 : MV2 (up hm4 77 47 (wr (g.2.2.2.2.2.1 + S.2.2.2.1))) (shw g H).1 (vss g.1 g.2.1) := by
        obtain ⟨v1, v2, v3, v4, v5⟩ := V2
        refine ⟨by rw [up_ne (by decide), W 76 (by decide), r1 76 11 (by decide) (by decide)]; exact v1, v2, v3, fun p hp => by rw [up_ne (by decide), W 83 (by decide), r1 83 p (by decide) (fun z => absurd z.1 (by decide))]; exact v4 p hp, fun p hp => by rw [up_ne (by decide), W 82 (by decide), r1 82 p (by decide) (fun z => absurd z.1 (by decide))]; exact v5 p hp⟩
      have e48 : up hm4 77 47 (wr (g.2.2.2.2.2.1 + S.2.2.2.1)) 77 48 = g.2.2.2.2.2.2 := by rw [up_other (by decide)]; exact x48
      have S5 : SM (up (up hm4 77 47 (wr (g.2.2.2.2.2.1 + S.2.2.2.1))) 77 48 (wr (g.2.2.2.2.2.2 + wr (((shw g H).2.length : Int) - S.2.2.2.1))) 77) (layG g S ((shw g H).2.length : Int)) := by
        obtain ⟨⟨a1, a2⟩, ⟨b1, b2⟩, ⟨c1, c2⟩, d1, d2, d3, d4⟩ := S4
        have l0 := og.1.1
        have l1 := og.2.1.1
        have l2 := oS.1
        have u : ∀ j, j < 47 → up (up hm4 77 47 (wr (g.2.2.2.2.2.1 + S.2.2.2.1))) 77 48 (wr (g.2.2.2.2.2.2 + wr (((shw g H).2.length : Int) - S.2.2.2.1))) 77 j = hm4 77 j := fun j hj => by rw [up_other (by omega), up_other (by omega)]
        exact ⟨⟨by rw [u 0 (by decide)]; exact a1, fun p hp => by have hp' : p < g.1.length := hp; rw [u _ (by omega)]; exact a2 p hp⟩, ⟨by rw [u 15 (by decide)]; exact b1, fun p hp => by have hp' : p < g.2.1.length := hp; rw [u _ (by omega)]; exact b2 p hp⟩, ⟨by rw [u 30 (by decide)]; exact c1, fun p hp => by have hp' : p < S.1.length := hp; rw [u _ (by omega)]; exact c2 p hp⟩, by rw [u 45 (by decide)]; exact d1, by rw [u 46 (by decide)]; exact d2, by rw [up_other (by decide), up_at]; rfl, by rw [up_at]; rfl⟩
      refine ⟨up (up hm4 77 47 (wr (g.2.2.2.2.2.1 + S.2.2.2.1))) 77 48 (wr (g.2.2.2.2.2.2 + wr (((shw g H).2.length : Int) - S.2.2.2.1))), ?_, MR3.set77 S5 (W.tr ((FR.up (by simp)).tr (FR.up (by simp)))), fun i hi => ?_⟩
      · unfold F_M_lay
        rw [a1, ob1_s, a2, b1, ob2_s, b5, if_pos c, if_pos rfl, g1, ob1_s, t13, q1, ob2_s, x47, M_hunks V4 hk hs, ob1_s, e48]
      · rw [up_ne (by omega), up_ne (by omega), W i (by simp; omega)]
        exact (funext fun y => r1 i y (by omega) (fun z => by omega)).trans (wz.lo i hi)
  · refine Or.inl ⟨-3, h3, ?_, C3, fun i hi => ?_, fun hm hh => ?_⟩
    · unfold F_X_lay
      rw [f1, ob1_s, set0, f3, ob1_s, eL, if_neg c]
    · rw [w3 i (fun z => by have := LR_lo i z; omega), SCR_hi w1 i hi]
    · obtain ⟨hm1, hm2, a1, a2, b1, ⟨-, -, -, b5⟩, V2, wz⟩ := hM0 hm hh
      refine ⟨hm2, ?_, wz.mrr hh, wz.lo⟩
      unfold F_M_lay
      rw [a1, ob1_s, a2, b1, ob2_s, b5, if_neg c, if_neg one_ne]

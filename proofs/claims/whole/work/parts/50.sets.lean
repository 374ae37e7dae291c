/-! ===== a setting ===== -/
theorem SM_set {hm : MH} {g : SG} (H : SM (hm 77) g) (og : OKg g) (v : Int) : SM (up hm 77 45 v 77) (g.1, g.2.1, g.2.2.1, v, g.2.2.2.2) := by
  obtain ⟨⟨a1, a2⟩, ⟨b1, b2⟩, ⟨c1, c2⟩, d1, d2, d3, d4⟩ := H
  have l0 := og.1.1
  have l1 := og.2.1.1
  have l2 := og.2.2.1.1
  have u : ∀ j, j ≠ 45 → up hm 77 45 v 77 j = hm 77 j := fun j hj => up_other (fun z => hj z.2)
  exact ⟨⟨by rw [u 0 (by decide)]; exact a1, fun p hp => by have hp' : p < g.1.length := hp; rw [u _ (by omega)]; exact a2 p hp⟩, ⟨by rw [u 15 (by decide)]; exact b1, fun p hp => by have hp' : p < g.2.1.length := hp; rw [u _ (by omega)]; exact b2 p hp⟩, ⟨by rw [u 30 (by decide)]; exact c1, fun p hp => by have hp' : p < g.2.2.1.length := hp; rw [u _ (by omega)]; exact c2 p hp⟩, by rw [up_at], by rw [u 46 (by decide)]; exact d2, by rw [u 47 (by decide)]; exact d3, by rw [u 48 (by decide)]; exact d4⟩
theorem step_set0 {h : MH} {pad : List Int} {g : SG} {hist : List SG} {sv : Option SG} (C : CR h pad g hist sv) (og : OKg g) (oh : OKh hist) {p2 : Int} (hp : 0 ≤ p2 ∧ p2 ≤ 3) : STEP (F_X_set 0 p2) (F_M_set 0 p2) h pad g hist sv pad (g.1, g.2.1, g.2.2.1, p2, g.2.2.2.2) (hpush hist g) sv := by
  obtain ⟨h1, f1, a1, w1⟩ := Hi_record C.2.2.1 C.2.1
  obtain ⟨c1, ⟨d0, d1, d2, d3, d4, d5, d6, d7⟩, c3, c4, c5⟩ := C.rec w1 a1
  have F : FR [3] h1 (up h1 3 3 p2) := FR.up (by simp)
  refine ⟨g.2.2.2.1, up h1 3 3 p2, ?_, ⟨c1.fr F (by decide) (by decide), ⟨d0, d1.fr F (by decide) (by decide), d2.fr F (by decide) (by decide), d3.fr F (by decide) (by decide), by rw [up_at], by rw [up_other (by decide)]; exact d5, by rw [up_other (by decide)]; exact d6, by rw [up_other (by decide)]; exact d7⟩, c3.fr F (by decide), by rw [F 0 (by decide)]; exact c4, fun q hq => (c5 q hq).fr F (by decide)⟩, fun i hi => ?_, fun hm hh => ?_⟩
  · unfold F_X_set F_St_setting F_St_changeSetting
    rw [jk1_p, if_pos rfl, if_neg (by omega), jn1_p, if_pos rfl, if_pos hp.2, f1, ob1_s, if_pos rfl, if_pos rfl, d4]
  · rw [up_ne (by omega), w1 i (fun z => by have := HS_lo i z; omega)]
  · obtain ⟨hm1, g1, M1, r1⟩ := M_remembers (hist := hist) (g := g) hh.2.1 hh.1 oh og
    obtain ⟨m1, m2, m3, m4, m5⟩ := hh.rec r1 M1
    refine ⟨up hm1 77 45 p2, ?_, ⟨SM_set m1 og p2, ⟨by rw [up_ne (by decide)]; exact m2.1, m2.2.1, by rw [up_ne (by decide)]; exact m2.2.2⟩, ⟨by rw [up_ne (by decide)]; exact m3.1, by rw [up_ne (by decide)]; exact m3.2⟩, ⟨by rw [up_ne (by decide)]; exact m4.1, m4.2.1, by rw [up_ne (by decide)]; exact m4.2.2⟩, by rw [up_ne (by decide)]; exact m5⟩, fun i hi => ?_⟩
    · unfold F_M_set
      rw [M_in_1 (by decide), if_neg (show ¬ (1 : Int) = 0 by decide), jn1_p, if_pos rfl, M_in_1 hp, if_neg (show ¬ (1 : Int) = 0 by decide), g1, ob1_s, show wr (45 + (0 : Int)) = 45 by decide, gd_pos (by decide), gd_pos (by decide)]
      exact congrArg (fun z => some (z, up hm1 77 45 p2)) m1.2.2.2.1
    · rw [up_ne (by omega)]
      exact funext fun y => r1 i y (by omega) (fun z => by omega)
theorem SM_set1 {hm : MH} {g : SG} (H : SM (hm 77) g) (og : OKg g) (v : Int) : SM (up hm 77 46 v 77) (g.1, g.2.1, g.2.2.1, g.2.2.2.1, v, g.2.2.2.2.2) := by
  obtain ⟨⟨a1, a2⟩, ⟨b1, b2⟩, ⟨c1, c2⟩, d1, d2, d3, d4⟩ := H
  have l0 := og.1.1
  have l1 := og.2.1.1
  have l2 := og.2.2.1.1
  have u : ∀ j, j ≠ 46 → up hm 77 46 v 77 j = hm 77 j := fun j hj => up_other (fun z => hj z.2)
  exact ⟨⟨by rw [u 0 (by decide)]; exact a1, fun p hp => by have hp' : p < g.1.length := hp; rw [u _ (by omega)]; exact a2 p hp⟩, ⟨by rw [u 15 (by decide)]; exact b1, fun p hp => by have hp' : p < g.2.1.length := hp; rw [u _ (by omega)]; exact b2 p hp⟩, ⟨by rw [u 30 (by decide)]; exact c1, fun p hp => by have hp' : p < g.2.2.1.length := hp; rw [u _ (by omega)]; exact c2 p hp⟩, by rw [u 45 (by decide)]; exact d1, by rw [up_at], by rw [u 47 (by decide)]; exact d3, by rw [u 48 (by decide)]; exact d4⟩
theorem step_set1 {h : MH} {pad : List Int} {g : SG} {hist : List SG} {sv : Option SG} (C : CR h pad g hist sv) (og : OKg g) (oh : OKh hist) {p2 : Int} (hp : 0 ≤ p2 ∧ p2 ≤ 1) : STEP (F_X_set 1 p2) (F_M_set 1 p2) h pad g hist sv pad (g.1, g.2.1, g.2.2.1, g.2.2.2.1, p2, g.2.2.2.2.2) (hpush hist g) sv := by
  obtain ⟨h1, f1, a1, w1⟩ := Hi_record C.2.2.1 C.2.1
  obtain ⟨c1, ⟨d0, d1, d2, d3, d4, d5, d6, d7⟩, c3, c4, c5⟩ := C.rec w1 a1
  have F : FR [3] h1 (up h1 3 4 p2) := FR.up (by simp)
  have z1 : ¬ (1 : Int) = 0 := by decide
  refine ⟨g.2.2.2.2.1, up h1 3 4 p2, ?_, ⟨c1.fr F (by decide) (by decide), ⟨d0, d1.fr F (by decide) (by decide), d2.fr F (by decide) (by decide), d3.fr F (by decide) (by decide), by rw [up_other (by decide)]; exact d4, by rw [up_at], by rw [up_other (by decide)]; exact d6, by rw [up_other (by decide)]; exact d7⟩, c3.fr F (by decide), by rw [F 0 (by decide)]; exact c4, fun q hq => (c5 q hq).fr F (by decide)⟩, fun i hi => ?_, fun hm hh => ?_⟩
  · unfold F_X_set F_St_setting F_St_changeSetting
    rw [jk1_p, if_neg z1, if_pos rfl, if_neg (by omega), jn1_p, if_neg z1, if_pos hp.2, f1, ob1_s, if_neg z1, if_neg z1, d5]
  · rw [up_ne (by omega), w1 i (fun z => by have := HS_lo i z; omega)]
  · obtain ⟨hm1, g1, M1, r1⟩ := M_remembers (hist := hist) (g := g) hh.2.1 hh.1 oh og
    obtain ⟨m1, m2, m3, m4, m5⟩ := hh.rec r1 M1
    refine ⟨up hm1 77 46 p2, ?_, ⟨SM_set1 m1 og p2, ⟨by rw [up_ne (by decide)]; exact m2.1, m2.2.1, by rw [up_ne (by decide)]; exact m2.2.2⟩, ⟨by rw [up_ne (by decide)]; exact m3.1, by rw [up_ne (by decide)]; exact m3.2⟩, ⟨by rw [up_ne (by decide)]; exact m4.1, m4.2.1, by rw [up_ne (by decide)]; exact m4.2.2⟩, by rw [up_ne (by decide)]; exact m5⟩, fun i hi => ?_⟩
    · unfold F_M_set
      rw [M_in_1 (by decide), if_neg z1, jn1_p, if_neg z1, M_in_1 hp, if_neg z1, g1, ob1_s, show wr (45 + (1 : Int)) = 46 by decide, gd_pos (by decide), gd_pos (by decide)]
      exact congrArg (fun z => some (z, up hm1 77 46 p2)) m1.2.2.2.2.1
    · rw [up_ne (by omega)]
      exact funext fun y => r1 i y (by omega) (fun z => by omega)
theorem step_set_no {h : MH} {pad : List Int} {g : SG} {hist : List SG} {sv : Option SG} (C : CR h pad g hist sv) {p1 p2 : Int} (hn : ¬ ((p1 = 0 ∧ 0 ≤ p2 ∧ p2 ≤ 3) ∨ (p1 = 1 ∧ 0 ≤ p2 ∧ p2 ≤ 1))) : STEP (F_X_set p1 p2) (F_M_set p1 p2) h pad g hist sv pad g hist sv := by
  have z1 : ¬ (1 : Int) = 0 := by decide
  refine ⟨-1, h, ?_, C, fun _ _ => rfl, fun hm hh => ⟨hm, ?_, hh, fun _ _ => rfl⟩⟩
  · unfold F_X_set
    rw [jk1_p]
    by_cases c0 : p1 = 0
    · rw [if_pos c0]
      by_cases c : p2 < 0
      · rw [if_pos c]
      · rw [if_neg c, jn1_p, if_pos c0, if_neg (by omega)]
    · rw [if_neg c0]
      by_cases c1 : p1 = 1
      · rw [if_pos c1]
        by_cases c : p2 < 0
        · rw [if_pos c]
        · rw [if_neg c, jn1_p, if_neg c0, if_neg (by omega)]
      · rw [if_neg c1]
  · unfold F_M_set
    by_cases c0 : p1 = 0
    · rw [M_in_1 (by omega), if_neg z1, jn1_p, if_pos c0, M_in_0 (by omega), if_pos rfl]
    · by_cases c1 : p1 = 1
      · rw [M_in_1 (by omega), if_neg z1, jn1_p, if_neg c0, M_in_0 (by omega), if_pos rfl]
      · rw [M_in_0 (by omega), if_pos rfl]

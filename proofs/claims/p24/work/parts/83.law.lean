/-! ===== the law's body answers 1 ===== -/
theorem TO.go2 {x : Option (Int × MH)} {Q1 : MH → Prop} (a : TO x (fun h' => ((1 : Int), h')) Q1) {β : Type} {K : Int → MH → Option β} {f : MH → β} {Q : MH → Prop} (hk : ∀ h', Q1 h' → TO (K 1 h') f Q) : TO (ob2 x K) f Q := by
  obtain ⟨h', e, q⟩ := a
  have e' : x = some ((1 : Int), h') := e
  rw [e', ob2_s]
  exact hk h' q
theorem TO.mono {β : Type} {x : Option β} {f : MH → β} {Q1 Q : MH → Prop} (a : TO x f Q1) (hq : ∀ h', Q1 h' → Q h') : TO x f Q := by
  obtain ⟨h', e, q⟩ := a
  exact ⟨h', e, hq h' q⟩
section LAWB
variable {β : Type} {f : MH → β} {Q : MH → Prop} {h : MH}
theorem lw_opt {c : Prop} [Decidable c] {x : Option (Int × MH)} {K N : MH → Option β} (hx : TO x (fun h' => ((1 : Int), h')) LAWI) (hh : LAWI h) (hk : ∀ h', LAWI h' → TO (K h') f Q) :
    TO (jk1 K (fun kj => if c then (ob2 x (fun (r : Int) (h5 : MH) => if r = 0 then N h5 else kj h5)) else kj h)) f Q := by
  rw [jk1_q]
  by_cases d : c
  · rw [if_pos d]
    refine hx.go2 (fun h1 J1 => ?_)
    rw [if_neg one_ne]
    exact hk h1 J1
  · rw [if_neg d]
    exact hk h hh
theorem lw_optj {c : Prop} [Decidable c] {s : Int} {x : Int → Option (Int × MH)} {K N : MH → Option β} (hx : TO (x s) (fun h' => ((1 : Int), h')) LAWI) (hh : LAWI h) (hk : ∀ h', LAWI h' → TO (K h') f Q) :
    TO (jk1 K (fun kj => if c then (jn1 s (fun (s30 : Int) => ob2 (x s30) (fun (r : Int) (h5 : MH) => if r = 0 then N h5 else kj h5))) else kj h)) f Q := by
  rw [jk1_q]
  by_cases d : c
  · rw [if_pos d, jn1_q]
    refine hx.go2 (fun h1 J1 => ?_)
    rw [if_neg one_ne]
    exact hk h1 J1
  · rw [if_neg d]
    exact hk h hh
theorem J_isView (J : LAWI h) : TO (F_L_isView h) (fun h' => ((1 : Int), h')) LAWI := by
  obtain ⟨g, hist, sv, I, n⟩ := J
  exact (L_isView I).mono (fun h' I' => ⟨g, hist, sv, I', n⟩)
theorem J_isLaid (J : LAWI h) (dn : Int) : TO (F_L_isLaid dn h) (fun h' => ((1 : Int), h')) LAWI := by
  obtain ⟨g, hist, sv, I, n⟩ := J
  exact (L_isLaid I n.2 dn).mono (fun h' I' => by obtain ⟨hist', I'⟩ := I'; exact ⟨g, hist', some g, I', n⟩)
theorem J_isLeast (J : LAWI h) : TO (F_L_isLeast h) (fun h' => ((1 : Int), h')) LAWI := by
  obtain ⟨g, hist, sv, I, n⟩ := J
  exact (L_isLeast I).mono (fun h' I' => by obtain ⟨hist', I'⟩ := I'; exact ⟨g, hist', sv, I', n⟩)
theorem lw_hunk {c : Prop} [Decidable c] (J : LAWI h) (y : Int) {K : Int → MH → Option β} (hk : ∀ h', LAWI h' → TO (K 1 h') f Q) :
    TO (ob2 (F_X_count 7 h) (fun (r9 : Int) (h10 : MH) => jk2 K (fun kj16 => jk1 (fun (h12 : MH) => kj16 1 h12) (fun kj13 => if r9 = 0 then (kj13 h10) else (if c then (ob1 (F_L_low y r9) (fun (r42 : Int) => ob2 (F_L_isHunk r42 h10) (fun (r44 : Int) (h45 : MH) => if r44 = 0 then (kj16 0 h45) else (kj13 h45)))) else (kj13 h10)))))) f Q := by
  obtain ⟨g, hist, sv, I, n⟩ := J
  obtain ⟨ks, H, W⟩ := vwg_ex I
  have V := W.vf I.og
  have h14 := V.1.len14 V.2.2.2.1
  refine (q_c7 I W).go (fun h1 I1 => ?_)
  rw [jk2_q, jk1_q]
  by_cases c0 : (H.length : Int) = 0
  · rw [if_pos c0]
    exact hk h1 ⟨g, hist, sv, I1, n⟩
  · rw [if_neg c0]
    by_cases d : c
    · rw [if_pos d]
      obtain ⟨k, e, hkl⟩ := low_ok y (d := H.length) (by omega) (by omega)
      rw [e, ob1_s]
      refine (L_isHunk I1 W (List.getElem?_eq_getElem hkl)).go2 (fun h2 I2 => ?_)
      rw [if_neg one_ne]
      exact hk h2 ⟨g, hist, sv, I2, n⟩
    · rw [if_neg d]
      exact hk h1 ⟨g, hist, sv, I1, n⟩
end LAWB
theorem law_loop (xs : Nat → Int32) (nn : Nat) : ∀ (m fuel p : Nat) (h : MH), p + m = 60 → m < fuel → LAWI h → TO (F_L_law_L64 xs nn fuel (p : Int) h) (fun h' => Sum.inr ((60 : Int), h')) LAWI := by
  intro m
  induction m with
  | zero =>
    intro fuel p h hp hf J
    obtain ⟨fuel, rfl⟩ : ∃ n, fuel = n + 1 := ⟨fuel - 1, by omega⟩
    have e : p = 60 := by omega
    subst e
    rw [F_L_law_L64, if_neg (by omega)]
    exact ⟨h, rfl, J⟩
  | succ m ih =>
    intro fuel p h hp hf J
    obtain ⟨fuel, rfl⟩ : ∃ n, fuel = n + 1 := ⟨fuel - 1, by omega⟩
    have pm : p + 1 ≤ 1000 ∧ p + 1 + m = 60 ∧ m < fuel ∧ (p : Int) < 60 ∧ 0 ≤ (p : Int) := by omega
    rw [F_L_law_L64, if_pos pm.2.2.2.1, gd_pos pm.2.2.2.2]
    refine (L_does _ J).go2 (fun h1 J1 => ?_)
    rw [if_neg one_ne]
    refine lw_opt (J_isView J1) J1 (fun h2 J2 => ?_)
    refine lw_hunk J2 _ (fun h3 J3 => ?_)
    rw [if_neg one_ne]
    refine lw_optj (x := fun s30 => F_L_isLaid s30 h3) (J_isLaid J3 _) J3 (fun h4 J4 => ?_)
    refine lw_opt (J_isLeast J4) J4 (fun h5 J5 => ?_)
    rw [wr_p1 pm.1]
    exact ih fuel (p + 1) h5 pm.2.1 pm.2.2.1 J5
/-! the world as the constructor leaves it -/
def HZ : MH := ini 0 76 (fun _ _ => 0)
theorem HZ_at {a : Nat} (ha : a < 76) : HZ a = H0 a := by
  funext k
  unfold HZ ini
  rw [if_neg (Nat.not_lt_zero a), if_pos ha]
def g00 : SG := ([], [], [], 1, 0, 0, 0)
theorem okg0 : OKg g00 := by
  have z : OKt [] := ⟨by decide, fun x hx => by cases hx⟩
  exact ⟨z, z, z, by decide, by decide⟩
theorem INV_0 : INV HZ g00 [] none := by
  have rw0 : ∀ o, kd o = 5 → HZ o 1 = 0 → RW HZ o [] := fun o ho h1 => ⟨ho, h1, Nat.zero_le _, fun p hp => absurd hp (Nat.not_lt_zero _)⟩
  exact ⟨[], ⟨rw0 1 rfl (by decide), ⟨rfl, rw0 4 rfl (by decide), rw0 6 rfl (by decide), rw0 8 rfl (by decide), by decide, by decide, by decide, by decide⟩, ⟨by decide, by decide, fun k q hq => by cases hq⟩, by decide, fun q hq => by cases hq⟩, okg0, fun q hq => (by cases hq), fun q hq => (by cases hq)⟩
theorem law_1 (xs : Nat → Int32) (nn : Nat) : ∃ h', F_L_law xs nn HZ = some ((1 : Int), h') := by
  have I := INV_0
  have key : TO (F_L_law xs nn HZ) (fun h' => ((1 : Int), h')) (fun _ => True) := by
    unfold F_L_law
    refine (L_isView I).go2 (fun h1 I1 => ?_)
    rw [if_neg one_ne]
    refine (q_c14 I1).go (fun h2 I2 => ?_)
    rw [if_pos (show g00.2.2.2.1 = 1 from rfl)]
    refine (q_c15 I2).go (fun h3 I3 => ?_)
    rw [if_pos (show g00.2.2.2.2.1 = 0 from rfl)]
    refine (q_undo_none I3).go (fun h4 I4 => ?_)
    rw [if_pos rfl]
    refine (q_restore_none I4).go (fun h5 I5 => ?_)
    rw [if_pos rfl]
    obtain ⟨ks, H, W⟩ := vwg_ex I5
    have V := W.vf I5.og
    have t0 := V.2.2.2.2.2.1.2.2
    have kb := kp_b g00.1 g00.2.1 0 0
    have hl := V.1.1.len V.1.2.1
    have e1 : (g00.1.length : Int) = 0 := rfl
    have e2 : (g00.2.1.length : Int) = 0 := rfl
    have hH : H = [] := List.eq_nil_of_length_eq_zero (by omega)
    subst hH
    obtain ⟨y1, y2⟩ := q_lay I5 W 1 (S := S0 []) rfl
    obtain ⟨a, oS⟩ := y1 (by show (0 : Int) ≤ 14; decide)
    refine a.go (fun h6 I6 => ?_)
    rw [if_pos (by show (0 : Int) = 0; rfl)]
    obtain ⟨h7, e7, J7⟩ := law_loop xs nn 60 FUEL 0 h6 rfl (by rw [FUEL_eq]; decide) ⟨_, _, _, I6, ⟨(show inR (wr (g00.2.2.2.2.2.1 + (S0 []).2.2.2.1)) from inR_wr _), (show inR (wr (g00.2.2.2.2.2.2 + wr ((([] : HL).length : Int) - (S0 []).2.2.2.1))) from inR_wr _)⟩⟩
    have e7' : F_L_law_L64 xs nn FUEL 0 h6 = some (Sum.inr ((60 : Int), h7)) := e7
    rw [e7', os_r]
    exact ⟨h7, rfl, trivial⟩
  obtain ⟨h', e, -⟩ := key
  exact ⟨h', e⟩

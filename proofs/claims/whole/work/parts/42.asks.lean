/-! ===== askings about the view: both answer alike ===== -/
def FZ (h h' : MH) : Prop := ∀ a b, a ≠ 81 → a ≠ 82 → a ≠ 83 → a ≠ 84 → a ≠ 85 → a ≠ 86 → ¬ (a = 76 ∧ (b = 11 ∨ b = 13 ∨ b = 16)) → h' a b = h a b
theorem FZ.rf (h : MH) : FZ h h := fun _ _ _ _ _ _ _ _ _ => rfl
theorem FZ.tr {h1 h2 h3 : MH} (a : FZ h1 h2) (b : FZ h2 h3) : FZ h1 h3 := fun x y p q r s t u v => (b x y p q r s t u v).trans (a x y p q r s t u v)
theorem FW.z {h h' : MH} (F : FW h h') : FZ h h' := fun a b x1 x2 x3 _ _ _ x7 => F a b x1 x2 x3 (fun z => x7 ⟨z.1, Or.inl z.2⟩)
theorem FY.z {h h' : MH} (F : FY h h') : FZ h h' := fun a b _ _ _ x4 x5 x6 x7 => F a b x4 x5 x6 (fun z => x7 ⟨z.1, Or.inr z.2⟩)
theorem FZ.row {h h' : MH} (F : FZ h h') {a : Nat} (h1 : a ≠ 76) (h2 : a < 81) : h' a = h a := funext fun b => F a b (by omega) (by omega) (by omega) (by omega) (by omega) (by omega) (fun z => h1 z.1)
theorem FZ.mrr {h h' : MH} {pad : List Int} {g : SG} {hist : List SG} {sv : Option SG} (F : FZ h h') (M : MRR h pad g hist sv) : MRR h' pad g hist sv := by
  obtain ⟨m1, ⟨m2, m3, m4⟩, ⟨m5, m6⟩, ⟨m7, m8, m9⟩, m10⟩ := M
  have r77 := F.row (a := 77) (by decide) (by decide)
  have r78 := F.row (a := 78) (by decide) (by decide)
  have r79 := F.row (a := 79) (by decide) (by decide)
  have r80 := F.row (a := 80) (by decide) (by decide)
  have s76 : ∀ b, ¬ (b = 11 ∨ b = 13 ∨ b = 16) → h' 76 b = h 76 b := fun b hb => F 76 b (by decide) (by decide) (by decide) (by decide) (by decide) (by decide) (fun z => hb z.2)
  exact ⟨by rw [r77]; exact m1, ⟨by rw [s76 2 (by decide)]; exact m2, m3, by rw [r78]; exact m4⟩, ⟨by rw [s76 4 (by decide)]; exact m5, by rw [r79]; exact m6⟩, ⟨by rw [s76 6 (by decide)]; exact m7, m8, by rw [r80]; exact m9⟩, by rw [s76 8 (by decide)]; exact m10⟩
/-- the system answers, and so does the reference wherever it holds the same -/
def SIM (X M : MH → Option (Int × MH)) (h : MH) (pad : List Int) (g : SG) (hist : List SG) (sv : Option SG) : Prop :=
  ∃ r h', X h = some (r, h') ∧ FR SCR h h' ∧ ∀ hm, MRR hm pad g hist sv → ∃ hm', M hm = some (r, hm') ∧ FZ hm hm'
theorem sim_flat {X M : MH → Option (Int × MH)} {h : MH} {pad : List Int} {g : SG} {hist : List SG} {sv : Option SG} (r : Int) (hX : X h = some (r, h)) (hM : ∀ hm, MRR hm pad g hist sv → M hm = some (r, hm)) : SIM X M h pad g hist sv := ⟨r, h, hX, FR.rf _ _, fun hm hh => ⟨hm, hM hm hh, FZ.rf _⟩⟩
theorem M_in_c (a b c : Int) : F_M_in a b c = if b ≤ a ∧ a ≤ c then 1 else 0 := by
  by_cases h : b ≤ a ∧ a ≤ c
  · rw [M_in_1 h, if_pos h]
  · rw [M_in_0 h, if_neg h]
theorem sim_whyNot {h : MH} {pad : List Int} {g : SG} {hist : List SG} {sv : Option SG} (C : CR h pad g hist sv) (og : OKg g) (p1 p2 : Int) : SIM (F_X_whyNot p1 p2) (F_M_whyNot p1 p2) h pad g hist sv := by
  obtain ⟨h1, H, f1, hs0, V, hk, w1⟩ := X_show C og
  have hso := sok_of og.1 og.2.1
  have hs := V.2.2.2.2.2.1
  have h28 := V.2.2.2.2.2.2.2
  have h14 := hs.len14 h28
  have main : ∀ hm, MRR hm pad g hist sv → ∃ hm', F_M_views hm = some hm' ∧ MV2 hm' (shw g H).1 (vss g.1 g.2.1) ∧ FZ hm hm' := fun hm hh => by
    obtain ⟨hm', a, b, c⟩ := M_views hh og hs0
    exact ⟨hm', a, b, c.z⟩
  unfold SIM F_X_whyNot F_M_whyNot
  rw [f1, ob1_s, V_has V]
  by_cases c : 0 ≤ p1 ∧ p1 < ((shw g H).2.length : Int)
  · rw [if_pos c, if_neg (show ¬ (1 : Int) = 0 by decide)]
    have hkl : p1.toNat < (shw g H).2.length := by omega
    have hq : (shw g H).2[p1.toNat]? = some ((shw g H).2[p1.toNat]'hkl) := List.getElem?_eq_getElem _
    generalize (shw g H).2[p1.toNat]'hkl = q at hq
    have hm2 := List.mem_of_getElem? hq
    have q1 := hs.1.2 q hm2
    have q2 := hs.2.1 q hm2
    have ep : p1 = (p1.toNat : Int) := by omega
    refine ⟨_, h1, rfl, w1, fun hm hh => ?_⟩
    obtain ⟨hm', f2, V2, w2⟩ := main hm hh
    have vq := V.q hq
    have hl := V2.2.1
    refine ⟨hm', ?_, w2⟩
    rw [f2, ob1_s, M_hunks V2 hk hs, ob1_s, wr_id (z := ((shw g H).2.length : Int) - 1) (by omega), M_in_1 (by omega), if_neg (show ¬ (1 : Int) = 0 by decide)]
    generalize p1.toNat = k at *
    subst ep
    rw [M_start V2 hk hs hq, ob1_s, M_isPlain V2 hs hm2, ob1_s]
    unfold F_V_hindrance
    rw [V_isPlain V hq]
    by_cases hp : pl (shw g H).1 q = 0
    · rw [if_pos hp, if_pos hp]
    · rw [if_neg hp, if_neg hp, M_size V2 hs hm2, ob1_s, M_whyNotFrom V2 hso (Int.natCast_nonneg _) (by omega) (by omega), ob1_s, V_top V hq, V_end V hq, V_barAt V.1 V.2.1 (by omega) (by omega)]
      rw [show (q.1 : Int) + ((q.2 - q.1 : Nat) : Int) = (q.2 : Int) by omega]
  · rw [if_neg c, if_pos rfl]
    refine ⟨_, h1, rfl, w1, fun hm hh => ?_⟩
    obtain ⟨hm', f2, V2, w2⟩ := main hm hh
    refine ⟨hm', ?_, w2⟩
    rw [f2, ob1_s, M_hunks V2 hk hs, ob1_s, wr_id (z := ((shw g H).2.length : Int) - 1) (by omega), M_in_0 (by omega), if_pos rfl]
theorem sim_view {h : MH} {pad : List Int} {g : SG} {hist : List SG} {sv : Option SG} (C : CR h pad g hist sv) (og : OKg g) (p1 p2 : Int) : SIM (F_X_view p1 p2) (F_M_view p1 p2) h pad g hist sv := by
  by_cases c1 : p1 < 0
  · exact sim_flat (-1) (by unfold F_X_view; rw [if_pos c1]) (fun hm _ => by unfold F_M_view; rw [if_pos c1])
  · by_cases c2 : 0 ≤ p2 ∧ p2 ≤ 4
    · obtain ⟨h1, H, f1, hs0, V, hk, w1⟩ := X_show C og
      have hs := V.2.2.2.2.2.1
      have h28 := V.2.2.2.2.2.2.2
      have main : ∀ hm, MRR hm pad g hist sv → ∃ hm', F_M_views hm = some hm' ∧ MV2 hm' (shw g H).1 (vss g.1 g.2.1) ∧ FZ hm hm' := fun hm hh => by
        obtain ⟨hm', a, b, c⟩ := M_views hh og hs0
        exact ⟨hm', a, b, c.z⟩
      have ep : p1 = (p1.toNat : Int) := by omega
      generalize p1.toNat = n at ep
      subst ep
      unfold SIM F_X_view
      rw [if_neg c1, if_neg (by omega), if_pos c2.2, f1, ob1_s]
      have es : F_V_size h1 = ((shw g H).1.length : Int) := V.1.size
      rw [es]
      by_cases c3 : n < (shw g H).1.length
      · have gn : 0 ≤ (n : Int) ∧ (n : Int) < 28 := ⟨Int.natCast_nonneg _, by omega⟩
        have ke : F_V_kind (n : Int) h1 = (shw g H).1.getD n (-1) := by unfold F_V_kind; rw [V.1.at, lg_in (Int.natCast_nonneg _), nn]
        have se : F_V_sign (n : Int) h1 = (vss g.1 g.2.1).getD n (-1) := by unfold F_V_sign; rw [V.2.1.at, lg_in (Int.natCast_nonneg _), nn]
        have ah := V_ahead V.1 (p := n) (by omega)
        have lb : ∀ hm', MV2 hm' (shw g H).1 (vss g.1 g.2.1) → ∀ kd, F_M_linesBut 0 (n : Int) kd hm' = some ((n : Int) - cn (shw g H).1 kd 0 n) := fun hm' V2 kd => by
          have := M_linesBut V2 (a := 0) (b := n) (Nat.zero_le _) (by omega) kd
          rw [Nat.sub_zero] at this
          exact this
        rw [if_pos (lt_int c3), ke, se, ah.1, ah.2, ob1_s, ob1_s, V_hunkOf V, ob1_s]
        have fin : ∀ r, (if p2 = 0 then some ((shw g H).1.getD n (-1), h1) else if p2 = 1 then some ((vss g.1 g.2.1).getD n (-1), h1) else if p2 = 2 then (if (shw g H).1.getD n (-1) = 2 then some (-4, h1) else some ((n : Int) - cn (shw g H).1 2 0 n, h1)) else if p2 = 3 then (if (shw g H).1.getD n (-1) = 1 then some (-4, h1) else some ((n : Int) - cn (shw g H).1 1 0 n, h1)) else some (hkO (shw g H).1 (shw g H).2 n, h1)) = some (r, h1) →
            ∀ hm, MRR hm pad g hist sv → ∃ hm', F_M_view (n : Int) p2 hm = some (r, hm') ∧ FZ hm hm' := by
          intro r hr hm hh
          obtain ⟨hm', f2, V2, w2⟩ := main hm hh
          refine ⟨hm', ?_, w2⟩
          unfold F_M_view
          rw [if_neg c1, M_in_1 c2, if_neg (show ¬ (1 : Int) = 0 by decide), f2, ob1_s, V2.1, if_pos (lt_int c3), gd_pos gn, gd_pos gn, gd_pos gn, gd_pos gn, nn, V2.2.2.2.1 _ c3, V2.2.2.2.2 _ c3, lb hm' V2, lb hm' V2, ob1_s, ob1_s, M_hunkAt V2 hk hs c3, ob1_s]
          revert hr
          by_cases d0 : p2 = 0
          · rw [if_pos d0, if_pos d0]; intro hr; cases hr; rfl
          · rw [if_neg d0, if_neg d0]
            by_cases d1 : p2 = 1
            · rw [if_pos d1, if_pos d1]; intro hr; cases hr; rfl
            · rw [if_neg d1, if_neg d1]
              by_cases d2 : p2 = 2
              · rw [if_pos d2, if_pos d2]
                by_cases d : (shw g H).1.getD n (-1) = 2
                · rw [if_pos d, if_pos d]; intro hr; cases hr; rfl
                · rw [if_neg d, if_neg d]; intro hr; cases hr; rfl
              · rw [if_neg d2, if_neg d2]
                by_cases d3 : p2 = 3
                · rw [if_pos d3, if_pos d3]
                  by_cases d : (shw g H).1.getD n (-1) = 1
                  · rw [if_pos d, if_pos d]; intro hr; cases hr; rfl
                  · rw [if_neg d, if_neg d]; intro hr; cases hr; rfl
                · rw [if_neg d3, if_neg d3]; intro hr; cases hr; rfl
        by_cases d0 : p2 = 0
        · rw [if_pos d0]; exact ⟨_, h1, rfl, w1, fin _ (by rw [if_pos d0])⟩
        · rw [if_neg d0]
          by_cases d1 : p2 = 1
          · rw [if_pos d1]; exact ⟨_, h1, rfl, w1, fin _ (by rw [if_neg d0, if_pos d1])⟩
          · rw [if_neg d1]
            by_cases d2 : p2 = 2
            · rw [if_pos d2]
              by_cases d : (shw g H).1.getD n (-1) = 2
              · rw [if_pos d]; exact ⟨_, h1, rfl, w1, fin _ (by rw [if_neg d0, if_neg d1, if_pos d2, if_pos d])⟩
              · rw [if_neg d]; exact ⟨_, h1, rfl, w1, fin _ (by rw [if_neg d0, if_neg d1, if_pos d2, if_neg d])⟩
            · rw [if_neg d2]
              by_cases d3 : p2 = 3
              · rw [if_pos d3]
                by_cases d : (shw g H).1.getD n (-1) = 1
                · rw [if_pos d]; exact ⟨_, h1, rfl, w1, fin _ (by rw [if_neg d0, if_neg d1, if_neg d2, if_pos d3, if_pos d])⟩
                · rw [if_neg d]; exact ⟨_, h1, rfl, w1, fin _ (by rw [if_neg d0, if_neg d1, if_neg d2, if_pos d3, if_neg d])⟩
              · rw [if_neg d3]; exact ⟨_, h1, rfl, w1, fin _ (by rw [if_neg d0, if_neg d1, if_neg d2, if_neg d3])⟩
      · rw [if_neg (nlt_int c3)]
        refine ⟨_, h1, rfl, w1, fun hm hh => ?_⟩
        obtain ⟨hm', f2, V2, w2⟩ := main hm hh
        refine ⟨hm', ?_, w2⟩
        unfold F_M_view
        rw [if_neg c1, M_in_1 c2, if_neg (show ¬ (1 : Int) = 0 by decide), f2, ob1_s, V2.1, if_neg (nlt_int c3)]
    · refine sim_flat (-1) ?_ (fun hm _ => by unfold F_M_view; rw [if_neg c1, M_in_0 c2, if_pos rfl])
      unfold F_X_view
      rw [if_neg c1]
      by_cases c3 : p2 < 0
      · rw [if_pos c3]
      · rw [if_neg c3, if_neg (by omega)]

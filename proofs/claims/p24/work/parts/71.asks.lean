/-! ===== what the class answers: askings ===== -/
def INV (h : MH) (g : SG) (hist : List SG) (sv : Option SG) : Prop := ∃ pad, CR h pad g hist sv ∧ OKg g ∧ OKh hist ∧ ∀ q, sv = some q → OKg q
def VWG (g : SG) (ks : List Int) (H : HL) : Prop := ∃ H0, HSP (vks g.1 g.2.1) H0 ∧ ks = (shw g H0).1 ∧ H = (shw g H0).2
def AK (x : Option (Int × MH)) (r : Int) (g : SG) (hist : List SG) (sv : Option SG) : Prop := ∃ h', x = some (r, h') ∧ INV h' g hist sv
theorem jk1_q {α0 γ β : Type} (f : α0 → γ) (g : (α0 → γ) → β) : jk1 f g = g f := rfl
theorem jk2_q {α0 α1 γ β : Type} (f : α0 → α1 → γ) (g : (α0 → α1 → γ) → β) : jk2 f g = g f := rfl
theorem INV.og {h : MH} {g : SG} {hist : List SG} {sv : Option SG} (I : INV h g hist sv) : OKg g := by
  obtain ⟨pad, C, og, oh, os⟩ := I
  exact og
theorem vwg_ex {h : MH} {g : SG} {hist : List SG} {sv : Option SG} (I : INV h g hist sv) : ∃ ks H, VWG g ks H := by
  obtain ⟨pad, C, og, oh, os⟩ := I
  obtain ⟨h', H1, f, hs1, V, hk, F⟩ := X_show C og
  exact ⟨_, _, H1, hs1, rfl, rfl⟩
theorem show_w {h : MH} {g : SG} {hist : List SG} {sv : Option SG} (I : INV h g hist sv) {ks : List Int} {H : HL} (W : VWG g ks H) : ∃ h', F_X_show h = some h' ∧ VC h' ks (vss g.1 g.2.1) H ∧ KOK ks ∧ FR SCR h h' ∧ INV h' g hist sv ∧ h' 3 3 = g.2.2.2.1 := by
  obtain ⟨pad, C, og, oh, os⟩ := I
  obtain ⟨H0, hs0, rfl, rfl⟩ := W
  obtain ⟨h', H1, f, hs1, V, hk, F⟩ := X_show C og
  have e := HSP.uniq hs0 hs1
  subst e
  exact ⟨h', f, V, hk, F, ⟨pad, C.fr F (by decide), og, oh, os⟩, by rw [F 3 (by decide)]; exact C.2.1.2.2.2.2.1⟩
/-- what is known of the view -/
def VF (g : SG) (ks : List Int) (H : HL) : Prop := HSP ks H ∧ KOK ks ∧ ks.length = (vss g.1 g.2.1).length ∧ ks.length ≤ 28 ∧ SOK (vss g.1 g.2.1) ∧ RDS ks (vss g.1 g.2.1) g.1 g.2.1 ∧ g.1.length ≤ 14 ∧ g.2.1.length ≤ 14
theorem VWG.vf {g : SG} {ks : List Int} {H : HL} (W : VWG g ks H) (og : OKg g) : VF g ks H := by
  obtain ⟨H0, hs0, rfl, rfl⟩ := W
  have a := shw_facts og hs0
  exact ⟨a.1, a.2.1, a.2.2.1, a.2.2.2.1, sok_of og.1 og.2.1, shw_reads og hs0, og.1.1, og.2.1.1⟩
section ASK
variable {h : MH} {g : SG} {hist : List SG} {sv : Option SG} {ks : List Int} {H : HL}

theorem q_c0 (I : INV h g hist sv) : AK (F_X_count 0 h) (g.1.length : Int) g hist sv := by
  have I0 := I
  obtain ⟨pad, C, og, oh, os⟩ := I
  refine ⟨h, ?_, I0⟩
  rw [X_count_text (by decide), show F_St_text 3 0 = 4 by decide, (C.2.1.2.1).size]
theorem q_c1 (I : INV h g hist sv) : AK (F_X_count 1 h) (g.2.1.length : Int) g hist sv := by
  have I0 := I
  obtain ⟨pad, C, og, oh, os⟩ := I
  refine ⟨h, ?_, I0⟩
  rw [X_count_text (by decide), show F_St_text 3 1 = 6 by decide, (C.2.1.2.2.1).size]
theorem q_c2 (I : INV h g hist sv) : AK (F_X_count 2 h) (g.2.2.1.length : Int) g hist sv := by
  have I0 := I
  obtain ⟨pad, C, og, oh, os⟩ := I
  refine ⟨h, ?_, I0⟩
  rw [X_count_text (by decide), show F_St_text 3 2 = 8 by decide, (C.2.1.2.2.2.1).size]
theorem q_c3 (I : INV h g hist sv) (W : VWG g ks H) : AK (F_X_count 3 h) (ks.length : Int) g hist sv := by
  obtain ⟨h1, f1, V, hk, w1, I1, s1⟩ := show_w I W
  exact ⟨h1, X_count_shown (g := g) (by decide) f1 (by unfold F_X_shownNumber; rw [if_pos rfl]; exact congrArg some V.1.size), I1⟩
theorem q_c4 (I : INV h g hist sv) (W : VWG g ks H) : AK (F_X_count 4 h) (cn ks 0 0 ks.length) g hist sv := by
  obtain ⟨h1, f1, V, hk, w1, I1, s1⟩ := show_w I W
  exact ⟨h1, X_count_shown (g := g) (by decide) f1 (by unfold F_X_shownNumber; rw [if_neg (show ¬ (4 : Int) = 3 by decide), if_pos rfl]; rw [V_linesOfKind V.1 V.2.2.2.2.2.2.2]; rfl), I1⟩
theorem q_c5 (I : INV h g hist sv) (W : VWG g ks H) : AK (F_X_count 5 h) (cn ks 1 0 ks.length) g hist sv := by
  obtain ⟨h1, f1, V, hk, w1, I1, s1⟩ := show_w I W
  exact ⟨h1, X_count_shown (g := g) (by decide) f1 (by unfold F_X_shownNumber; rw [if_neg (show ¬ (5 : Int) = 3 by decide), if_neg (show ¬ (5 : Int) = 4 by decide), if_pos rfl]; rw [V_linesOfKind V.1 V.2.2.2.2.2.2.2]; rfl), I1⟩
theorem q_c6 (I : INV h g hist sv) (W : VWG g ks H) : AK (F_X_count 6 h) (cn ks 2 0 ks.length) g hist sv := by
  obtain ⟨h1, f1, V, hk, w1, I1, s1⟩ := show_w I W
  exact ⟨h1, X_count_shown (g := g) (by decide) f1 (by unfold F_X_shownNumber; rw [if_neg (show ¬ (6 : Int) = 3 by decide), if_neg (show ¬ (6 : Int) = 4 by decide), if_neg (show ¬ (6 : Int) = 5 by decide), if_pos rfl]; rw [V_linesOfKind V.1 V.2.2.2.2.2.2.2]; rfl), I1⟩
theorem q_c7 (I : INV h g hist sv) (W : VWG g ks H) : AK (F_X_count 7 h) (H.length : Int) g hist sv := by
  obtain ⟨h1, f1, V, hk, w1, I1, s1⟩ := show_w I W
  exact ⟨h1, X_count_shown (g := g) (by decide) f1 (by unfold F_X_shownNumber; rw [if_neg (show ¬ (7 : Int) = 3 by decide), if_neg (show ¬ (7 : Int) = 4 by decide), if_neg (show ¬ (7 : Int) = 5 by decide), if_neg (show ¬ (7 : Int) = 6 by decide), if_pos rfl]; unfold F_V_hunks; rw [V.2.2.1.size, tops_len]), I1⟩
theorem q_c11 (I : INV h g hist sv) (W : VWG g ks H) : AK (F_X_count 11 h) (lks ks ks.length 0 0 0).1 g hist sv := by
  obtain ⟨h1, f1, V, hk, w1, I1, s1⟩ := show_w I W
  exact ⟨h1, X_count_shown (g := g) (by decide) f1 (by unfold F_X_shownNumber; rw [if_neg (show ¬ (11 : Int) = 3 by decide), if_neg (show ¬ (11 : Int) = 4 by decide), if_neg (show ¬ (11 : Int) = 5 by decide), if_neg (show ¬ (11 : Int) = 6 by decide), if_neg (show ¬ (11 : Int) = 7 by decide), if_neg (show ¬ (11 : Int) = 8 by decide), if_neg (show ¬ (11 : Int) = 9 by decide), if_neg (show ¬ (11 : Int) = 10 by decide)]; rw [V_longestKept V hk]; rfl), I1⟩
theorem q_c12 (I : INV h g hist sv) : AK (F_X_count 12 h) g.2.2.2.2.2.1 g hist sv := by
  have I0 := I
  obtain ⟨pad, C, og, oh, os⟩ := I
  refine ⟨h, ?_, I0⟩
  rw [X_count_held (by decide)]
  refine congrArg (fun z => some (z, h)) ?_
  unfold F_X_heldNumber
  rw [if_pos rfl]
  exact C.2.1.2.2.2.2.2.2.1
theorem q_c13 (I : INV h g hist sv) : AK (F_X_count 13 h) g.2.2.2.2.2.2 g hist sv := by
  have I0 := I
  obtain ⟨pad, C, og, oh, os⟩ := I
  refine ⟨h, ?_, I0⟩
  rw [X_count_held (by decide)]
  refine congrArg (fun z => some (z, h)) ?_
  unfold F_X_heldNumber
  rw [if_neg (show ¬ (13 : Int) = 12 by decide), if_pos rfl]
  exact C.2.1.2.2.2.2.2.2.2
theorem q_c14 (I : INV h g hist sv) : AK (F_X_count 14 h) g.2.2.2.1 g hist sv := by
  have I0 := I
  obtain ⟨pad, C, og, oh, os⟩ := I
  refine ⟨h, ?_, I0⟩
  rw [X_count_held (by decide)]
  refine congrArg (fun z => some (z, h)) ?_
  unfold F_X_heldNumber F_St_setting
  rw [if_neg (show ¬ (14 : Int) = 12 by decide), if_neg (show ¬ (14 : Int) = 13 by decide), if_pos rfl, if_pos rfl]
  exact C.2.1.2.2.2.2.1
theorem q_c15 (I : INV h g hist sv) : AK (F_X_count 15 h) g.2.2.2.2.1 g hist sv := by
  have I0 := I
  obtain ⟨pad, C, og, oh, os⟩ := I
  refine ⟨h, ?_, I0⟩
  rw [X_count_held (by decide)]
  refine congrArg (fun z => some (z, h)) ?_
  unfold F_X_heldNumber F_St_setting
  rw [if_neg (show ¬ (15 : Int) = 12 by decide), if_neg (show ¬ (15 : Int) = 13 by decide), if_neg (show ¬ (15 : Int) = 14 by decide), if_pos rfl, if_neg (show ¬ (1 : Int) = 0 by decide)]
  exact C.2.1.2.2.2.2.2.1
/-- a line of the view -/
def vA (ks ss : List Int) (H : HL) (p : Nat) (w : Int) : Int :=
  if w = 0 then ks.getD p (-1) else if w = 1 then ss.getD p (-1) else if w = 2 then (if ks.getD p (-1) = 2 then -4 else (p : Int) - cn ks 2 0 p) else if w = 3 then (if ks.getD p (-1) = 1 then -4 else (p : Int) - cn ks 1 0 p) else hkO ks H p
theorem q_view (I : INV h g hist sv) (W : VWG g ks H) {p : Nat} (hp : p < ks.length) (w : Int) (hw : 0 ≤ w ∧ w ≤ 4) : AK (F_X_view (p : Int) w h) (vA ks (vss g.1 g.2.1) H p w) g hist sv := by
  obtain ⟨h1, f1, V, hk, w1, I1, s1⟩ := show_w I W
  have h28 := V.2.2.2.2.2.2.2
  refine ⟨h1, ?_, I1⟩
  have ke : F_V_kind (p : Int) h1 = ks.getD p (-1) := by unfold F_V_kind; rw [V.1.at, lgn]
  have se : F_V_sign (p : Int) h1 = (vss g.1 g.2.1).getD p (-1) := by unfold F_V_sign; rw [V.2.1.at, lgn]
  have ah := V_ahead V.1 (p := p) (by omega)
  have es : F_V_size h1 = (ks.length : Int) := V.1.size
  unfold F_X_view vA
  rw [if_neg (by omega), if_neg (by omega), if_pos hw.2, f1, ob1_s, es, if_pos (lt_int hp), ke, se, ah.1, ah.2, ob1_s, ob1_s, V_hunkOf V, ob1_s]
  by_cases d0 : w = 0
  · rw [if_pos d0, if_pos d0]
  · rw [if_neg d0, if_neg d0]
    by_cases d1 : w = 1
    · rw [if_pos d1, if_pos d1]
    · rw [if_neg d1, if_neg d1]
      by_cases d2 : w = 2
      · rw [if_pos d2, if_pos d2]
        split <;> rfl
      · rw [if_neg d2, if_neg d2]
        by_cases d3 : w = 3
        · rw [if_pos d3, if_pos d3]
          split <;> rfl
        · rw [if_neg d3, if_neg d3]
theorem q_view_out (I : INV h g hist sv) (W : VWG g ks H) {p : Nat} (hp : ks.length ≤ p) (w : Int) (hw : 0 ≤ w ∧ w ≤ 4) : AK (F_X_view (p : Int) w h) (-4) g hist sv := by
  obtain ⟨h1, f1, V, hk, w1, I1, s1⟩ := show_w I W
  refine ⟨h1, ?_, I1⟩
  have es : F_V_size h1 = (ks.length : Int) := V.1.size
  unfold F_X_view
  rw [if_neg (by omega), if_neg (by omega), if_pos hw.2, f1, ob1_s, es, if_neg (by omega)]
theorem q_line0 (I : INV h g hist sv) {p : Int} (h0 : 0 ≤ p) : F_X_line 0 p h = if p < (g.1.length : Int) then lg g.1 p else -4 := by
  obtain ⟨pad, C, og, oh, os⟩ := I
  unfold F_X_line F_X_isText
  rw [if_neg (show ¬ (0 : Int) < 0 by decide), if_pos (show (0 : Int) ≤ 2 by decide), if_neg (show ¬ (1 : Int) = 0 by decide), if_neg (by omega), (X_text C).1.size, (X_text C).1.at]
theorem q_line1 (I : INV h g hist sv) {p : Int} (h0 : 0 ≤ p) : F_X_line 1 p h = if p < (g.2.1.length : Int) then lg g.2.1 p else -4 := by
  obtain ⟨pad, C, og, oh, os⟩ := I
  unfold F_X_line F_X_isText
  rw [if_neg (show ¬ (1 : Int) < 0 by decide), if_pos (show (1 : Int) ≤ 2 by decide), if_neg (show ¬ (1 : Int) = 0 by decide), if_neg (by omega), (X_text C).2.1.size, (X_text C).2.1.at]
theorem q_line2 (I : INV h g hist sv) {p : Int} (h0 : 0 ≤ p) : F_X_line 2 p h = if p < (g.2.2.1.length : Int) then lg g.2.2.1 p else -4 := by
  obtain ⟨pad, C, og, oh, os⟩ := I
  unfold F_X_line F_X_isText
  rw [if_neg (show ¬ (2 : Int) < 0 by decide), if_pos (show (2 : Int) ≤ 2 by decide), if_neg (show ¬ (1 : Int) = 0 by decide), if_neg (by omega), (X_text C).2.2.size, (X_text C).2.2.at]
theorem q_now (I : INV h g hist sv) : AK (F_X_distanceNow h) (dst g.1 g.2.1) g hist sv := by
  obtain ⟨pad, C, og, oh, os⟩ := I
  obtain ⟨h', f, F⟩ := X_now C og
  exact ⟨h', f, pad, C.fr F (by decide), og, oh, os⟩
theorem q_dist0 (I : INV h g hist sv) : AK (F_X_distance 0 h) (dst g.1 g.2.1) g hist sv := by
  obtain ⟨h', f, I1⟩ := q_now I
  unfold F_X_distance
  rw [if_pos rfl, f, ob2_s]
  exact ⟨h', rfl, I1⟩
theorem q_h0 (I : INV h g hist sv) (W : VWG g ks H) {k : Nat} {q : Nat × Nat} (hq : H[k]? = some q) : AK (F_X_hunk (k : Int) 0 h) (q.1 : Int) g hist sv := by
  have og := I.og
  obtain ⟨h1, f1, V, hk, w1, I1, s1⟩ := show_w I W
  have hso := sok_of og.1 og.2.1
  have hkl : k < H.length := (List.getElem?_eq_some_iff.mp hq).1
  refine ⟨h1, ?_, I1⟩
  unfold F_X_hunk
  rw [if_neg (show ¬ (0 : Int) < 0 by decide), if_pos (show (0 : Int) ≤ 9 by decide), f1, ob1_s, V_has V, if_pos (show 0 ≤ (k : Int) ∧ (k : Int) < (H.length : Int) by omega), if_neg (show ¬ (1 : Int) = 0 by decide), if_pos rfl, V_top V hq]
theorem q_h1 (I : INV h g hist sv) (W : VWG g ks H) {k : Nat} {q : Nat × Nat} (hq : H[k]? = some q) : AK (F_X_hunk (k : Int) 1 h) (cn ks 1 q.1 (q.2 - q.1)) g hist sv := by
  have og := I.og
  obtain ⟨h1, f1, V, hk, w1, I1, s1⟩ := show_w I W
  have hso := sok_of og.1 og.2.1
  have hkl : k < H.length := (List.getElem?_eq_some_iff.mp hq).1
  refine ⟨h1, ?_, I1⟩
  unfold F_X_hunk
  rw [if_neg (show ¬ (1 : Int) < 0 by decide), if_pos (show (1 : Int) ≤ 9 by decide), f1, ob1_s, V_has V, if_pos (show 0 ≤ (k : Int) ∧ (k : Int) < (H.length : Int) by omega), if_neg (show ¬ (1 : Int) = 0 by decide), if_neg (show ¬ (1 : Int) = 0 by decide), if_pos rfl, V_linesOf V.1 V.2.2.1 V.2.2.2.1 V.2.2.2.2.2.1 V.2.2.2.2.2.2.2 hq, ob1_s]
theorem q_h2 (I : INV h g hist sv) (W : VWG g ks H) {k : Nat} {q : Nat × Nat} (hq : H[k]? = some q) : AK (F_X_hunk (k : Int) 2 h) (cn ks 2 q.1 (q.2 - q.1)) g hist sv := by
  have og := I.og
  obtain ⟨h1, f1, V, hk, w1, I1, s1⟩ := show_w I W
  have hso := sok_of og.1 og.2.1
  have hkl : k < H.length := (List.getElem?_eq_some_iff.mp hq).1
  refine ⟨h1, ?_, I1⟩
  unfold F_X_hunk
  rw [if_neg (show ¬ (2 : Int) < 0 by decide), if_pos (show (2 : Int) ≤ 9 by decide), f1, ob1_s, V_has V, if_pos (show 0 ≤ (k : Int) ∧ (k : Int) < (H.length : Int) by omega), if_neg (show ¬ (1 : Int) = 0 by decide), if_neg (show ¬ (2 : Int) = 0 by decide), if_neg (show ¬ (2 : Int) = 1 by decide), if_pos rfl, V_linesOf V.1 V.2.2.1 V.2.2.2.1 V.2.2.2.2.2.1 V.2.2.2.2.2.2.2 hq, ob1_s]
theorem q_h3 (I : INV h g hist sv) (W : VWG g ks H) {k : Nat} {q : Nat × Nat} (hq : H[k]? = some q) : AK (F_X_hunk (k : Int) 3 h) (pl ks q) g hist sv := by
  have og := I.og
  obtain ⟨h1, f1, V, hk, w1, I1, s1⟩ := show_w I W
  have hso := sok_of og.1 og.2.1
  have hkl : k < H.length := (List.getElem?_eq_some_iff.mp hq).1
  refine ⟨h1, ?_, I1⟩
  unfold F_X_hunk
  rw [if_neg (show ¬ (3 : Int) < 0 by decide), if_pos (show (3 : Int) ≤ 9 by decide), f1, ob1_s, V_has V, if_pos (show 0 ≤ (k : Int) ∧ (k : Int) < (H.length : Int) by omega), if_neg (show ¬ (1 : Int) = 0 by decide), if_neg (show ¬ (3 : Int) = 0 by decide), if_neg (show ¬ (3 : Int) = 1 by decide), if_neg (show ¬ (3 : Int) = 2 by decide), if_pos rfl, V_isPlain V hq]
  rcases pl_01 ks q with e | e
  · rw [e, if_pos rfl]
  · rw [e, if_neg (show ¬ (1 : Int) = 0 by decide)]
theorem q_h4 (I : INV h g hist sv) (W : VWG g ks H) {k : Nat} {q : Nat × Nat} (hq : H[k]? = some q) : AK (F_X_hunk (k : Int) 4 h) ((sld ks (vss g.1 g.2.1) q 0 : Nat) : Int) g hist sv := by
  have og := I.og
  obtain ⟨h1, f1, V, hk, w1, I1, s1⟩ := show_w I W
  have hso := sok_of og.1 og.2.1
  have hkl : k < H.length := (List.getElem?_eq_some_iff.mp hq).1
  refine ⟨h1, ?_, I1⟩
  unfold F_X_hunk
  rw [if_neg (show ¬ (4 : Int) < 0 by decide), if_pos (show (4 : Int) ≤ 9 by decide), f1, ob1_s, V_has V, if_pos (show 0 ≤ (k : Int) ∧ (k : Int) < (H.length : Int) by omega), if_neg (show ¬ (1 : Int) = 0 by decide), if_neg (show ¬ (4 : Int) = 0 by decide), if_neg (show ¬ (4 : Int) = 1 by decide), if_neg (show ¬ (4 : Int) = 2 by decide), if_neg (show ¬ (4 : Int) = 3 by decide), if_pos rfl, V_reach V hso hq, ob1_s]
theorem q_h5 (I : INV h g hist sv) (W : VWG g ks H) {k : Nat} {q : Nat × Nat} (hq : H[k]? = some q) : AK (F_X_hunk (k : Int) 5 h) ((sld ks (vss g.1 g.2.1) q 1 : Nat) : Int) g hist sv := by
  have og := I.og
  obtain ⟨h1, f1, V, hk, w1, I1, s1⟩ := show_w I W
  have hso := sok_of og.1 og.2.1
  have hkl : k < H.length := (List.getElem?_eq_some_iff.mp hq).1
  refine ⟨h1, ?_, I1⟩
  unfold F_X_hunk
  rw [if_neg (show ¬ (5 : Int) < 0 by decide), if_pos (show (5 : Int) ≤ 9 by decide), f1, ob1_s, V_has V, if_pos (show 0 ≤ (k : Int) ∧ (k : Int) < (H.length : Int) by omega), if_neg (show ¬ (1 : Int) = 0 by decide), if_neg (show ¬ (5 : Int) = 0 by decide), if_neg (show ¬ (5 : Int) = 1 by decide), if_neg (show ¬ (5 : Int) = 2 by decide), if_neg (show ¬ (5 : Int) = 3 by decide), if_neg (show ¬ (5 : Int) = 4 by decide), if_pos rfl, V_reach V hso hq, ob1_s]
theorem q_h6 (I : INV h g hist sv) (W : VWG g ks H) {k : Nat} {q : Nat × Nat} (hq : H[k]? = some q) : AK (F_X_hunk (k : Int) 6 h) (wof (vss g.1 g.2.1) q) g hist sv := by
  have og := I.og
  obtain ⟨h1, f1, V, hk, w1, I1, s1⟩ := show_w I W
  have hso := sok_of og.1 og.2.1
  have hkl : k < H.length := (List.getElem?_eq_some_iff.mp hq).1
  refine ⟨h1, ?_, I1⟩
  unfold F_X_hunk
  rw [if_neg (show ¬ (6 : Int) < 0 by decide), if_pos (show (6 : Int) ≤ 9 by decide), f1, ob1_s, V_has V, if_pos (show 0 ≤ (k : Int) ∧ (k : Int) < (H.length : Int) by omega), if_neg (show ¬ (1 : Int) = 0 by decide), if_neg (show ¬ (6 : Int) = 0 by decide), if_neg (show ¬ (6 : Int) = 1 by decide), if_neg (show ¬ (6 : Int) = 2 by decide), if_neg (show ¬ (6 : Int) = 3 by decide), if_neg (show ¬ (6 : Int) = 4 by decide), if_neg (show ¬ (6 : Int) = 5 by decide), if_pos rfl, V_worth V hso hq]
theorem q_h7 (I : INV h g hist sv) (W : VWG g ks H) {k : Nat} {q : Nat × Nat} (hq : H[k]? = some q) : AK (F_X_hunk (k : Int) 7 h) (wth (vss g.1 g.2.1) ((bt ks (vss g.1 g.2.1) q : Nat) : Int) (((bt ks (vss g.1 g.2.1) q : Nat) : Int) + ((q.2 - q.1 : Nat) : Int))) g hist sv := by
  have og := I.og
  obtain ⟨h1, f1, V, hk, w1, I1, s1⟩ := show_w I W
  have hso := sok_of og.1 og.2.1
  have hkl : k < H.length := (List.getElem?_eq_some_iff.mp hq).1
  refine ⟨h1, ?_, I1⟩
  unfold F_X_hunk
  rw [if_neg (show ¬ (7 : Int) < 0 by decide), if_pos (show (7 : Int) ≤ 9 by decide), f1, ob1_s, V_has V, if_pos (show 0 ≤ (k : Int) ∧ (k : Int) < (H.length : Int) by omega), if_neg (show ¬ (1 : Int) = 0 by decide), if_neg (show ¬ (7 : Int) = 0 by decide), if_neg (show ¬ (7 : Int) = 1 by decide), if_neg (show ¬ (7 : Int) = 2 by decide), if_neg (show ¬ (7 : Int) = 3 by decide), if_neg (show ¬ (7 : Int) = 4 by decide), if_neg (show ¬ (7 : Int) = 5 by decide), if_neg (show ¬ (7 : Int) = 6 by decide), if_pos rfl, V_greatest V hso hq, ob1_s]
theorem q_h8 (I : INV h g hist sv) (W : VWG g ks H) {k : Nat} {q : Nat × Nat} (hq : H[k]? = some q) : AK (F_X_hunk (k : Int) 8 h) ((ard H ks.length k q (g.2.2.2.1).toNat 0 : Nat) : Int) g hist sv := by
  have og := I.og
  obtain ⟨h1, f1, V, hk, w1, I1, s1⟩ := show_w I W
  have hso := sok_of og.1 og.2.1
  have hkl : k < H.length := (List.getElem?_eq_some_iff.mp hq).1
  refine ⟨h1, ?_, I1⟩
  have most : g.2.2.2.1 = ((g.2.2.2.1).toNat : Int) := by have := og.2.2.2.1; omega
  have set0 : F_St_setting 3 0 h1 = ((g.2.2.2.1).toNat : Int) := by
    rw [← most]
    unfold F_St_setting
    rw [if_pos rfl]; exact s1
  unfold F_X_hunk
  rw [if_neg (show ¬ (8 : Int) < 0 by decide), if_pos (show (8 : Int) ≤ 9 by decide), f1, ob1_s, V_has V, if_pos (show 0 ≤ (k : Int) ∧ (k : Int) < (H.length : Int) by omega), if_neg (show ¬ (1 : Int) = 0 by decide), if_neg (show ¬ (8 : Int) = 0 by decide), if_neg (show ¬ (8 : Int) = 1 by decide), if_neg (show ¬ (8 : Int) = 2 by decide), if_neg (show ¬ (8 : Int) = 3 by decide), if_neg (show ¬ (8 : Int) = 4 by decide), if_neg (show ¬ (8 : Int) = 5 by decide), if_neg (show ¬ (8 : Int) = 6 by decide), if_neg (show ¬ (8 : Int) = 7 by decide), if_pos rfl, set0, V_around V hq]
theorem q_h9 (I : INV h g hist sv) (W : VWG g ks H) {k : Nat} {q : Nat × Nat} (hq : H[k]? = some q) : AK (F_X_hunk (k : Int) 9 h) ((ard H ks.length k q (g.2.2.2.1).toNat 1 : Nat) : Int) g hist sv := by
  have og := I.og
  obtain ⟨h1, f1, V, hk, w1, I1, s1⟩ := show_w I W
  have hso := sok_of og.1 og.2.1
  have hkl : k < H.length := (List.getElem?_eq_some_iff.mp hq).1
  refine ⟨h1, ?_, I1⟩
  have most : g.2.2.2.1 = ((g.2.2.2.1).toNat : Int) := by have := og.2.2.2.1; omega
  have set0 : F_St_setting 3 0 h1 = ((g.2.2.2.1).toNat : Int) := by
    rw [← most]
    unfold F_St_setting
    rw [if_pos rfl]; exact s1
  unfold F_X_hunk
  rw [if_neg (show ¬ (9 : Int) < 0 by decide), if_pos (show (9 : Int) ≤ 9 by decide), f1, ob1_s, V_has V, if_pos (show 0 ≤ (k : Int) ∧ (k : Int) < (H.length : Int) by omega), if_neg (show ¬ (1 : Int) = 0 by decide), if_neg (show ¬ (9 : Int) = 0 by decide), if_neg (show ¬ (9 : Int) = 1 by decide), if_neg (show ¬ (9 : Int) = 2 by decide), if_neg (show ¬ (9 : Int) = 3 by decide), if_neg (show ¬ (9 : Int) = 4 by decide), if_neg (show ¬ (9 : Int) = 5 by decide), if_neg (show ¬ (9 : Int) = 6 by decide), if_neg (show ¬ (9 : Int) = 7 by decide), if_neg (show ¬ (9 : Int) = 8 by decide), set0, V_around V hq]
theorem q_why (I : INV h g hist sv) (W : VWG g ks H) {k : Nat} {q : Nat × Nat} (hq : H[k]? = some q) (dn : Int) : AK (F_X_whyNot (k : Int) dn h) (if pl ks q = 0 then 1 else bar ks (vss g.1 g.2.1) (q.1 : Int) (q.2 : Int) dn) g hist sv := by
  obtain ⟨h1, f1, V, hk, w1, I1, s1⟩ := show_w I W
  have hkl : k < H.length := (List.getElem?_eq_some_iff.mp hq).1
  have vq := V.q hq
  refine ⟨h1, ?_, I1⟩
  unfold F_X_whyNot F_V_hindrance
  rw [f1, ob1_s, V_has V, if_pos (show 0 ≤ (k : Int) ∧ (k : Int) < (H.length : Int) by omega), if_neg (show ¬ (1 : Int) = 0 by decide), V_isPlain V hq]
  by_cases hp : pl ks q = 0
  · rw [if_pos hp, if_pos hp]
  · rw [if_neg hp, if_neg hp, V_top V hq, V_end V hq, V_barAt V.1 V.2.1 (by omega) (by omega)]
end ASK

/-! ===== the view: what comes, goes and is kept ===== -/
def stp (l1 l2 : List Int) (i j : Nat) : Int :=
  if i < l1.length ∧ j < l2.length ∧ l1.getD i (-1) = l2.getD j (-1) then 0
  else if i < l1.length ∧ (l2.length ≤ j ∨ kp l1 l2 i (j + 1) ≤ kp l1 l2 (i + 1) j) then 1 else 2
def vw (l1 l2 : List Int) : Nat → Nat → Nat → List (Int × Int)
  | 0, _, _ => []
  | f + 1, i, j => if i < l1.length ∨ j < l2.length then (stp l1 l2 i j, if stp l1 l2 i j = 2 then l2.getD j (-1) else l1.getD i (-1)) :: vw l1 l2 f (if stp l1 l2 i j = 2 then i else i + 1) (if stp l1 l2 i j = 1 then j else j + 1) else []
theorem stp_0 {l1 l2 : List Int} {i j : Nat} (h : i < l1.length ∧ j < l2.length ∧ l1.getD i (-1) = l2.getD j (-1)) : stp l1 l2 i j = 0 := by unfold stp; rw [if_pos h]
theorem stp_1 {l1 l2 : List Int} {i j : Nat} (h : ¬ (i < l1.length ∧ j < l2.length ∧ l1.getD i (-1) = l2.getD j (-1))) (h2 : i < l1.length ∧ (l2.length ≤ j ∨ kp l1 l2 i (j + 1) ≤ kp l1 l2 (i + 1) j)) : stp l1 l2 i j = 1 := by unfold stp; rw [if_neg h, if_pos h2]
theorem stp_2 {l1 l2 : List Int} {i j : Nat} (h : ¬ (i < l1.length ∧ j < l2.length ∧ l1.getD i (-1) = l2.getD j (-1))) (h2 : ¬ (i < l1.length ∧ (l2.length ≤ j ∨ kp l1 l2 i (j + 1) ≤ kp l1 l2 (i + 1) j))) : stp l1 l2 i j = 2 := by unfold stp; rw [if_neg h, if_neg h2]
theorem stp_cases (l1 l2 : List Int) (i j : Nat) (h : i < l1.length ∨ j < l2.length) : (stp l1 l2 i j = 0 ∧ i < l1.length ∧ j < l2.length) ∨ (stp l1 l2 i j = 1 ∧ i < l1.length) ∨ (stp l1 l2 i j = 2 ∧ j < l2.length) := by
  unfold stp
  by_cases c1 : i < l1.length ∧ j < l2.length ∧ l1.getD i (-1) = l2.getD j (-1)
  · rw [if_pos c1]; exact Or.inl ⟨rfl, c1.1, c1.2.1⟩
  · rw [if_neg c1]
    by_cases c2 : i < l1.length ∧ (l2.length ≤ j ∨ kp l1 l2 i (j + 1) ≤ kp l1 l2 (i + 1) j)
    · rw [if_pos c2]; exact Or.inr (Or.inl ⟨rfl, c2.1⟩)
    · rw [if_neg c2]; exact Or.inr (Or.inr ⟨rfl, by omega⟩)
theorem C_step {h : MH} {o p : Nat} {l1 l2 : List Int} (Ho : RW h o l1) (Hp : RW h p l2) (hl1 : l1.length ≤ 14) (hl2 : l2.length ≤ 14) (HK : KM h (kp l1 l2)) {i j : Nat} (hi : i ≤ l1.length) (hj : j ≤ l2.length) (hij : i < l1.length ∨ j < l2.length) : F_C_step o p (i : Int) (j : Int) h = stp l1 l2 i j := by
  unfold F_C_step
  rw [Ho.size, Hp.size, Ho.at, Hp.at]
  dsimp only [jn1, jk1]
  simp (disch := omega) only [wr_id]
  rw [lg_in (by omega), lg_in (by omega), nn, nn]
  by_cases h1 : i < l1.length
  · rw [if_pos (show (i : Int) < (l1.length : Int) by omega)]
    by_cases h2 : j < l2.length
    · rw [if_pos (show (j : Int) < (l2.length : Int) by omega)]
      have a2 : F_C_keptFrom ((i : Int) + 1) (j : Int) h = kp l1 l2 (i + 1) j := C_keptFrom HK (i := i + 1) (j := j) (by omega) (by omega)
      have a3 : F_C_keptFrom (i : Int) ((j : Int) + 1) h = kp l1 l2 i (j + 1) := C_keptFrom HK (i := i) (j := j + 1) (by omega) (by omega)
      rw [a2, a3, if_neg (by decide), if_neg (by decide)]
      by_cases he : l1.getD i (-1) = l2.getD j (-1)
      · rw [if_pos he, stp_0 ⟨h1, h2, he⟩]
      · rw [if_neg he, if_neg (by decide), if_neg (by decide)]
        by_cases hk : kp l1 l2 (i + 1) j < kp l1 l2 i (j + 1)
        · rw [if_pos hk, stp_2 (fun z => he z.2.2) (fun z => by have := z.2; omega)]
        · rw [if_neg hk, stp_1 (fun z => he z.2.2) ⟨h1, Or.inr (by omega)⟩]
    · rw [if_neg (show ¬ (j : Int) < (l2.length : Int) by omega)]
      simp only [if_neg (show ¬ (1 : Int) = 0 by decide), if_true]
      rw [stp_1 (fun z => h2 z.2.1) ⟨h1, Or.inl (by omega)⟩]
  · rw [if_neg (show ¬ (i : Int) < (l1.length : Int) by omega)]
    simp only [if_true]
    rw [stp_2 (fun z => h1 z.1) (fun z => h1 z.1)]
theorem gather_loop {o p : Nat} {l1 l2 : List Int} (hl1 : l1.length ≤ 14) (hl2 : l2.length ≤ 14) (o1 : o < 50) (p1 : p < 50) : ∀ (n f i j : Nat) (h : MH) (ks ss : List Int), RW h o l1 → RW h p l2 → KM h (kp l1 l2) → RW h 55 ks → RW h 57 ss → ks.length = ss.length → ks.length ≤ i + j → i ≤ l1.length → j ≤ l2.length → (l1.length - i) + (l2.length - j) ≤ f → f < n →
    ∃ (a b c : Int) (h' : MH), F_V_gather_L40 o p ((l1.length : Int) + (l2.length : Int)) n (i : Int) (j : Int) (ks.length : Int) h = some (a, b, c, h') ∧ RW h' 55 (ks ++ (vw l1 l2 f i j).map Prod.fst) ∧ RW h' 57 (ss ++ (vw l1 l2 f i j).map Prod.snd) ∧ FR [55, 56, 57, 58] h h' := by
  intro n
  induction n with
  | zero => intro f i j h ks ss _ _ _ _ _ _ _ _ _ _ h2; omega
  | succ n ih =>
    intro f i j h ks ss Ho Hp HK R1 R2 hks hlen hi hj hf hn
    unfold F_V_gather_L40
    simp (disch := omega) only [wr_id]
    by_cases hd : i < l1.length ∨ j < l2.length
    · obtain ⟨f, rfl⟩ : ∃ f', f = f' + 1 := ⟨f - 1, by omega⟩
      rw [if_pos (by omega), if_pos (by omega), C_step Ho Hp hl1 hl2 HK hi hj hd]
      dsimp only [jn1]
      have hc := stp_cases l1 l2 i j hd
      obtain ⟨A1, B1⟩ := Ro_add R1 (stp l1 l2 i j) (by show _ < 28; omega)
      have S1 : FR [55, 56, 57, 58] h (F_Ro_add 55 (stp l1 l2 i j) h) := B1.mono (by simp)
      have k1 := row_apart (o := o) (p := 55)
      have Ho1 : RW (F_Ro_add 55 (stp l1 l2 i j) h) o l1 := Ho.off B1 rfl (by omega)
      have Hp1 : RW (F_Ro_add 55 (stp l1 l2 i j) h) p l2 := Hp.off B1 rfl (by omega)
      have R2' : RW (F_Ro_add 55 (stp l1 l2 i j) h) 57 ss := R2.off B1 rfl (by omega)
      rw [Ho1.at, Hp1.at, lg_in (by omega), lg_in (by omega), nn, nn]
      obtain ⟨A2, B2⟩ := Ro_add R2' (if stp l1 l2 i j = 2 then l2.getD j (-1) else l1.getD i (-1)) (by show _ < 28; omega)
      have S2 : FR [55, 56, 57, 58] _ _ := B2.mono (S' := [55, 56, 57, 58]) (by simp)
      have e1 : wr ((i : Int) + (if stp l1 l2 i j = 2 then 0 else 1)) = (((if stp l1 l2 i j = 2 then i else i + 1 : Nat)) : Int) := by
        split <;> rw [wr_id (by omega)] <;> omega
      have e2 : wr ((j : Int) + (if stp l1 l2 i j = 1 then 0 else 1)) = (((if stp l1 l2 i j = 1 then j else j + 1 : Nat)) : Int) := by
        split <;> rw [wr_id (by omega)] <;> omega
      have e3 : (ks.length : Int) + 1 = (((ks ++ [stp l1 l2 i j]).length : Nat) : Int) := by simp
      rw [e1, e2, e3]
      obtain ⟨a, b, c, h', g1, g2, g3, g4⟩ := ih f (if stp l1 l2 i j = 2 then i else i + 1) (if stp l1 l2 i j = 1 then j else j + 1) _ (ks ++ [stp l1 l2 i j]) (ss ++ [if stp l1 l2 i j = 2 then l2.getD j (-1) else l1.getD i (-1)]) (Ho1.off B2 rfl (by omega)) (Hp1.off B2 rfl (by omega))
        (by
          have a1 := (S1.tr S2) 50 (by simp)
          have a2 := (S1.tr S2) 51 (by simp)
          exact ⟨by rw [a1]; exact HK.1, fun i' j' x y => by rw [a2]; exact HK.2 i' j' x y⟩) (A1.off B2 rfl (by omega)) A2 (by simp [hks]) (by
          simp only [List.length_append, List.length_cons, List.length_nil]
          rcases hc with ⟨hc, _⟩ | ⟨hc, _⟩ | ⟨hc, _⟩ <;> rw [hc] <;> simp <;> omega) (by
          rcases hc with ⟨hc, _⟩ | ⟨hc, _⟩ | ⟨hc, _⟩ <;> rw [hc] <;> simp <;> omega) (by
          rcases hc with ⟨hc, _⟩ | ⟨hc, _⟩ | ⟨hc, _⟩ <;> rw [hc] <;> simp <;> omega) (by
          rcases hc with ⟨hc, _⟩ | ⟨hc, _⟩ | ⟨hc, _⟩ <;> rw [hc] <;> simp <;> omega) (by omega)
      refine ⟨a, b, c, h', g1, ?_, ?_, (S1.tr S2).tr g4⟩
      · rw [vw, if_pos hd, List.map_cons, List.append_cons]
        exact g2
      · rw [vw, if_pos hd, List.map_cons, List.append_cons]
        exact g3
    · have hv : vw l1 l2 f i j = [] := by
        cases f with
        | zero => rfl
        | succ f => rw [vw, if_neg hd]
      rw [hv]
      have hr : ∀ (x : Option (Int × Int × Int × MH)), (if (ks.length : Int) < (l1.length : Int) + (l2.length : Int) then (if (i : Int) + (j : Int) < (l1.length : Int) + (l2.length : Int) then x else some ((i : Int), (j : Int), (ks.length : Int), h)) else some ((i : Int), (j : Int), (ks.length : Int), h)) = some ((i : Int), (j : Int), (ks.length : Int), h) := by
        intro x
        split
        · rw [if_neg (by omega)]
        · rfl
      rw [hr]
      exact ⟨_, _, _, h, rfl, by simpa using R1, by simpa using R2, FR.rf _ _⟩
def vl (l1 l2 : List Int) : List (Int × Int) := vw l1 l2 (l1.length + l2.length) 0 0
/-- kinds and signs as the texts tell them -/
def vks (l1 l2 : List Int) : List Int := (vl l1 l2).map Prod.fst
def vss (l1 l2 : List Int) : List Int := (vl l1 l2).map Prod.snd
theorem vw_len (l1 l2 : List Int) : ∀ (f i j : Nat), (vw l1 l2 f i j).length ≤ f := by
  intro f
  induction f with
  | zero => intro i j; exact Nat.le_refl _
  | succ f ih =>
    intro i j
    rw [vw]
    split
    · rw [List.length_cons]; have := ih (if stp l1 l2 i j = 2 then i else i + 1) (if stp l1 l2 i j = 1 then j else j + 1); omega
    · exact Nat.zero_le _
theorem vks_len (l1 l2 : List Int) : (vks l1 l2).length = (vss l1 l2).length := by unfold vks vss; simp
theorem vks_le (l1 l2 : List Int) : (vks l1 l2).length ≤ l1.length + l2.length := by
  unfold vks vl
  rw [List.length_map]
  exact vw_len l1 l2 _ 0 0
theorem vw_prop (l1 l2 : List Int) (h1 : OKt l1) (h2 : OKt l2) : ∀ (f i j : Nat), ∀ q ∈ vw l1 l2 f i j, (q.1 = 0 ∨ q.1 = 1 ∨ q.1 = 2) ∧ 0 ≤ q.2 ∧ q.2 ≤ 8 := by
  have gd8 : ∀ l : List Int, OKt l → ∀ i, i < l.length → 0 ≤ l.getD i (-1) ∧ l.getD i (-1) ≤ 8 := by
    intro l hl i hi
    rw [List.getD_eq_getElem?_getD, List.getElem?_eq_getElem hi]
    exact hl.2 _ (List.getElem_mem hi)
  intro f
  induction f with
  | zero => intro i j q hq; cases hq
  | succ f ih =>
    intro i j q hq
    rw [vw] at hq
    split at hq
    · rename_i hd
      rcases List.mem_cons.mp hq with rfl | hq
      · rcases stp_cases l1 l2 i j hd with ⟨e, a, b⟩ | ⟨e, a⟩ | ⟨e, a⟩
        · rw [e]; exact ⟨Or.inl rfl, by simpa using gd8 l1 h1 i a⟩
        · rw [e]; exact ⟨Or.inr (Or.inl rfl), by simpa using gd8 l1 h1 i a⟩
        · rw [e]; exact ⟨Or.inr (Or.inr rfl), by simpa using gd8 l2 h2 j a⟩
      · exact ih _ _ q hq
    · cases hq
/-! the reference's -/
def MV2 (h : MH) (ks ss : List Int) : Prop := h 76 11 = (ks.length : Int) ∧ ks.length = ss.length ∧ ks.length ≤ 28 ∧ (∀ p, p < ks.length → h 83 p = ks.getD p (-1)) ∧ (∀ p, p < ks.length → h 82 p = ss.getD p (-1))
theorem app_get (l : List Int) (v : Int) (p : Nat) (hp : p < (l ++ [v]).length) : (l ++ [v]).getD p (-1) = if p = l.length then v else l.getD p (-1) := by
  simp at hp
  rw [List.getD_eq_getElem?_getD, List.getD_eq_getElem?_getD]
  by_cases hpl : p = l.length
  · subst hpl; rw [if_pos rfl]; simp
  · rw [if_neg hpl, List.getElem?_append_left (by omega)]
theorem M_shows {h : MH} {ks ss : List Int} (H : MV2 h ks ss) (w v : Int) (hc : ks.length < 28) : ∃ h', F_M_shows w v h = some h' ∧ MV2 h' (ks ++ [w]) (ss ++ [v]) ∧ (∀ a b, a ≠ 82 → a ≠ 83 → ¬ (a = 76 ∧ b = 11) → h' a b = h a b) := by
  obtain ⟨a, b, c, d, e⟩ := H
  have e1 : up h 82 (h 76 11).toNat v 76 11 = (ks.length : Int) := by rw [up_other (by omega), a]
  unfold F_M_shows
  rw [e1, a, gd_pos (by omega), gd_pos (by omega), nn]
  have e2 : up (up h 82 ks.length v) 83 ks.length w 76 11 = (ks.length : Int) := by rw [up_other (by omega), up_other (by omega), a]
  rw [e2, wr_id (by omega)]
  refine ⟨_, rfl, ⟨?_, by simp [b], by simp; omega, fun p hp => ?_, fun p hp => ?_⟩, fun x y h1 h2 h3 => ?_⟩
  · rw [up_at]; simp
  · rw [app_get _ _ _ hp, up_other (by omega), up_if]
    simp at hp
    by_cases hpl : p = ks.length
    · rw [if_pos hpl, if_pos hpl]
    · rw [if_neg hpl, if_neg hpl, up_other (by omega)]
      exact d p (by omega)
  · have hp2 : p < (ss ++ [v]).length := by simp at hp ⊢; omega
    rw [app_get _ _ _ hp2, up_other (by omega), up_other (by omega), up_if]
    simp at hp
    by_cases hpl : p = ks.length
    · rw [if_pos hpl, if_pos (by omega)]
    · rw [if_neg hpl, if_neg (by omega)]
      exact e p (by omega)
  · rw [up_other h3, up_other (by omega), up_other (by omega)]
def FV (h h' : MH) : Prop := ∀ a b, a ≠ 82 → a ≠ 83 → ¬ (a = 76 ∧ b = 11) → h' a b = h a b
theorem FV.row {h h' : MH} (F : FV h h') {a : Nat} (h1 : a ≠ 82) (h2 : a ≠ 83) (h3 : a ≠ 76) : h' a = h a := funext fun b => F a b h1 h2 (fun z => h3 z.1)
theorem lt_int {a b : Nat} (h : a < b) : (a : Int) < (b : Int) := Int.ofNat_lt.mpr h
theorem nlt_int {a b : Nat} (h : ¬ a < b) : ¬ (a : Int) < (b : Int) := fun z => h (Int.ofNat_lt.mp z)
theorem M_views_step {g : SG} (og : OKg g) {n i j : Nat} {h h1 : MH} (Hs : SM (h 77) g) (hw : h 76 8 = -4) (HK : ∀ i' j', i' ≤ g.1.length → j' ≤ g.2.1.length → h 81 (15 * i' + j') = kp g.1 g.2.1 i' j') (hi : i ≤ g.1.length) (hj : j ≤ g.2.1.length) (hd : i < g.1.length ∨ j < g.2.1.length)
    (s1 : F_M_shows (stp g.1 g.2.1 i j) (if stp g.1 g.2.1 i j = 2 then g.2.1.getD j (-1) else g.1.getD i (-1)) h = some h1) :
    F_M_views_L14 (n + 1) (i : Int) (j : Int) h = F_M_views_L14 n (((if stp g.1 g.2.1 i j = 2 then i else i + 1 : Nat)) : Int) (((if stp g.1 g.2.1 i j = 1 then j else j + 1 : Nat)) : Int) h1 := by
  have l0 := og.1.1
  have l2 := og.2.1.1
  have Ho : OLD h g g.1 := Or.inl ⟨hw, rfl⟩
  have w1 : wr ((i : Int) + 1) = (((i + 1 : Nat)) : Int) := by rw [wr_id (by omega)]; omega
  have w2 : wr ((j : Int) + 1) = (((j + 1 : Nat)) : Int) := by rw [wr_id (by omega)]; omega
  have x1 : wr (wr (wr (15 * (i : Int)) + 15) + (j : Int)) = ((15 * (i + 1) + j : Nat) : Int) := by
    rw [wr_id (z := 15 * (i : Int)) (by omega), wr_id (z := 15 * (i : Int) + 15) (by omega), wr_id (by omega)]; omega
  have x2 : wr (wr (wr (15 * (i : Int)) + (j : Int)) + 1) = ((15 * i + (j + 1) : Nat) : Int) := by
    rw [wr_id (z := 15 * (i : Int)) (by omega), wr_id (z := 15 * (i : Int) + (j : Int)) (by omega), wr_id (by omega)]; omega
  have n10 : ¬ (1 : Int) = 0 := by decide
  have ho : i < g.1.length → F_M_old (i : Int) h = some (g.1.getD i (-1)) := fun hi1 => by
    have := M_old Ho Hs og (i := (i : Int)) (Int.natCast_nonneg i) (lt_int hi1)
    rw [this, lg_in (Int.natCast_nonneg i), nn]
  have hl : j < g.2.1.length → F_M_lineOf 1 (j : Int) h = some (g.2.1.getD j (-1)) := fun hj1 => by
    have := M_lineOf1 Hs og (i := (j : Int)) (Int.natCast_nonneg j) (lt_int hj1)
    rw [this, lg_in (Int.natCast_nonneg j), nn]
  rw [F_M_views_L14]
  simp only [jn1, jk1, jk3]
  by_cases hi1 : i < g.1.length
  · by_cases hj1 : j < g.2.1.length
    · simp only [M_lines0 Hs, M_lines1 Hs, ob1_s, if_pos (lt_int hi1), if_pos (lt_int hj1), if_neg n10, ho hi1, hl hj1]
      by_cases he : g.1.getD i (-1) = g.2.1.getD j (-1)
      · have e0 := stp_0 (l1 := g.1) (l2 := g.2.1) ⟨hi1, hj1, he⟩
        rw [e0] at s1
        rw [if_pos he, e0]
        simp only [show ¬ (0 : Int) = 2 by decide, show ¬ (0 : Int) = 1 by decide, if_false] at s1 ⊢
        rw [s1, ob1_s, w1, w2]
      · rw [if_neg he, x1, x2]
        have k1 : 15 * (i + 1) + j < 225 ∧ 15 * i + (j + 1) < 225 := by omega
        rw [gd_pos ⟨Int.natCast_nonneg _, Int.ofNat_lt.mpr k1.1⟩, gd_pos ⟨Int.natCast_nonneg _, Int.ofNat_lt.mpr k1.2⟩, nn, nn, HK (i + 1) j hi1 hj, HK i (j + 1) hi hj1]
        by_cases hk : kp g.1 g.2.1 (i + 1) j < kp g.1 g.2.1 i (j + 1)
        · have e0 := stp_2 (l1 := g.1) (l2 := g.2.1) (i := i) (j := j) (fun z => he z.2.2) (fun z => z.2.elim (fun y => absurd hj1 (Nat.not_lt.mpr y)) (fun y => absurd hk (Int.not_lt.mpr y)))
          rw [e0] at s1
          rw [if_pos hk, e0]
          simp only [show ¬ (2 : Int) = 1 by decide, if_true, if_false] at s1 ⊢
          rw [s1, ob1_s, w2]
        · have e0 := stp_1 (l1 := g.1) (l2 := g.2.1) (i := i) (j := j) (fun z => he z.2.2) ⟨hi1, Or.inr (Int.not_lt.mp hk)⟩
          rw [e0] at s1
          rw [if_neg hk, e0]
          simp only [show ¬ (1 : Int) = 2 by decide, if_true, if_false] at s1 ⊢
          rw [s1, ob1_s, w1]
    · simp only [M_lines0 Hs, M_lines1 Hs, ob1_s]
      simp only [if_pos (lt_int hi1)]
      rw [if_neg (nlt_int hj1), if_neg n10, if_pos rfl, if_neg n10, if_pos rfl]
      rw [ho hi1, ob1_s]
      have e0 := stp_1 (l1 := g.1) (l2 := g.2.1) (i := i) (j := j) (fun z => hj1 z.2.1) ⟨hi1, Or.inl (Nat.not_lt.mp hj1)⟩
      rw [e0] at s1
      rw [e0]
      simp only [show ¬ (1 : Int) = 2 by decide, if_true, if_false] at s1 ⊢
      rw [s1, ob1_s, w1]
  · have hj1 : j < g.2.1.length := hd.resolve_left hi1
    simp only [M_lines0 Hs, M_lines1 Hs, ob1_s, if_neg (nlt_int hi1), if_pos (lt_int hj1), if_true, hl hj1]
    have e0 := stp_2 (l1 := g.1) (l2 := g.2.1) (i := i) (j := j) (fun z => hi1 z.1) (fun z => hi1 z.1)
    rw [e0] at s1
    rw [e0]
    simp only [show ¬ (2 : Int) = 1 by decide, if_true, if_false] at s1 ⊢
    rw [s1, ob1_s, w2]
theorem M_views_loop {g : SG} (og : OKg g) : ∀ (n f i j : Nat) (h : MH) (ks ss : List Int), SM (h 77) g → h 76 8 = -4 → (∀ i' j', i' ≤ g.1.length → j' ≤ g.2.1.length → h 81 (15 * i' + j') = kp g.1 g.2.1 i' j') → MV2 h ks ss → ks.length ≤ i + j → i ≤ g.1.length → j ≤ g.2.1.length → (g.1.length - i) + (g.2.1.length - j) ≤ f → f < n →
    ∃ (a b : Int) (h' : MH), F_M_views_L14 n (i : Int) (j : Int) h = some (a, b, h') ∧ MV2 h' (ks ++ (vw g.1 g.2.1 f i j).map Prod.fst) (ss ++ (vw g.1 g.2.1 f i j).map Prod.snd) ∧ FV h h' := by
  intro n
  induction n with
  | zero => intro f i j h ks ss _ _ _ _ _ _ _ _ h2; exact absurd h2 (Nat.not_lt_zero _)
  | succ n ih =>
    intro f i j h ks ss Hs hw HK HV hlen hi hj hf hn
    have l0 := og.1.1
    have l2 := og.2.1.1
    by_cases hd : i < g.1.length ∨ j < g.2.1.length
    · obtain ⟨f, rfl⟩ : ∃ f', f = f' + 1 := ⟨f - 1, by omega⟩
      have hks : ks.length < 28 := by omega
      obtain ⟨h1, s1, V1, F1⟩ := M_shows HV (stp g.1 g.2.1 i j) (if stp g.1 g.2.1 i j = 2 then g.2.1.getD j (-1) else g.1.getD i (-1)) hks
      have F1' : FV h h1 := F1
      rw [M_views_step og Hs hw HK hi hj hd s1]
      have m1 : ∀ (x : Int), ((x = 0 ∧ i < g.1.length ∧ j < g.2.1.length) ∨ (x = 1 ∧ i < g.1.length) ∨ (x = 2 ∧ j < g.2.1.length)) → ks.length + 1 ≤ (if x = 2 then i else i + 1) + (if x = 1 then j else j + 1) ∧ (if x = 2 then i else i + 1) ≤ g.1.length ∧ (if x = 1 then j else j + 1) ≤ g.2.1.length ∧ (g.1.length - (if x = 2 then i else i + 1)) + (g.2.1.length - (if x = 1 then j else j + 1)) ≤ f := by
        intro x hx
        rcases hx with ⟨rfl, _⟩ | ⟨rfl, _⟩ | ⟨rfl, _⟩ <;> simp <;> omega
      have m2 := m1 _ (stp_cases g.1 g.2.1 i j hd)
      obtain ⟨a, b, h', g1, g2, g3⟩ := ih f (if stp g.1 g.2.1 i j = 2 then i else i + 1) (if stp g.1 g.2.1 i j = 1 then j else j + 1) h1 _ _ (by rw [F1'.row (by decide) (by decide) (by decide)]; exact Hs) (by rw [F1 76 8 (by decide) (by decide) (by decide)]; exact hw) (by rw [F1'.row (by decide) (by decide) (by decide)]; exact HK) V1 (by rw [List.length_append]; exact m2.1) m2.2.1 m2.2.2.1 m2.2.2.2 (Nat.lt_of_succ_lt_succ hn)
      refine ⟨a, b, h', g1, ?_, fun x y z1 z2 z3 => (g3 x y z1 z2 z3).trans (F1 x y z1 z2 z3)⟩
      rw [vw, if_pos hd, List.map_cons, List.map_cons, List.append_cons, List.append_cons ss]
      exact g2
    · have hv : vw g.1 g.2.1 f i j = [] := by
        cases f with
        | zero => rfl
        | succ f => rw [vw, if_neg hd]
      rw [F_M_views_L14]
      simp only [jk1]
      rw [hv, M_lines0 Hs, ob1_s, if_neg (nlt_int (fun z => hd (Or.inl z))), M_lines1 Hs, ob1_s, if_neg (nlt_int (fun z => hd (Or.inr z)))]
      exact ⟨_, _, h, rfl, by simpa using HV, fun _ _ _ _ _ => rfl⟩

/-! ===== the view: what comes, goes and is kept ===== -/
def stp (l1 l2 : List Int) (i j : Nat) : Int :=
  if i < l1.length ∧ j < l2.length ∧ l1.getD i (-1) = l2.getD j (-1) then 0
  else if i < l1.length ∧ (l2.length ≤ j ∨ kp l1 l2 i (j + 1) ≤ kp l1 l2 (i + 1) j) then 1 else 2
def vw (l1 l2 : List Int) : Nat → Nat → Nat → List (Int × Int)
  | 0, _, _ => []
  | f + 1, i, j => if i < l1.length ∨ j < l2.length then (stp l1 l2 i j, if stp l1 l2 i j = 2 then l2.getD j (-1) else l1.getD i (-1)) :: vw l1 l2 f (if stp l1 l2 i j = 2 then i else i + 1) (if stp l1 l2 i j = 1 then j else j + 1) else []
theorem stp_0 {l1 l2 : List Int} {i j : Nat} (h : i < l1.length ∧ j < l2.length ∧ l1.getD i (-1) = l2.getD j (-1)) : stp l1 l2 i j = 0 := by unfold stp; rw [if_pos h]
theorem stp_1 {l1 l2 : List Int} {i j : Nat} (h : ¬ (i < l1.length ∧ j < l2.length ∧ l1.getD i (-1) = l2.getD j (-1))) (h2 : i < l1.length ∧ (l2.length ≤ j ∨ kp l1 l2 i (j + 1) ≤ kp l1 l2 (i + 1) j)) : stp l1 l2 i j = 1 := by unfold stp; rw [if_neg h, if_pos h2]
theorem stp_2 {l1 l2 : List Int} {i j : Nat} (h : ¬ (i < l1.length ∧ j < l2.length ∧ l1.getD i (-1) = l2.getD j (-1))) (h2 : ¬ (i < l1.length ∧ (l2.length ≤ j ∨ kp l1 l2 i (j + 1) ≤ kp l1 l2 (i + 1) j))) : stp l1 l2 i j = 2 := by unfold stp; rw [if_neg h, if_neg h2]
theorem stp_cases (l1 l2 : List Int) (i j : Nat) (h : i < l1.length ∨ j < l2.length) : (stp l1 l2 i j = 0 ∧ i < l1.length ∧ j < l2.length) ∨ (stp l1 l2 i j = 1 ∧ i < l1.length) ∨ (stp l1 l2 i j = 2 ∧ j < l2.length) := by
  unfold stp
  by_cases c1 : i < l1.length ∧ j < l2.length ∧ l1.getD i (-1) = l2.getD j (-1)
  · rw [if_pos c1]; exact Or.inl ⟨rfl, c1.1, c1.2.1⟩
  · rw [if_neg c1]
    by_cases c2 : i < l1.length ∧ (l2.length ≤ j ∨ kp l1 l2 i (j + 1) ≤ kp l1 l2 (i + 1) j)
    · rw [if_pos c2]; exact Or.inr (Or.inl ⟨rfl, c2.1⟩)
    · rw [if_neg c2]; exact Or.inr (Or.inr ⟨rfl, by omega⟩)
theorem C_step {h : MH} {o p : Nat} {l1 l2 : List Int} (Ho : RW h o l1) (Hp : RW h p l2) (hl1 : l1.length ≤ 14) (hl2 : l2.length ≤ 14) (HK : KM h (kp l1 l2)) {i j : Nat} (hi : i ≤ l1.length) (hj : j ≤ l2.length) (hij : i < l1.length ∨ j < l2.length) : F_C_step o p (i : Int) (j : Int) h = stp l1 l2 i j := by
  unfold F_C_step
  rw [Ho.size, Hp.size, Ho.at, Hp.at]
  dsimp only [jn1, jk1]
  simp (disch := omega) only [wr_id]
  rw [lg_in (by omega), lg_in (by omega), nn, nn]
  by_cases h1 : i < l1.length
  · rw [if_pos (show (i : Int) < (l1.length : Int) by omega)]
    by_cases h2 : j < l2.length
    · rw [if_pos (show (j : Int) < (l2.length : Int) by omega)]
      have a2 : F_C_keptFrom ((i : Int) + 1) (j : Int) h = kp l1 l2 (i + 1) j := C_keptFrom HK (i := i + 1) (j := j) (by omega) (by omega)
      have a3 : F_C_keptFrom (i : Int) ((j : Int) + 1) h = kp l1 l2 i (j + 1) := C_keptFrom HK (i := i) (j := j + 1) (by omega) (by omega)
      rw [a2, a3, if_neg (by decide), if_neg (by decide)]
      by_cases he : l1.getD i (-1) = l2.getD j (-1)
      · rw [if_pos he, stp_0 ⟨h1, h2, he⟩]
      · rw [if_neg he, if_neg (by decide), if_neg (by decide)]
        by_cases hk : kp l1 l2 (i + 1) j < kp l1 l2 i (j + 1)
        · rw [if_pos hk, stp_2 (fun z => he z.2.2) (fun z => by have := z.2; omega)]
        · rw [if_neg hk, stp_1 (fun z => he z.2.2) ⟨h1, Or.inr (by omega)⟩]
    · rw [if_neg (show ¬ (j : Int) < (l2.length : Int) by omega)]
      simp only [if_neg (show ¬ (1 : Int) = 0 by decide), if_true]
      rw [stp_1 (fun z => h2 z.2.1) ⟨h1, Or.inl (by omega)⟩]
  · rw [if_neg (show ¬ (i : Int) < (l1.length : Int) by omega)]
    simp only [if_true]
    rw [stp_2 (fun z => h1 z.1) (fun z => h1 z.1)]
theorem gather_loop {o p : Nat} {l1 l2 : List Int} (hl1 : l1.length ≤ 14) (hl2 : l2.length ≤ 14) (o1 : o < 50) (p1 : p < 50) : ∀ (n f i j : Nat) (h : MH) (ks ss : List Int), RW h o l1 → RW h p l2 → KM h (kp l1 l2) → RW h 55 ks → RW h 57 ss → ks.length = ss.length → ks.length ≤ i + j → i ≤ l1.length → j ≤ l2.length → (l1.length - i) + (l2.length - j) ≤ f → f < n →
    ∃ (a b c : Int) (h' : MH), F_V_gather_L40 o p ((l1.length : Int) + (l2.length : Int)) n (i : Int) (j : Int) (ks.length : Int) h = some (a, b, c, h') ∧ RW h' 55 (ks ++ (vw l1 l2 f i j).map Prod.fst) ∧ RW h' 57 (ss ++ (vw l1 l2 f i j).map Prod.snd) ∧ FR [55, 56, 57, 58] h h' := by
  intro n
  induction n with
  | zero => intro f i j h ks ss _ _ _ _ _ _ _ _ _ _ h2; omega
  | succ n ih =>
    intro f i j h ks ss Ho Hp HK R1 R2 hks hlen hi hj hf hn
    unfold F_V_gather_L40
    simp (disch := omega) only [wr_id]
    by_cases hd : i < l1.length ∨ j < l2.length
    · obtain ⟨f, rfl⟩ : ∃ f', f = f' + 1 := ⟨f - 1, by omega⟩
      rw [if_pos (by omega), if_pos (by omega), C_step Ho Hp hl1 hl2 HK hi hj hd]
      dsimp only [jn1]
      have hc := stp_cases l1 l2 i j hd
      obtain ⟨A1, B1⟩ := Ro_add R1 (stp l1 l2 i j) (by show _ < 28; omega)
      have S1 : FR [55, 56, 57, 58] h (F_Ro_add 55 (stp l1 l2 i j) h) := B1.mono (by simp)
      have k1 := row_apart (o := o) (p := 55)
      have Ho1 : RW (F_Ro_add 55 (stp l1 l2 i j) h) o l1 := Ho.off B1 rfl (by omega)
      have Hp1 : RW (F_Ro_add 55 (stp l1 l2 i j) h) p l2 := Hp.off B1 rfl (by omega)
      have R2' : RW (F_Ro_add 55 (stp l1 l2 i j) h) 57 ss := R2.off B1 rfl (by omega)
      rw [Ho1.at, Hp1.at, lg_in (by omega), lg_in (by omega), nn, nn]
      obtain ⟨A2, B2⟩ := Ro_add R2' (if stp l1 l2 i j = 2 then l2.getD j (-1) else l1.getD i (-1)) (by show _ < 28; omega)
      have S2 : FR [55, 56, 57, 58] _ _ := B2.mono (S' := [55, 56, 57, 58]) (by simp)
      have e1 : wr ((i : Int) + (if stp l1 l2 i j = 2 then 0 else 1)) = (((if stp l1 l2 i j = 2 then i else i + 1 : Nat)) : Int) := by
        split <;> rw [wr_id (by omega)] <;> omega
      have e2 : wr ((j : Int) + (if stp l1 l2 i j = 1 then 0 else 1)) = (((if stp l1 l2 i j = 1 then j else j + 1 : Nat)) : Int) := by
        split <;> rw [wr_id (by omega)] <;> omega
      have e3 : (ks.length : Int) + 1 = (((ks ++ [stp l1 l2 i j]).length : Nat) : Int) := by simp
      rw [e1, e2, e3]
      obtain ⟨a, b, c, h', g1, g2, g3, g4⟩ := ih f (if stp l1 l2 i j = 2 then i else i + 1) (if stp l1 l2 i j = 1 then j else j + 1) _ (ks ++ [stp l1 l2 i j]) (ss ++ [if stp l1 l2 i j = 2 then l2.getD j (-1) else l1.getD i (-1)]) (Ho1.off B2 rfl (by omega)) (Hp1.off B2 rfl (by omega))
        (by
          have a1 := (S1.tr S2) 50 (by simp)
          have a2 := (S1.tr S2) 51 (by simp)
          exact ⟨by rw [a1]; exact HK.1, fun i' j' x y => by rw [a2]; exact HK.2 i' j' x y⟩) (A1.off B2 rfl (by omega)) A2 (by simp [hks]) (by
          simp only [List.length_append, List.length_cons, List.length_nil]
          rcases hc with ⟨hc, _⟩ | ⟨hc, _⟩ | ⟨hc, _⟩ <;> rw [hc] <;> simp <;> omega) (by
          rcases hc with ⟨hc, _⟩ | ⟨hc, _⟩ | ⟨hc, _⟩ <;> rw [hc] <;> simp <;> omega) (by
          rcases hc with ⟨hc, _⟩ | ⟨hc, _⟩ | ⟨hc, _⟩ <;> rw [hc] <;> simp <;> omega) (by
          rcases hc with ⟨hc, _⟩ | ⟨hc, _⟩ | ⟨hc, _⟩ <;> rw [hc] <;> simp <;> omega) (by omega)
      refine ⟨a, b, c, h', g1, ?_, ?_, (S1.tr S2).tr g4⟩
      · rw [vw, if_pos hd, List.map_cons, List.append_cons]
        exact g2
      · rw [vw, if_pos hd, List.map_cons, List.append_cons]
        exact g3
    · have hv : vw l1 l2 f i j = [] := by
        cases f with
        | zero => rfl
        | succ f => rw [vw, if_neg hd]
      rw [hv]
      have hr : ∀ (x : Option (Int × Int × Int × MH)), (if (ks.length : Int) < (l1.length : Int) + (l2.length : Int) then (if (i : Int) + (j : Int) < (l1.length : Int) + (l2.length : Int) then x else some ((i : Int), (j : Int), (ks.length : Int), h)) else some ((i : Int), (j : Int), (ks.length : Int), h)) = some ((i : Int), (j : Int), (ks.length : Int), h) := by
        intro x
        split
        · rw [if_neg (by omega)]
        · rfl
      rw [hr]
      exact ⟨_, _, _, h, rfl, by simpa using R1, by simpa using R2, FR.rf _ _⟩
def vl (l1 l2 : List Int) : List (Int × Int) := vw l1 l2 (l1.length + l2.length) 0 0
/-- kinds and signs as the texts tell them -/
def vks (l1 l2 : List Int) : List Int := (vl l1 l2).map Prod.fst
def vss (l1 l2 : List Int) : List Int := (vl l1 l2).map Prod.snd
theorem vw_len (l1 l2 : List Int) : ∀ (f i j : Nat), (vw l1 l2 f i j).length ≤ f := by
  intro f
  induction f with
  | zero => intro i j; exact Nat.le_refl _
  | succ f ih =>
    intro i j
    rw [vw]
    split
    · rw [List.length_cons]; have := ih (if stp l1 l2 i j = 2 then i else i + 1) (if stp l1 l2 i j = 1 then j else j + 1); omega
    · exact Nat.zero_le _
theorem vks_len (l1 l2 : List Int) : (vks l1 l2).length = (vss l1 l2).length := by unfold vks vss; simp
theorem vks_le (l1 l2 : List Int) : (vks l1 l2).length ≤ l1.length + l2.length := by
  unfold vks vl
  rw [List.length_map]
  exact vw_len l1 l2 _ 0 0
theorem vw_prop (l1 l2 : List Int) (h1 : OKt l1) (h2 : OKt l2) : ∀ (f i j : Nat), ∀ q ∈ vw l1 l2 f i j, (q.1 = 0 ∨ q.1 = 1 ∨ q.1 = 2) ∧ 0 ≤ q.2 ∧ q.2 ≤ 8 := by
  have gd8 : ∀ l : List Int, OKt l → ∀ i, i < l.length → 0 ≤ l.getD i (-1) ∧ l.getD i (-1) ≤ 8 := by
    intro l hl i hi
    rw [List.getD_eq_getElem?_getD, List.getElem?_eq_getElem hi]
    exact hl.2 _ (List.getElem_mem hi)
  intro f
  induction f with
  | zero => intro i j q hq; cases hq
  | succ f ih =>
    intro i j q hq
    rw [vw] at hq
    split at hq
    · rename_i hd
      rcases List.mem_cons.mp hq with rfl | hq
      · rcases stp_cases l1 l2 i j hd with ⟨e, a, b⟩ | ⟨e, a⟩ | ⟨e, a⟩
        · rw [e]; exact ⟨Or.inl rfl, by simpa using gd8 l1 h1 i a⟩
        · rw [e]; exact ⟨Or.inr (Or.inl rfl), by simpa using gd8 l1 h1 i a⟩
        · rw [e]; exact ⟨Or.inr (Or.inr rfl), by simpa using gd8 l2 h2 j a⟩
      · exact ih _ _ q hq
    · cases hq
/-! the reference's -/
theorem app_get (l : List Int) (v : Int) (p : Nat) (hp : p < (l ++ [v]).length) : (l ++ [v]).getD p (-1) = if p = l.length then v else l.getD p (-1) := by
  simp at hp
  rw [List.getD_eq_getElem?_getD, List.getD_eq_getElem?_getD]
  by_cases hpl : p = l.length
  · subst hpl; rw [if_pos rfl]; simp
  · rw [if_neg hpl, List.getElem?_append_left (by omega)]
def FV (h h' : MH) : Prop := ∀ a b, a ≠ 82 → a ≠ 83 → ¬ (a = 76 ∧ b = 11) → h' a b = h a b
theorem FV.row {h h' : MH} (F : FV h h') {a : Nat} (h1 : a ≠ 82) (h2 : a ≠ 83) (h3 : a ≠ 76) : h' a = h a := funext fun b => F a b h1 h2 (fun z => h3 z.1)
theorem lt_int {a b : Nat} (h : a < b) : (a : Int) < (b : Int) := Int.ofNat_lt.mpr h
theorem nlt_int {a b : Nat} (h : ¬ a < b) : ¬ (a : Int) < (b : Int) := fun z => h (Int.ofNat_lt.mp z)

/-! ===== states, the history, the whole of the system's memory ===== -/
abbrev SG : Type := List Int × List Int × List Int × Int × Int × Int × Int
def ST (h : MH) (s : Nat) (g : SG) : Prop := kd s = 6 ∧ RW h (s + 1) g.1 ∧ RW h (s + 3) g.2.1 ∧ RW h (s + 5) g.2.2.1 ∧ h s 3 = g.2.2.2.1 ∧ h s 4 = g.2.2.2.2.1 ∧ h s 5 = g.2.2.2.2.2.1 ∧ h s 6 = g.2.2.2.2.2.2
def SS (s : Nat) : List Nat := [s, s + 1, s + 2, s + 3, s + 4, s + 5, s + 6]
theorem st_rf {s : Nat} (hs : kd s = 6) : rf s 0 = s + 1 ∧ rf s 1 = s + 3 ∧ rf s 2 = s + 5 ∧ kd (s + 1) = 5 ∧ kd (s + 3) = 5 ∧ kd (s + 5) = 5 ∧ al (s + 2) = 14 ∧ al (s + 4) = 14 ∧ al (s + 6) = 14 := by
  have h1 : ((List.range NC).all (fun s => !(kd s == 6) || decide (rf s 0 = s + 1 ∧ rf s 1 = s + 3 ∧ rf s 2 = s + 5 ∧ kd (s + 1) = 5 ∧ kd (s + 3) = 5 ∧ kd (s + 5) = 5 ∧ al (s + 2) = 14 ∧ al (s + 4) = 14 ∧ al (s + 6) = 14))) = true := by decide +kernel
  have h2 := List.all_eq_true.mp h1 s (List.mem_range.mpr (kd_lt hs (by omega)))
  simp only [hs, BEq.rfl, Bool.not_true, Bool.false_or, decide_eq_true_eq] at h2
  exact h2
theorem st_apart {o p : Nat} (ho : kd o = 6) (hp : kd p = 6) (hne : p ≠ o) : o + 7 ≤ p ∨ p + 7 ≤ o := by
  have h1 : ((List.range NC).all (fun o => !(kd o == 6) || ((List.range NC).all (fun p => !(kd p == 6) || decide (p = o ∨ o + 7 ≤ p ∨ p + 7 ≤ o))))) = true := by decide +kernel
  have h2 := List.all_eq_true.mp h1 o (List.mem_range.mpr (kd_lt ho (by omega)))
  simp only [ho, BEq.rfl, Bool.not_true, Bool.false_or] at h2
  have h3 := List.all_eq_true.mp h2 p (List.mem_range.mpr (kd_lt hp (by omega)))
  simp only [hp, BEq.rfl, Bool.not_true, Bool.false_or, decide_eq_true_eq] at h3
  rcases h3 with h3 | h3
  · exact absurd h3 hne
  · exact h3
theorem mem_SS {s x : Nat} : x ∈ SS s ↔ s ≤ x ∧ x ≤ s + 6 := by
  unfold SS
  simp only [List.mem_cons, List.not_mem_nil, or_false]
  omega
theorem ST.fr {h h' : MH} {s : Nat} {g : SG} {S : List Nat} (H : ST h s g) (F : FR S h h') (hS : ∀ x ∈ S, x < s ∨ s + 6 < x) : ST h' s g := by
  obtain ⟨a, b, c, d, e1, e2, e3, e4⟩ := H
  have hn : ∀ k, k ≤ 6 → s + k ∉ S := fun k hk hm => by have := hS _ hm; omega
  have h0 : h' s = h s := F s (fun hm => by have := hS _ hm; omega)
  exact ⟨a, b.fr F (hn 1 (by omega)) (hn 2 (by omega)), c.fr F (hn 3 (by omega)) (hn 4 (by omega)), d.fr F (hn 5 (by omega)) (hn 6 (by omega)), by rw [h0]; exact e1, by rw [h0]; exact e2, by rw [h0]; exact e3, by rw [h0]; exact e4⟩
theorem ST.other {h h' : MH} {o p : Nat} {g : SG} (H : ST h p g) (F : FR (SS o) h h') (ho : kd o = 6) (hne : p ≠ o) : ST h' p g :=
  H.fr F (fun x hx => by have := mem_SS.mp hx; have := st_apart ho H.1 hne; omega)
theorem RW.upo {h : MH} {o i k : Nat} {v : Int} {l : List Int} (H : RW h o l) (h1 : o ≠ i) (h2 : o + 1 ≠ i) : RW (up h i k v) o l := H.eqc (up_ne h1) (up_ne h2)
theorem St_become {h : MH} {o p : Nat} {g : SG} (ho : kd o = 6) (Hp : ST h p g) (hne : p ≠ o) : ∃ h', F_St_become o p h = some h' ∧ ST h' o g ∧ FR (SS o) h h' := by
  obtain ⟨hr0, hr1, hr2, hk0, hk1, hk2, ha0, ha1, ha2⟩ := st_rf ho
  have hpk := Hp.1
  obtain ⟨hq0, hq1, hq2, hm0, hm1, hm2, hb0, hb1, hb2⟩ := st_rf hpk
  have hap := st_apart ho hpk hne
  have Hp0 := Hp
  obtain ⟨-, p0, p1, p2, e1, e2, e3, e4⟩ := Hp
  unfold F_St_become
  rw [hr0, hr1, hr2, hq0, hq1, hq2]
  obtain ⟨h1, f1, r1, w1⟩ := Ro_become (h := h) (o := o + 1) hk0 p0 (by omega) (by rw [ha0, ← hb0]; exact p0.2.2.1)
  have W1 : FR (SS o) h h1 := w1.mono (by simp [SS])
  have Hp1 : ST h1 p g := Hp0.other W1 ho hne
  obtain ⟨h2, f2, r2, w2⟩ := Ro_become (h := h1) (o := o + 3) hk1 Hp1.2.2.1 (by omega) (by rw [ha1, ← hb1]; exact p1.2.2.1)
  have W2 : FR (SS o) h1 h2 := w2.mono (by simp [SS])
  have Hp2 : ST h2 p g := Hp1.other W2 ho hne
  obtain ⟨h3, f3, r3, w3⟩ := Ro_become (h := h2) (o := o + 5) hk2 Hp2.2.2.2.1 (by omega) (by rw [ha2, ← hb2]; exact p2.2.2.1)
  have W3 : FR (SS o) h2 h3 := w3.mono (by simp [SS])
  have Hp3 : ST h3 p g := Hp2.other W3 ho hne
  rw [f1, ob1_s, f2, ob1_s, f3, ob1_s]
  refine ⟨_, rfl, ?_, ?_⟩
  · obtain ⟨-, -, -, -, x1, x2, x3, x4⟩ := Hp3
    have u1 : RW h3 (o + 1) g.1 := (r1.fr w2 (by simp) (by simp)).fr w3 (by simp) (by simp)
    have u2 : RW h3 (o + 3) g.2.1 := r2.fr w3 (by simp) (by simp)
    refine ⟨ho, ?_, ?_, ?_, ?_, ?_, ?_, ?_⟩
    · exact (((u1.upo (by omega) (by omega)).upo (by omega) (by omega)).upo (by omega) (by omega)).upo (by omega) (by omega)
    · exact (((u2.upo (by omega) (by omega)).upo (by omega) (by omega)).upo (by omega) (by omega)).upo (by omega) (by omega)
    · exact (((r3.upo (by omega) (by omega)).upo (by omega) (by omega)).upo (by omega) (by omega)).upo (by omega) (by omega)
    · rw [up_other (by omega), up_other (by omega), up_other (by omega), up_at]; exact x1
    · rw [up_other (by omega), up_other (by omega), up_at, up_other (by omega)]; exact x2
    · rw [up_other (by omega), up_at, up_other (by omega), up_other (by omega)]; exact x3
    · rw [up_at, up_other (by omega), up_other (by omega), up_other (by omega)]; exact x4
  · have ms : o ∈ SS o := by simp [SS]
    exact ((W1.tr W2).tr W3).tr ((((FR.up ms).tr (FR.up ms)).tr (FR.up ms)).tr (FR.up ms))
def HI (h : MH) (hist : List SG) : Prop := h 17 1 = (hist.length : Int) ∧ hist.length ≤ 4 ∧ ∀ (k : Nat) (g : SG), hist[k]? = some g → ST h (19 + 7 * k) g
theorem slot_at (k : Nat) (hk : k < 4) : F_Hi_slot (k : Int) = some (19 + 7 * k) := by
  unfold F_Hi_slot
  rw [if_neg (by omega), if_pos (by omega)]
  rcases (show k = 0 ∨ k = 1 ∨ k = 2 ∨ k = 3 by omega) with rfl | rfl | rfl | rfl <;> rfl
theorem kd_slot (k : Nat) (hk : k < 4) : kd (19 + 7 * k) = 6 := by
  rcases (show k = 0 ∨ k = 1 ∨ k = 2 ∨ k = 3 by omega) with rfl | rfl | rfl | rfl <;> rfl
theorem copy_ss (a b : Nat) (h : MH) : F_Hi_copy (some a) (some b) h = F_St_become b a h := by
  unfold F_Hi_copy
  show ob1 (F_St_become b a h) _ = _
  cases F_St_become b a h <;> rfl
/-- the history's cells -/
def HS : List Nat := 17 :: (SS 19 ++ SS 26 ++ SS 33 ++ SS 40)
theorem mem_HS {x : Nat} : x ∈ HS ↔ x = 17 ∨ (19 ≤ x ∧ x ≤ 46) := by
  unfold HS
  simp only [List.mem_cons, List.mem_append, mem_SS]
  omega
theorem FR.le {S : List Nat} {h h' : MH} {k : Nat} (F : FR (SS (19 + 7 * k)) h h') (hk : k < 4) : FR HS h h' := F.mono (fun x hx => by
  have := mem_SS.mp hx
  apply mem_HS.mpr
  omega)
theorem drop_loop {hist : List SG} (hl : hist.length ≤ 4) : ∀ (n : Nat) (i : Nat) (h : MH), 1 ≤ i → i ≤ hist.length → h 17 1 = (hist.length : Int) → (∀ (k : Nat) (g : SG), k + 1 < i → hist[k + 1]? = some g → ST h (19 + 7 * k) g) → (∀ (k : Nat) (g : SG), i ≤ k + 1 → hist[k]? = some g → ST h (19 + 7 * k) g) → hist.length < i + n →
    ∃ h', F_Hi_dropOldest_L2 n (i : Int) h = some ((hist.length : Int), h') ∧ h' 17 1 = (hist.length : Int) ∧ (∀ (k : Nat) (g : SG), hist[k + 1]? = some g → ST h' (19 + 7 * k) g) ∧ FR HS h h' := by
  intro n
  induction n with
  | zero => intro i h _ h1 _ _ _ h2; omega
  | succ n ih =>
    intro i h h0 h1 hs ha hb hn
    unfold F_Hi_dropOldest_L2
    rw [hs]
    by_cases hi : i < hist.length
    · rw [if_pos (by omega), wr_id (by omega), wr_id (by omega)]
      have e1 : (i : Int) - 1 = ((i - 1 : Nat) : Int) := by omega
      have e2 : (i : Int) + 1 = ((i + 1 : Nat) : Int) := by omega
      rw [e1, slot_at i (by omega), slot_at (i - 1) (by omega), copy_ss, e2]
      obtain ⟨g, hg⟩ : ∃ g, hist[i]? = some g := ⟨_, List.getElem?_eq_getElem hi⟩
      have Hi0 := hb i g (by omega) hg
      obtain ⟨h', f, r, w⟩ := St_become (h := h) (kd_slot (i - 1) (by omega)) Hi0 (by omega)
      rw [f, ob1_s]
      have ko := kd_slot (i - 1) (by omega)
      obtain ⟨h2, g1, g2, g3, g4⟩ := ih (i + 1) h' (by omega) (by omega) (by rw [w 17 (by rw [mem_SS]; omega)]; exact hs) (fun k q hk hq => by
          by_cases hki : k + 1 = i
          · have : k = i - 1 := by omega
            subst this
            have : i - 1 + 1 = i := by omega
            rw [this, hg] at hq
            cases hq
            exact r
          · exact (ha k q (by omega) hq).other w ko (by omega)) (fun k q hk hq => (hb k q (by omega) hq).other w ko (by omega)) (by omega)
      exact ⟨h2, g1, g2, g3, (w.le (S := []) (by omega)).tr g4⟩
    · rw [if_neg (by omega)]
      have hieq : i = hist.length := by omega
      refine ⟨h, by rw [hieq], hs, fun k q hq => ?_, FR.rf _ _⟩
      have hk : k + 1 < hist.length := (List.getElem?_eq_some_iff.mp hq).1
      exact ha k q (by omega) hq
theorem Hi_dropOldest {h : MH} {hist : List SG} (H : HI h hist) (h0 : 0 < hist.length) : ∃ h', F_Hi_dropOldest h = some h' ∧ HI h' hist.tail ∧ FR HS h h' := by
  obtain ⟨a, b, c⟩ := H
  obtain ⟨h', g1, g2, g3, g4⟩ := drop_loop b FUEL 1 h (Nat.le_refl _) h0 a (fun k g hk => by omega) (fun k g hk hq => c k g hq) (by rw [FUEL_eq]; omega)
  unfold F_Hi_dropOldest
  rw [show ((1 : Nat) : Int) = 1 from rfl] at g1
  rw [g1]
  refine ⟨_, rfl, ⟨?_, ?_, ?_⟩, g4.tr (FR.up (mem_HS.mpr (Or.inl rfl)))⟩
  · rw [up_at, g2, wr_id (by omega), List.length_tail]; omega
  · rw [List.length_tail]; omega
  · intro k g hg
    rw [List.getElem?_tail] at hg
    exact (g3 k g hg).fr (FR.up (S := [17]) (by simp)) (fun x hx => by simp at hx; omega)
def hpush (hist : List SG) (g : SG) : List SG := (if hist.length < 4 then hist else hist.tail) ++ [g]
theorem Hi_record {h : MH} {hist : List SG} {g : SG} (H : HI h hist) (Hs : ST h 3 g) : ∃ h', F_Hi_record 3 h = some h' ∧ HI h' (hpush hist g) ∧ FR HS h h' := by
  unfold F_Hi_record
  dsimp only [jk1]
  have key : ∀ (h1 : MH) (hi : List SG), HI h1 hi → hi.length < 4 → ST h1 3 g → ∃ h', ob1 (F_Hi_copy (some 3) (F_Hi_slot (h1 17 1)) h1) (fun (h6 : MH) => some (up h6 17 1 (wr ((h6 17 1) + 1)))) = some h' ∧ HI h' (hi ++ [g]) ∧ FR HS h1 h' := by
    intro h1 hi Hh hlt Hg
    obtain ⟨a, b, c⟩ := Hh
    rw [a, slot_at _ hlt, copy_ss]
    obtain ⟨h2, f, r, w⟩ := St_become (h := h1) (kd_slot hi.length hlt) Hg (by omega)
    rw [f, ob1_s]
    refine ⟨_, rfl, ⟨?_, ?_, ?_⟩, (w.le (S := []) hlt).tr (FR.up (mem_HS.mpr (Or.inl rfl)))⟩
    · rw [up_at, w 17 (by rw [mem_SS]; omega), a, wr_id (by omega)]
      simp
    · simp; omega
    · intro k q hq
      have fu : FR [17] h2 (up h2 17 1 (wr ((h2 17 1) + 1))) := FR.up (by simp)
      by_cases hk : k < hi.length
      · rw [List.getElem?_append_left hk] at hq
        exact ((c k q hq).other w (kd_slot hi.length hlt) (by omega)).fr fu (fun x hx => by simp at hx; omega)
      · rw [List.getElem?_append_right (by omega)] at hq
        have hk0 : k - hi.length < 1 := (List.getElem?_eq_some_iff.mp hq).1
        have hk1 : k = hi.length := by omega
        subst hk1
        rw [Nat.sub_self] at hq
        cases hq
        exact r.fr fu (fun x hx => by simp at hx; omega)
  unfold hpush
  by_cases h4 : hist.length < 4
  · rw [if_pos (by have := H.1; omega), if_pos h4]
    exact key h hist H h4 Hs
  · rw [if_neg (by have := H.1; omega), if_neg h4]
    obtain ⟨h1, f, Hh, w⟩ := Hi_dropOldest H (by omega)
    rw [f, ob1_s]
    have Hs1 : ST h1 3 g := Hs.fr w (fun x hx => by have := mem_HS.mp hx; omega)
    obtain ⟨h2, g1, g2, g3⟩ := key h1 hist.tail Hh (by rw [List.length_tail]; have := H.2.1; omega) Hs1
    exact ⟨h2, g1, g2, w.tr g3⟩
theorem Hi_takeBack {h : MH} {hist : List SG} {g : SG} (H : HI h (hist ++ [g])) : ∃ h', F_Hi_takeBack 3 h = some h' ∧ HI h' hist ∧ ST h' 3 g ∧ FR (17 :: SS 3) h h' := by
  obtain ⟨a, b, c⟩ := H
  simp only [List.length_append, List.length_cons, List.length_nil] at a b
  unfold F_Hi_takeBack
  rw [if_neg (by omega), up_at, a, wr_id (by omega)]
  have e1 : (((hist.length + (0 + 1) : Nat)) : Int) - 1 = (hist.length : Int) := by omega
  rw [e1, slot_at _ (by omega), copy_ss]
  have fu : FR [17] h (up h 17 1 (hist.length : Int)) := FR.up (by simp)
  have Hg : ST h (19 + 7 * hist.length) g := c hist.length g (by rw [List.getElem?_append_right (Nat.le_refl _), Nat.sub_self]; rfl)
  have Hg1 := Hg.fr fu (fun x hx => by simp at hx; omega)
  obtain ⟨h2, f, r, w⟩ := St_become (o := 3) rfl Hg1 (by omega)
  rw [f, ob1_s]
  refine ⟨h2, rfl, ⟨?_, by omega, ?_⟩, r, (fu.mono (by simp)).tr (w.mono (fun x hx => List.mem_cons_of_mem _ hx))⟩
  · rw [w 17 (by rw [mem_SS]; omega), up_at]
  · intro k q hq
    have hk : k < hist.length := (List.getElem?_eq_some_iff.mp hq).1
    have := c k q (by rw [List.getElem?_append_left hk]; exact hq)
    exact (this.fr fu (fun x hx => by simp at hx; omega)).other w rfl (by omega)
theorem HI.fr {h h' : MH} {hist : List SG} {S : List Nat} (H : HI h hist) (F : FR S h h') (hS : ∀ x ∈ S, x ≠ 17 ∧ (x < 19 ∨ 46 < x)) : HI h' hist := by
  obtain ⟨a, b, c⟩ := H
  refine ⟨by rw [F 17 (fun hm => (hS _ hm).1 rfl)]; exact a, b, fun k g hg => (c k g hg).fr F (fun x hx => ?_)⟩
  have hk : k < hist.length := (List.getElem?_eq_some_iff.mp hg).1
  have := hS x hx
  omega
/-- the system's memory: the pad, the state, the history, the snapshot -/
def CR (h : MH) (pad : List Int) (g : SG) (hist : List SG) (sv : Option SG) : Prop :=
  RW h 1 pad ∧ ST h 3 g ∧ HI h hist ∧ h 0 3 = (if sv = none then 0 else 1) ∧ ∀ q, sv = some q → ST h 10 q
theorem CR.fr {h h' : MH} {pad : List Int} {g : SG} {hist : List SG} {sv : Option SG} {S : List Nat} (H : CR h pad g hist sv) (F : FR S h h') (hS : ∀ x ∈ S, 46 < x) : CR h' pad g hist sv := by
  obtain ⟨a, b, c, d, e⟩ := H
  have hn : ∀ x, x ≤ 46 → x ∉ S := fun x hx hm => by have := hS x hm; omega
  exact ⟨a.fr F (hn 1 (by omega)) (hn 2 (by omega)), b.fr F (fun x hx => by have := hS x hx; omega), c.fr F (fun x hx => by have := hS x hx; omega), by rw [F 0 (hn 0 (by omega))]; exact d, fun q hq => (e q hq).fr F (fun x hx => by have := hS x hx; omega)⟩

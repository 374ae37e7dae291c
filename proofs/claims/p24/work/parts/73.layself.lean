/-! ===== the patches laid on their own text ===== -/
theorem pt_app_len (ks ss : List Int) (k : Int) (a m n : Nat) : (pt ks ss k a (m + n)).length = (pt ks ss k a m).length + (pt ks ss k (a + m) n).length := by rw [pt_split, List.length_append]
theorem pt_kept {ks ss : List Int} (hk : KOK ks) {a n : Nat} (hn : a + n ≤ ks.length) (hz : ∀ p, a ≤ p → p < a + n → ¬ kz ks p) {k k' : Int} (h1 : k = 1 ∨ k = 2) (h2 : k' = 1 ∨ k' = 2) : pt ks ss k a n = pt ks ss k' a n := by
  have e : ∀ kk : Int, kk = 1 ∨ kk = 2 → pt ks ss kk a n = sgm ss a n := fun kk hkk => pt_every n (fun p g1 g2 => by
    have := (hk.not (p := p) (by omega)).mp (hz p g1 g2)
    omega)
  rw [e k h1, e k' h2]
theorem mid_get {A B C : List Int} {i : Nat} (hi : i < B.length) : (A ++ (B ++ C)).getD (A.length + i) (-1) = B.getD i (-1) := by
  rw [List.getD_eq_getElem?_getD, List.getD_eq_getElem?_getD, List.getElem?_append_right (Nat.le_add_right _ _), Nat.add_sub_cancel_left, List.getElem?_append_left hi]
theorem fit_mid {A B C : List Int} {f : Int} (hf : f ≤ (A.length : Int)) : fit (A ++ (B ++ C)) B f (A.length : Int) = true := by
  unfold fit
  rw [Bool.and_eq_true]
  refine ⟨decide_eq_true ⟨hf, by rw [List.length_append, List.length_append]; omega⟩, (mtb_iff _ _ _ _).mpr (fun i hi => ?_)⟩
  rw [show ((A.length : Int)) + (i : Int) = ((A.length + i : Nat) : Int) by omega, lgn, lgn, mid_get hi]
theorem fnd_here {T out : List Int} {f w : Int} (h : fit T out f w = true) : fnd T out f w 113 0 = w := by
  rw [fnd]
  have e : w - ((0 : Nat) : Int) = w := by omega
  rw [e, if_pos h]
theorem rp_mid (A B C I : List Int) : rp (A ++ (B ++ C)) A.length B.length I = A ++ (I ++ C) := by
  unfold rp
  rw [List.take_left, ← List.append_assoc A B C, ← List.length_append, List.drop_left]
/-- what holds behind the first k patches -/
def JL (ks ss : List Int) (H : HL) (dn : Int) (k : Nat) (S : LayS) : Prop :=
  S.1 = pt ks ss (sA dn) 0 (pvE H k) ++ pt ks ss (sR dn) (pvE H k) (ks.length - pvE H k) ∧ pvE H k ≤ ks.length ∧ S.2.1.length = k ∧ S.2.2.1.length = k ∧
  (∀ i, i < k → S.2.1.getD i (-1) ≠ -4 ∧ S.2.2.1.getD i (-1) = 0) ∧ S.2.2.2.1 = (k : Int) ∧ S.2.2.2.2.2.1 = 0 ∧
  S.2.2.2.2.2.2.1 = ((pt ks ss (sA dn) 0 (pvE H k)).length : Int) - ((pt ks ss (sR dn) 0 (pvE H k)).length : Int) ∧ S.2.2.2.2.2.2.2 = ((pt ks ss (sA dn) 0 (pvE H k)).length : Int)
theorem snoc_at {l : List Int} {v : Int} {k i : Nat} (hl : l.length = k) (hi : i < k + 1) : (l ++ [v]).getD i (-1) = if i < k then l.getD i (-1) else v := by
  have := app_get l v i (by rw [List.length_append]; simp only [List.length_singleton]; omega)
  rw [this]
  by_cases c : i < k
  · rw [if_neg (by omega), if_pos c]
  · rw [if_pos (by omega), if_neg c]
theorem JL_step {ks ss : List Int} {H : HL} (hs : HSP ks H) (hk : KOK ks) {dn : Int} {most k : Nat} {S : LayS} (J : JL ks ss H dn k S) {q : Nat × Nat} (hq : H[k]? = some q) : JL ks ss H dn (k + 1) (lst ks ss H most dn k S) := by
  obtain ⟨j1, j2, j3, j4, j5, j6, j7, j8, j9⟩ := J
  have hm := List.mem_of_getElem? hq
  have a1 := hs.1.2 q hm
  have a2 := hs.2.1 q hm
  obtain ⟨b1, b2⟩ := ard_bd hs hq most
  have pv := pvE_le hs hq
  have nx := nxT_ge hs hq
  have eA : aT H ks.length k q most = q.1 - ard H ks.length k q most 0 := rfl
  have eE : aE H ks.length k q most = q.2 + ard H ks.length k q most 1 := rfl
  obtain ⟨r1, r2⟩ := sRA dn
  have hpv : pvE H (k + 1) = q.2 := pvE_next hq
  obtain ⟨e, he⟩ : ∃ e, e = pvE H k := ⟨_, rfl⟩
  obtain ⟨a, ha⟩ : ∃ a, a = aT H ks.length k q most := ⟨_, rfl⟩
  obtain ⟨b, hb⟩ : ∃ b, b = aE H ks.length k q most := ⟨_, rfl⟩
  rw [← he] at j1 j2 j8 j9 pv b1
  rw [← ha] at eA
  rw [← hb] at eE
  have x1 : e ≤ a := by omega
  have x2 : a ≤ b := by omega
  have x3 : b ≤ ks.length := by omega
  -- between the hunks
  have m1 : pt ks ss (sR dn) e (a - e) = pt ks ss (sA dn) e (a - e) := pt_kept hk (by omega) (fun p g1 g2 => pv.2.1 p g1 (by omega)) r1 r2
  have m2 : pt ks ss (sA dn) q.2 (b - q.2) = pt ks ss (sR dn) q.2 (b - q.2) := pt_kept hk (by omega) (fun p g1 g2 => nx.2.2.1 p g1 (by omega)) r2 r1
  have s1 : pt ks ss (sA dn) 0 a = pt ks ss (sA dn) 0 e ++ pt ks ss (sA dn) e (a - e) := by
    have := pt_split ks ss (sA dn) 0 e (a - e)
    rwa [show e + (a - e) = a by omega, Nat.zero_add] at this
  have s1' : pt ks ss (sR dn) 0 a = pt ks ss (sR dn) 0 e ++ pt ks ss (sR dn) e (a - e) := by
    have := pt_split ks ss (sR dn) 0 e (a - e)
    rwa [show e + (a - e) = a by omega, Nat.zero_add] at this
  have s2 : pt ks ss (sR dn) e (ks.length - e) = pt ks ss (sR dn) e (a - e) ++ (pt ks ss (sR dn) a (b - a) ++ pt ks ss (sR dn) b (ks.length - b)) := by
    have u := pt_split ks ss (sR dn) e (a - e) (ks.length - a)
    have v := pt_split ks ss (sR dn) a (b - a) (ks.length - b)
    rw [show a - e + (ks.length - a) = ks.length - e by omega, show e + (a - e) = a by omega] at u
    rw [show b - a + (ks.length - b) = ks.length - a by omega, show a + (b - a) = b by omega] at v
    rw [u, v]
  have s3 : ∀ kk, pt ks ss kk 0 b = pt ks ss kk 0 a ++ pt ks ss kk a (b - a) := fun kk => by
    have := pt_split ks ss kk 0 a (b - a)
    rwa [show a + (b - a) = b by omega, Nat.zero_add] at this
  have s4 : ∀ kk, pt ks ss kk 0 b = pt ks ss kk 0 q.2 ++ pt ks ss kk q.2 (b - q.2) := fun kk => by
    have := pt_split ks ss kk 0 q.2 (b - q.2)
    rwa [show q.2 + (b - q.2) = b by omega, Nat.zero_add] at this
  have s5 : pt ks ss (sR dn) q.2 (ks.length - q.2) = pt ks ss (sR dn) q.2 (b - q.2) ++ pt ks ss (sR dn) b (ks.length - b) := by
    have := pt_split ks ss (sR dn) q.2 (b - q.2) (ks.length - b)
    rwa [show b - q.2 + (ks.length - b) = ks.length - q.2 by omega, show q.2 + (b - q.2) = b by omega] at this
  have oe : oP ks ss H most dn k q = pt ks ss (sR dn) a (b - a) := by unfold oP; rw [← ha, ← hb]
  have ie : iP ks ss H most dn k q = pt ks ss (sA dn) a (b - a) := by unfold iP; rw [← ha, ← hb]
  have T1 : S.1 = pt ks ss (sA dn) 0 a ++ (pt ks ss (sR dn) a (b - a) ++ pt ks ss (sR dn) b (ks.length - b)) := by
    rw [j1, s2, s1, m1, List.append_assoc]
  have l1 := congrArg List.length s1
  have l1' := congrArg List.length s1'
  have lm := congrArg List.length m1
  rw [List.length_append] at l1 l1'
  have pl0 := pt_len ks ss (sR dn) 0 a
  have we : wP ks H most dn k q S = ((pt ks ss (sA dn) 0 a).length : Int) := by
    unfold wP
    rw [← ha, j7, j8]
    omega
  have ft : fit S.1 (oP ks ss H most dn k q) S.2.2.2.2.2.2.2 (wP ks H most dn k q S) = true := by
    rw [oe, T1, we, j9]
    exact fit_mid (by omega)
  have fe : fP ks ss H most dn k q S = ((pt ks ss (sA dn) 0 a).length : Int) := by
    unfold fP
    rw [fnd_here ft, we]
  have re : rp S.1 (fP ks ss H most dn k q S).toNat (oP ks ss H most dn k q).length (iP ks ss H most dn k q) = pt ks ss (sA dn) 0 q.2 ++ pt ks ss (sR dn) q.2 (ks.length - q.2) := by
    rw [fe, nn, oe, ie, T1, rp_mid, s5, ← m2, ← List.append_assoc (pt ks ss (sA dn) 0 a), ← s3, s4, List.append_assoc]
  have L3 := fun kk => congrArg List.length (s3 kk)
  have L4 := fun kk => congrArg List.length (s4 kk)
  simp only [List.length_append] at L3 L4
  have L3a := L3 (sA dn)
  have L3r := L3 (sR dn)
  have L4a := L4 (sA dn)
  have L4r := L4 (sR dn)
  have lm2 := congrArg List.length m2
  have pq := pt_len ks ss (sA dn) q.2 (b - q.2)
  have cz : cn ks (sA dn) q.2 (b - q.2) = 0 := cn_zero _ (fun p g1 g2 => by
    have := (hk.not (p := p) (by omega)).mp (nx.2.2.1 p g1 (by omega))
    omega)
  unfold lst
  rw [hq]
  dsimp only
  rw [if_neg (by rw [fe]; omega)]
  refine ⟨?_, by rw [hpv]; exact a2, ?_, ?_, ?_, ?_, ?_, ?_, ?_⟩
  · show rp S.1 _ _ _ = _
    rw [hpv]; exact re
  · show (S.2.1 ++ [_]).length = k + 1
    rw [List.length_append, j3]; rfl
  · show (S.2.2.1 ++ [_]).length = k + 1
    rw [List.length_append, j4]; rfl
  · intro i hi
    show (S.2.1 ++ [_]).getD i (-1) ≠ -4 ∧ (S.2.2.1 ++ [_]).getD i (-1) = 0
    rw [snoc_at j3 hi, snoc_at j4 hi]
    by_cases c : i < k
    · rw [if_pos c, if_pos c]; exact j5 i c
    · rw [if_neg c, if_neg c, fe, we]; omega
  · show S.2.2.2.1 + 1 = _
    rw [j6]; omega
  · show S.2.2.2.2.2.1 + (fP ks ss H most dn k q S - wP ks H most dn k q S) = 0
    rw [j7, fe, we]; omega
  · show S.2.2.2.2.2.2.1 + (((iP ks ss H most dn k q).length : Int) - ((oP ks ss H most dn k q).length : Int)) = _
    rw [j8, oe, ie, hpv]; omega
  · show fP ks ss H most dn k q S + ((iP ks ss H most dn k q).length : Int) - ((ard H ks.length k q most 1 : Nat) : Int) = _
    rw [fe, ie, hpv]; omega
theorem JL_run {ks ss : List Int} {H : HL} (hs : HSP ks H) (hk : KOK ks) {dn : Int} {most : Nat} : ∀ (r k : Nat) (S : LayS), JL ks ss H dn k S → k + r = H.length → JL ks ss H dn H.length (lsn ks ss H most dn r k S) := by
  intro r
  induction r with
  | zero =>
    intro k S J h
    have : k = H.length := by omega
    subst this
    exact J
  | succ r ih =>
    intro k S J h
    rw [lsn]
    have hkl : k < H.length := by omega
    exact ih (k + 1) _ (JL_step hs hk J (List.getElem?_eq_getElem hkl)) (by omega)
/-- laid on the text that they go from, all patches are laid at their places, and make the other text -/
theorem lay_self {ks ss : List Int} {H : HL} (hs : HSP ks H) (hk : KOK ks) (dn : Int) (most : Nat) {T : List Int} (hT : T = pt ks ss (sR dn) 0 ks.length) :
    (lay ks ss H most dn T).1 = pt ks ss (sA dn) 0 ks.length ∧ (∀ i, i < H.length → (lay ks ss H most dn T).2.1.getD i (-1) ≠ -4 ∧ (lay ks ss H most dn T).2.2.1.getD i (-1) = 0) ∧ (lay ks ss H most dn T).2.2.2.1 = (H.length : Int) := by
  have J0 : JL ks ss H dn 0 (S0 T) := by
    have e0 : pvE H 0 = 0 := rfl
    refine ⟨?_, by rw [e0]; omega, rfl, rfl, fun i hi => absurd hi (Nat.not_lt_zero _), rfl, rfl, ?_, ?_⟩
    · rw [e0, Nat.sub_zero]; exact hT
    · rw [e0]; rfl
    · rw [e0]; rfl
  have J := JL_run (most := most) hs hk H.length 0 (S0 T) J0 (by omega)
  have e : lsn ks ss H most dn H.length 0 (S0 T) = lay ks ss H most dn T := rfl
  rw [e] at J
  obtain ⟨j1, j2, j3, j4, j5, j6, j7, j8, j9⟩ := J
  refine ⟨?_, j5, j6⟩
  obtain ⟨r1, r2⟩ := sRA dn
  have idle : ∀ p, pvE H H.length ≤ p → ¬ kz ks p := fun p hp => by
    refine hs.idle (lo := H.length) (hi := H.length) (fun j r hj hlt => ?_) (fun j r hj hge => absurd (List.getElem?_eq_some_iff.mp hj).1 (by omega))
    by_cases c : j + 1 = H.length
    · have := pvE_next hj
      rw [c] at this
      omega
    · have h0 : H.length - 1 < H.length := by omega
      have hl := List.getElem?_eq_getElem h0
      have lt := hs.1.lt hj hl (by omega)
      have pn := pvE_next hl
      rw [show H.length - 1 + 1 = H.length by omega] at pn
      have q1 := hs.1.2 _ (List.mem_of_getElem? hl)
      omega
  rw [j1, pt_kept hk (a := pvE H H.length) (by omega) (fun p g1 g2 => idle p g1) r1 r2]
  have := pt_split ks ss (sA dn) 0 (pvE H H.length) (ks.length - pvE H H.length)
  rw [show pvE H H.length + (ks.length - pvE H H.length) = ks.length by omega, Nat.zero_add] at this
  exact this.symm

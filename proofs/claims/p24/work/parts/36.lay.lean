/-! ===== one hunk after the other is laid: what comes of it ===== -/
def rp (T : List Int) (p n : Nat) (I : List Int) : List Int := T.take p ++ (I ++ T.drop (p + n))
theorem rp_len {T : List Int} {p n : Nat} (I : List Int) (h : p + n ≤ T.length) : (rp T p n I).length = T.length - n + I.length := by
  unfold rp
  rw [List.length_append, List.length_append, List.length_take, List.length_drop, Nat.min_eq_left (by omega)]
  omega
theorem rp_0 (T : List Int) (p : Nat) : rp T p 0 [] = T := by unfold rp; rw [List.nil_append, Nat.add_zero, List.take_append_drop]
theorem rp_del {T : List Int} {p n : Nat} (h : p + n < T.length) : del (rp T p n []) p = rp T p (n + 1) [] := by
  unfold del rp
  rw [List.nil_append, List.nil_append]
  have e : (T.take p).length = p := by rw [List.length_take, Nat.min_eq_left (by omega)]
  rw [List.take_append_of_le_length (by omega), List.take_of_length_le (by omega), List.drop_append, List.drop_of_length_le (by omega), List.nil_append, e, List.drop_drop]
  rw [show p + n + (p + 1 - p) = p + (n + 1) by omega]
theorem rp_ins {T : List Int} {p n : Nat} {I : List Int} (v : Int) (h : p + n ≤ T.length) : ins (rp T p n I) (p + I.length) v = rp T p n (I ++ [v]) := by
  unfold ins rp
  have e : (T.take p).length = p := by rw [List.length_take, Nat.min_eq_left (by omega)]
  rw [List.take_append, List.drop_append, e, List.take_of_length_le (by omega), List.drop_of_length_le (l := T.take p) (by omega), show p + I.length - p = I.length by omega, List.take_append_of_le_length (Nat.le_refl _), List.take_of_length_le (Nat.le_refl _), List.drop_append, List.drop_of_length_le (l := I) (Nat.le_refl _), Nat.sub_self, List.drop_zero, List.nil_append]
  simp
theorem cn_split (ks : List Int) (k : Int) (a : Nat) : ∀ (n : Nat), cn ks k 0 (a + n) = cn ks k 0 a + cn ks k a n := by
  intro n
  induction n with
  | zero => rw [Nat.add_zero, cn]; omega
  | succ n ih => rw [← Nat.add_assoc, cn, cn, ih, Nat.zero_add]; omega
theorem cn_mono (ks : List Int) (k : Int) {a b : Nat} (h : a ≤ b) : cn ks k 0 a ≤ cn ks k 0 b := by
  have := cn_split ks k a (b - a)
  rw [show a + (b - a) = b by omega] at this
  have := cn_bd ks k a (b - a)
  omega
/-- text, places, differences, how many are laid, the longest, shift, growth, the first place that is free -/
abbrev LayS : Type := List Int × List Int × List Int × Int × Int × Int × Int × Int
def aT (H : HL) (L k : Nat) (q : Nat × Nat) (most : Nat) : Nat := q.1 - ard H L k q most 0
def aE (H : HL) (L k : Nat) (q : Nat × Nat) (most : Nat) : Nat := q.2 + ard H L k q most 1
def oP (ks ss : List Int) (H : HL) (most : Nat) (dn : Int) (k : Nat) (q : Nat × Nat) : List Int := pt ks ss (sR dn) (aT H ks.length k q most) (aE H ks.length k q most - aT H ks.length k q most)
def iP (ks ss : List Int) (H : HL) (most : Nat) (dn : Int) (k : Nat) (q : Nat × Nat) : List Int := pt ks ss (sA dn) (aT H ks.length k q most) (aE H ks.length k q most - aT H ks.length k q most)
def wP (ks : List Int) (H : HL) (most : Nat) (dn : Int) (k : Nat) (q : Nat × Nat) (S : LayS) : Int := ((aT H ks.length k q most : Nat) : Int) - cn ks (sR dn) 0 (aT H ks.length k q most) + S.2.2.2.2.2.2.1 + S.2.2.2.2.2.1
def fP (ks ss : List Int) (H : HL) (most : Nat) (dn : Int) (k : Nat) (q : Nat × Nat) (S : LayS) : Int := fnd S.1 (oP ks ss H most dn k q) S.2.2.2.2.2.2.2 (wP ks H most dn k q S) 113 0
def lst (ks ss : List Int) (H : HL) (most : Nat) (dn : Int) (k : Nat) (S : LayS) : LayS :=
  match H[k]? with
  | none => S
  | some q =>
    if fP ks ss H most dn k q S = -4 then (S.1, S.2.1 ++ [fP ks ss H most dn k q S], S.2.2.1 ++ [fP ks ss H most dn k q S - wP ks H most dn k q S], S.2.2.2)
    else (rp S.1 (fP ks ss H most dn k q S).toNat (oP ks ss H most dn k q).length (iP ks ss H most dn k q), S.2.1 ++ [fP ks ss H most dn k q S], S.2.2.1 ++ [fP ks ss H most dn k q S - wP ks H most dn k q S],
      S.2.2.2.1 + 1, imax S.2.2.2.2.1 ((rp S.1 (fP ks ss H most dn k q S).toNat (oP ks ss H most dn k q).length (iP ks ss H most dn k q)).length : Int), S.2.2.2.2.2.1 + (fP ks ss H most dn k q S - wP ks H most dn k q S),
      S.2.2.2.2.2.2.1 + (((iP ks ss H most dn k q).length : Int) - ((oP ks ss H most dn k q).length : Int)), fP ks ss H most dn k q S + ((iP ks ss H most dn k q).length : Int) - ((ard H ks.length k q most 1 : Nat) : Int))
theorem ard_bd {ks : List Int} {H : HL} (hs : HSP ks H) {k : Nat} {q : Nat × Nat} (hq : H[k]? = some q) (most : Nat) : ard H ks.length k q most 0 ≤ q.1 - pvE H k ∧ ard H ks.length k q most 1 ≤ nxT H k ks.length - q.2 := by
  unfold ard nmin gap
  rw [if_pos rfl, if_neg (show ¬ (1 : Int) = 0 by decide)]
  constructor
  · split <;> omega
  · split <;> omega
/-- the part's lines around a hunk are kept ones -/
theorem part_facts {ks ss : List Int} {H : HL} (hs : HSP ks H) (hk : KOK ks) {k : Nat} {q : Nat × Nat} (hq : H[k]? = some q) (most : Nat) (kd : Int) (hkd : kd = 1 ∨ kd = 2) :
    pvE H k ≤ aT H ks.length k q most ∧ aT H ks.length k q most ≤ q.1 ∧ q.2 ≤ aE H ks.length k q most ∧ aE H ks.length k q most ≤ ks.length ∧ cn ks kd (aT H ks.length k q most) (aE H ks.length k q most - aT H ks.length k q most) = cn ks kd q.1 (q.2 - q.1) ∧ cn ks kd 0 (pvE H k) + cn ks kd q.1 (q.2 - q.1) ≤ cn ks kd 0 q.2 := by
  have b := ard_bd hs hq most
  have e1 := pvE_le hs hq
  have e2 := nxT_ge hs hq
  have hm := List.mem_of_getElem? hq
  have a1 := hs.1.2 q hm
  have a2 := hs.2.1 q hm
  unfold aT aE
  generalize ard H ks.length k q most 0 = u at b ⊢
  generalize ard H ks.length k q most 1 = d at b ⊢
  have hne : ∀ p, p < ks.length → ¬ kz ks p → ks.getD p (-1) ≠ kd := by
    intro p hp hz e
    have := (hk.not hp).mp hz
    rw [this] at e
    omega
  have z1 : cn ks kd (q.1 - u) u = 0 := cn_zero u (fun p h1 h2 => hne p (by omega) (e1.2.1 p (by omega) (by omega)))
  have z2 : cn ks kd q.2 d = 0 := cn_zero d (fun p h1 h2 => hne p (by omega) (e2.2.2.1 p (by omega) (by omega)))
  have s1 := cn_split ks kd (q.1 - u) (q.2 + d - (q.1 - u))
  have s2 := cn_split ks kd (q.1 - u) u
  have s3 := cn_split ks kd q.1 (q.2 - q.1)
  have s4 := cn_split ks kd q.2 d
  rw [show q.1 - u + (q.2 + d - (q.1 - u)) = q.2 + d by omega] at s1
  rw [show q.1 - u + u = q.1 by omega] at s2
  rw [show q.1 + (q.2 - q.1) = q.2 by omega] at s3
  have mo := cn_mono ks kd e1.1
  refine ⟨by omega, by omega, by omega, by omega, by omega, by omega⟩
/-- what holds of the laying all the time -/
def LI (ks : List Int) (H : HL) (dn : Int) (n0 k : Nat) (S : LayS) : Prop :=
  (S.1.length : Int) ≤ 14 + cn ks (sR dn) 0 (pvE H k) ∧ S.2.1.length = k ∧ S.2.2.1.length = k ∧ (0 ≤ S.2.2.2.1 ∧ S.2.2.2.1 ≤ (k : Int)) ∧ (0 ≤ S.2.2.2.2.1 ∧ S.2.2.2.2.1 ≤ 28) ∧
  (-56 ≤ S.2.2.2.2.2.1 + S.2.2.2.2.2.2.1 ∧ S.2.2.2.2.2.1 + S.2.2.2.2.2.2.1 ≤ 56) ∧ S.2.2.2.2.2.2.1 = (S.1.length : Int) - (n0 : Int) ∧ (0 ≤ S.2.2.2.2.2.2.2 ∧ S.2.2.2.2.2.2.2 ≤ 100)
theorem sRA (dn : Int) : (sR dn = 1 ∨ sR dn = 2) ∧ (sA dn = 1 ∨ sA dn = 2) := by
  unfold sR sA
  split
  · exact ⟨Or.inr rfl, Or.inl rfl⟩
  · exact ⟨Or.inl rfl, Or.inr rfl⟩
theorem fnd_spec {T out : List Int} {first w : Int} : ∀ (n d : Nat), fnd T out first w n d = -4 ∨ fit T out first (fnd T out first w n d) = true := by
  intro n
  induction n with
  | zero => intro d; exact Or.inl rfl
  | succ n ih =>
    intro d
    rw [fnd]
    by_cases c1 : fit T out first (w - (d : Int)) = true
    · rw [if_pos c1]; exact Or.inr c1
    · rw [if_neg c1]
      by_cases c2 : fit T out first (w + (d : Int)) = true
      · rw [if_pos c2]; exact Or.inr c2
      · rw [if_neg c2]; exact ih (d + 1)
theorem pvE_next {H : HL} {k : Nat} {q : Nat × Nat} (hq : H[k]? = some q) : pvE H (k + 1) = q.2 := by
  unfold pvE
  rw [if_neg (by omega), Nat.add_sub_cancel, hq]
  rfl
/-- bounds that one step needs -/
theorem lay_bd {ks ss : List Int} {H : HL} (hs : HSP ks H) (hk : KOK ks) (h28 : ks.length ≤ 28) {k : Nat} {q : Nat × Nat} (hq : H[k]? = some q) {most : Nat} {dn : Int} {n0 : Nat} (hn0 : n0 ≤ 14) (hc : cn ks (sR dn) 0 ks.length ≤ 14) {S : LayS} (I : LI ks H dn n0 k S) :
    S.1.length ≤ 28 ∧ (-70 ≤ wP ks H most dn k q S ∧ wP ks H most dn k q S ≤ 84) ∧ (oP ks ss H most dn k q).length ≤ 28 ∧ (iP ks ss H most dn k q).length ≤ 28 ∧
    (0 ≤ ((aT H ks.length k q most : Nat) : Int) - cn ks (sR dn) 0 (aT H ks.length k q most) ∧ ((aT H ks.length k q most : Nat) : Int) - cn ks (sR dn) 0 (aT H ks.length k q most) ≤ 28) ∧
    ((S.1.length : Int) + ((iP ks ss H most dn k q).length : Int) - ((oP ks ss H most dn k q).length : Int) ≤ 14 + cn ks (sR dn) 0 q.2) ∧ cn ks (sR dn) 0 q.2 ≤ 14 ∧ ((ard H ks.length k q most 1 : Nat) : Int) ≤ ((iP ks ss H most dn k q).length : Int) := by
  obtain ⟨i1, i2, i3, i4, i5, i6, i7, i8⟩ := I
  have p := part_facts (ss := ss) hs hk hq most (sR dn) (sRA dn).1
  have p2 := part_facts (ss := ss) hs hk hq most (sA dn) (sRA dn).2
  have hm := List.mem_of_getElem? hq
  have a1 := hs.1.2 q hm
  have a2 := hs.2.1 q hm
  have m1 := cn_mono ks (sR dn) a2
  have m2 := cn_mono ks (sR dn) (Nat.le_trans (pvE_le hs hq).1 (Nat.le_of_lt a1))
  have l1 := pt_len ks ss (sR dn) (aT H ks.length k q most) (aE H ks.length k q most - aT H ks.length k q most)
  have l2 := pt_len ks ss (sA dn) (aT H ks.length k q most) (aE H ks.length k q most - aT H ks.length k q most)
  have l3 := pt_le ks ss (sR dn) (aT H ks.length k q most) (aE H ks.length k q most - aT H ks.length k q most)
  have l4 := pt_le ks ss (sA dn) (aT H ks.length k q most) (aE H ks.length k q most - aT H ks.length k q most)
  have b1 := cn_bd ks (sR dn) 0 (aT H ks.length k q most)
  have b2 := cn_bd ks (sA dn) q.1 (q.2 - q.1)
  have b3 := cn_bd ks (sR dn) q.1 (q.2 - q.1)
  have b4 := cn_bd ks (sR dn) 0 q.2
  have eE : aE H ks.length k q most = q.2 + ard H ks.length k q most 1 := rfl
  unfold wP oP iP
  generalize pt ks ss (sR dn) (aT H ks.length k q most) (aE H ks.length k q most - aT H ks.length k q most) = o at *
  generalize pt ks ss (sA dn) (aT H ks.length k q most) (aE H ks.length k q most - aT H ks.length k q most) = ii at *
  generalize aT H ks.length k q most = a at *
  generalize aE H ks.length k q most = e at *
  generalize ard H ks.length k q most 1 = d at *
  generalize cn ks (sR dn) 0 a = c1 at *
  generalize cn ks (sR dn) 0 q.2 = c2 at *
  generalize cn ks (sR dn) 0 (pvE H k) = c3 at *
  generalize cn ks (sR dn) q.1 (q.2 - q.1) = c4 at *
  generalize cn ks (sA dn) q.1 (q.2 - q.1) = c5 at *
  generalize cn ks (sR dn) 0 ks.length = c6 at *
  refine ⟨by omega, by omega, by omega, by omega, by omega, by omega, by omega, by omega⟩
theorem lst_ok {ks ss : List Int} {H : HL} (hs : HSP ks H) (hk : KOK ks) (h28 : ks.length ≤ 28) {k : Nat} {q : Nat × Nat} (hq : H[k]? = some q) {most : Nat} {dn : Int} {n0 : Nat} (hn0 : n0 ≤ 14) (hc : cn ks (sR dn) 0 ks.length ≤ 14) {S : LayS} (I : LI ks H dn n0 k S) : LI ks H dn n0 (k + 1) (lst ks ss H most dn k S) := by
  have B := lay_bd (ss := ss) (most := most) hs hk h28 hq hn0 hc I
  obtain ⟨i1, i2, i3, i4, i5, i6, i7, i8⟩ := I
  have hm := List.mem_of_getElem? hq
  have mo := cn_mono ks (sR dn) (Nat.le_trans (pvE_le hs hq).1 (Nat.le_of_lt (hs.1.2 q hm)))
  unfold lst
  rw [hq]
  dsimp only
  have hf := fnd_spec (T := S.1) (out := oP ks ss H most dn k q) (first := S.2.2.2.2.2.2.2) (w := wP ks H most dn k q S) 113 0
  have hfe : fnd S.1 (oP ks ss H most dn k q) S.2.2.2.2.2.2.2 (wP ks H most dn k q S) 113 0 = fP ks ss H most dn k q S := rfl
  rw [hfe] at hf
  by_cases c : fP ks ss H most dn k q S = -4
  · rw [if_pos c]
    unfold LI
    rw [pvE_next hq]
    exact ⟨by show (S.1.length : Int) ≤ _; omega, by simp [i2], by simp [i3], by show 0 ≤ S.2.2.2.1 ∧ S.2.2.2.1 ≤ ((k + 1 : Nat) : Int); omega, i5, i6, i7, i8⟩
  · rw [if_neg c]
    obtain ⟨f1, f2, f3⟩ := fit_in (hf.resolve_left c)
    have ew : wP ks H most dn k q S = ((aT H ks.length k q most : Nat) : Int) - cn ks (sR dn) 0 (aT H ks.length k q most) + S.2.2.2.2.2.2.1 + S.2.2.2.2.2.1 := rfl
    generalize fP ks ss H most dn k q S = f at *
    have hl := rp_len (T := S.1) (p := f.toNat) (n := (oP ks ss H most dn k q).length) (iP ks ss H most dn k q) (by omega)
    unfold LI
    rw [pvE_next hq]
    dsimp only
    generalize rp S.1 f.toNat (oP ks ss H most dn k q).length (iP ks ss H most dn k q) = T' at *
    have him : imax S.2.2.2.2.1 (T'.length : Int) = S.2.2.2.2.1 ∨ imax S.2.2.2.2.1 (T'.length : Int) = (T'.length : Int) := by
      unfold imax
      split
      · exact Or.inr rfl
      · exact Or.inl rfl
    refine ⟨by omega, by simp [i2], by simp [i3], by omega, by rcases him with e | e <;> rw [e] <;> omega, by omega, by omega, by omega⟩

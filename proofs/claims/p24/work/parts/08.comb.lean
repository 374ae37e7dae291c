/-! ===== what the functions F_.. are made of, and the rules as the walks use them ===== -/
def FUEL : Nat := 1000
def gd {α : Type} (c : Prop) [Decidable c] (x : Option α) : Option α := if c then x else none
def om {α : Type} (o : Option Nat) (a : α) (f : Nat → α) : α := match o with
  | none => a
  | some i => f i
def os {α β γ : Type} (x : Option (Sum α β)) (f : α → Option γ) (g : β → Option γ) : Option γ := match x with
  | none => none
  | some (.inl a) => f a
  | some (.inr b) => g b
theorem ite_t {α : Type} {c : Prop} [Decidable c] {a b r : α} (hc : c) (h : (if c then a else b) = r) : a = r := by rwa [if_pos hc] at h
theorem ite_f {α : Type} {c : Prop} [Decidable c] {a b r : α} (hc : ¬ c) (h : (if c then a else b) = r) : b = r := by rwa [if_neg hc] at h
theorem gd_elim {α : Type} {c : Prop} [Decidable c] {x : Option α} {r : α} (h : gd c x = some r) : c ∧ x = some r := by
  unfold gd at h
  by_cases hc : c
  · rw [if_pos hc] at h; exact ⟨hc, h⟩
  · rw [if_neg hc] at h; cases h
theorem om_n {α : Type} {o : Option Nat} {a r : α} {f : Nat → α} (ho : o = none) (h : om o a f = r) : a = r := by subst ho; exact h
theorem om_s {α : Type} {o : Option Nat} {i : Nat} {a r : α} {f : Nat → α} (ho : o = some i) (h : om o a f = r) : f i = r := by subst ho; exact h
theorem os_elim {α β γ : Type} {x : Option (Sum α β)} {f : α → Option γ} {g : β → Option γ} {r : γ} (h : os x f g = some r) : ∃ out, x = some out ∧ (∀ a, out = Sum.inl a → f a = some r) ∧ (∀ b, out = Sum.inr b → g b = some r) := by
  cases x with
  | none => cases h
  | some out =>
    refine ⟨out, rfl, fun a ha => ?_, fun b hb => ?_⟩
    · subst ha; exact h
    · subst hb; exact h
theorem sub_of {L L' : ML} (ks : List Nat) (h : ks.filterMap (fun k => L[k]?) = L') : ∀ q ∈ L', q ∈ L := by
  intro q hq
  rw [← h] at hq
  obtain ⟨k, -, hk⟩ := List.mem_filterMap.mp hq
  exact List.mem_of_getElem? hk
section GRULES
variable {own : String} {cc : ByteArray} {nL : Nat} {ret : Option FieldType} {fl : Nat → Option (Nat × Nat)} {d : Nat} {K : KT} {L : ML} {st : List MV} {h : MH}
theorem g_seg (hK : Rules own cc nL ret fl d K) (is : List Instr) (pc pc' : Nat) {L1 : ML} {st1 : List MV} {h1 : MH} {P : Prop} (hs : sits cc pc is = true) (hr : mrun fl nL is L st h = some ((L1, st1, h1), P)) (hp : pc + plen is = pc') (hP : P) (k : K pc' L1 st1 h1) : K pc L st h := by
  subst hp
  exact hK.1 is pc L L1 st st1 h h1 P hs hr hP k
theorem g_goto (hK : Rules own cc nL ret fl d K) (pc : Nat) (off : Int) (tgt : Nat) (hd : dk cc pc (.goto off) 3 = true) (ht : (pc : Int) + off = (tgt : Int)) (k : K tgt L st h) : K pc L st h := hK.2.2.1 pc off tgt L st h hd ht k
theorem g_icmp (hK : Rules own cc nL ret fl d K) (pc : Nat) (cd : ClassFile.Cond) (off : Int) (tgt : Nat) {t1 t2 : Nat} {x y : Int} (hd : dk cc pc (.if_icmp cd off) 3 = true) (ht : (pc : Int) + off = (tgt : Int)) (h1 : jt cd tgt (pc + 3) = t1) (h2 : jt cd (pc + 3) tgt = t2) (kt : cmpB cd x y → K t1 L st h) (kf : ¬ cmpB cd x y → K t2 L st h) : K pc L (vI y :: vI x :: st) h := by
  subst h1; subst h2
  exact hK.2.2.2.1 pc cd off tgt L st h x y hd ht kt kf
theorem g_ifz (hK : Rules own cc nL ret fl d K) (pc : Nat) (cd : ClassFile.Cond) (off : Int) (tgt : Nat) {t1 t2 : Nat} {x : Int} (hd : dk cc pc (.ifCond cd off) 3 = true) (ht : (pc : Int) + off = (tgt : Int)) (h1 : jt cd tgt (pc + 3) = t1) (h2 : jt cd (pc + 3) tgt = t2) (kt : cmpB cd x 0 → K t1 L st h) (kf : ¬ cmpB cd x 0 → K t2 L st h) : K pc L (vI x :: st) h := by
  subst h1; subst h2
  exact hK.2.2.2.2.1 pc cd off tgt L st h x hd ht kt kf
theorem g_null (hK : Rules own cc nL ret fl d K) (pc : Nat) (off : Int) (tgt : Nat) {o : Option Nat} (hd : dk cc pc (.ifnull off) 3 = true) (ht : (pc : Int) + off = (tgt : Int)) (kt : o = none → K tgt L st h) (kf : ∀ i, o = some i → K (pc + 3) L st h) : K pc L (vO o :: st) h := hK.2.2.2.2.2.1 pc off tgt L st h o hd ht kt kf
theorem g_sw (hK : Rules own cc nL ret fl d K) (pc : Nat) (dflt lo hi : Int) (offs : Array Int) (len : Nat) {x : Int} (hd : dk cc pc (.tableswitch dflt lo hi offs) len = true) (hq : (0 ≤ (pc : Int) + dflt) ∧ (∀ o ∈ offs.toList, 0 ≤ (pc : Int) + o) ∧ hi - lo < offs.toList.length) (k : K (swT pc dflt lo hi offs.toList x) L st h) : K pc L (vI x :: st) h := hK.2.2.2.2.2.2.1 pc dflt lo hi offs len L st h x hd hq k
theorem g_ldc (hK : Rules own cc nL ret fl d K) (pc pc' : Nat) (ho : own = "HunkSlides") (hd : dk cc pc (.ldc sgIdx) 2 = true) (hp : pc + 2 = pc') (k : K pc' L (vR 101 :: st) h) : K pc L st h := by
  subst hp
  exact hK.2.2.2.2.2.2.2.1 pc L st h ho hd k
theorem g_callV1 (hK : Rules own cc nL ret fl d K) (pc idx : Nat) {d1 ci i maxL : Nat} {y : MethodName} {bytes : ByteArray} {ret' : Option FieldType} {vs rest : List MV} {h1 : MH} {r : MV} (hmy : MY y bytes maxL ret' vs.length) (hvw : VW own idx y) (hdd : d1 < d) (hc : CON d1 y bytes maxL ret' (vR i :: vs) h (some r) h1) (hki : kd i = ci + 2) (hci : (vwCl[ci]?).map (fun q => q.1) = some y.cls) (hst : st = vs.reverse ++ vR i :: rest) (hrest : rest.length ≤ 4) (hd : dk cc pc (.invokevirtual idx) 3 = true) (k : K (pc + 3) L (r :: rest) h1) : K pc L st h := by
  subst hst
  exact hK.2.2.2.2.2.2.2.2.1 pc idx d1 ci i maxL y bytes ret' vs rest L h h1 (some r) hmy hvw hdd hc hki hci hrest hd k
theorem g_callV0 (hK : Rules own cc nL ret fl d K) (pc idx : Nat) {d1 ci i maxL : Nat} {y : MethodName} {bytes : ByteArray} {ret' : Option FieldType} {vs rest : List MV} {h1 : MH} (hmy : MY y bytes maxL ret' vs.length) (hvw : VW own idx y) (hdd : d1 < d) (hc : CON d1 y bytes maxL ret' (vR i :: vs) h none h1) (hki : kd i = ci + 2) (hci : (vwCl[ci]?).map (fun q => q.1) = some y.cls) (hst : st = vs.reverse ++ vR i :: rest) (hrest : rest.length ≤ 4) (hd : dk cc pc (.invokevirtual idx) 3 = true) (k : K (pc + 3) L rest h1) : K pc L st h := by
  subst hst
  exact hK.2.2.2.2.2.2.2.2.1 pc idx d1 ci i maxL y bytes ret' vs rest L h h1 none hmy hvw hdd hc hki hci hrest hd k
theorem g_callS1 (hK : Rules own cc nL ret fl d K) (pc idx : Nat) {d1 maxL : Nat} {y : MethodName} {bytes : ByteArray} {ret' : Option FieldType} {vs rest : List MV} {h1 : MH} {r : MV} (hmy : MY y bytes maxL ret' vs.length) (hsw : SW own idx y) (hdd : d1 < d) (hc : CON d1 y bytes maxL ret' vs h (some r) h1) (hst : st = vs.reverse ++ rest) (hrest : rest.length ≤ 4) (hd : dk cc pc (.invokestatic idx) 3 = true) (k : K (pc + 3) L (r :: rest) h1) : K pc L st h := by
  subst hst
  exact hK.2.2.2.2.2.2.2.2.2.1 pc idx d1 maxL y bytes ret' vs rest L h h1 (some r) hmy hsw hdd hc hrest hd k
theorem g_callS0 (hK : Rules own cc nL ret fl d K) (pc idx : Nat) {d1 maxL : Nat} {y : MethodName} {bytes : ByteArray} {ret' : Option FieldType} {vs rest : List MV} {h1 : MH} (hmy : MY y bytes maxL ret' vs.length) (hsw : SW own idx y) (hdd : d1 < d) (hc : CON d1 y bytes maxL ret' vs h none h1) (hst : st = vs.reverse ++ rest) (hrest : rest.length ≤ 4) (hd : dk cc pc (.invokestatic idx) 3 = true) (k : K (pc + 3) L rest h1) : K pc L st h := by
  subst hst
  exact hK.2.2.2.2.2.2.2.2.2.1 pc idx d1 maxL y bytes ret' vs rest L h h1 none hmy hsw hdd hc hrest hd k
theorem g_callG1 (hK : Rules own cc nL ret fl d K) (pc idx : Nat) {d1 maxL : Nat} {y : MethodName} {bytes : ByteArray} {ret' : Option FieldType} {vs rest : List MV} {r : MV} (hyc : y.cls = "java/lang/String") (hmy : MY y bytes maxL ret' vs.length) (hvw : VW own idx y) (hdd : d1 < d) (hc : CON d1 y bytes maxL ret' (vR 101 :: vs) h (some r) h) (hst : st = vs.reverse ++ vR 101 :: rest) (hrest : rest.length ≤ 4) (hd : dk cc pc (.invokevirtual idx) 3 = true) (k : K (pc + 3) L (r :: rest) h) : K pc L st h := by
  subst hst
  exact hK.2.2.2.2.2.2.2.2.2.2.1 pc idx d1 maxL y bytes ret' vs rest L h h (some r) hyc hmy hvw hdd hc hrest hd k
theorem g_mmax (hK : Rules own cc nL ret fl d K) (pc idx : Nat) {x y : Int} (h1 : 1 ≤ d) (hm : MW own idx Lib.Math.max.name Lib.Math.max.code) (hlen : st.length ≤ 4) (hd : dk cc pc (.invokestatic idx) 3 = true) (k : K (pc + 3) L (vI (imax x y) :: st) h) : K pc L (vI y :: vI x :: st) h := hK.2.2.2.2.2.2.2.2.2.2.2.1 pc idx L st h x y h1 hm hlen hd k
theorem g_mmin (hK : Rules own cc nL ret fl d K) (pc idx : Nat) {x y : Int} (h1 : 1 ≤ d) (hm : MW own idx Lib.Math.min.name Lib.Math.min.code) (hlen : st.length ≤ 4) (hd : dk cc pc (.invokestatic idx) 3 = true) (k : K (pc + 3) L (vI (imin x y) :: st) h) : K pc L (vI y :: vI x :: st) h := hK.2.2.2.2.2.2.2.2.2.2.2.2.1 pc idx L st h x y h1 hm hlen hd k
theorem g_ldi (hK : Rules own cc nL ret fl d K) (pc pc' : Nat) (ho : own = RL) (hd : dk cc pc (.ldc 7) 2 = true) (hp : pc + 2 = pc') (k : K pc' L (vI 2147483647 :: st) h) : K pc L st h := by
  subst hp
  exact hK.2.2.2.2.2.2.2.2.2.2.2.2.2 pc L st h ho hd k
end GRULES
theorem tb_in {w : Cond} (i : Nat) (h : lw_tbl[i]? = some w) (hg : goodWord w = true) : w ∈ TB := List.mem_filter.mpr ⟨List.mem_of_getElem? h, hg⟩
theorem tb_all {ws : List Cond} (h : ∀ w ∈ ws, w ∈ lw_tbl) (hg : ws.all goodWord = true) : ∀ w ∈ ws, w ∈ TB := fun w hw => List.mem_filter.mpr ⟨h w hw, List.all_eq_true.mp hg w hw⟩
theorem flok_of {own : String} {l : List (Nat × (Nat × Nat))} (h : ∀ q ∈ l, FLD own q.1 q.2.1 q.2.2) : flok own (fun i => l.lookup i) := by
  intro idx ci k
  induction l with
  | nil => intro hq; cases hq
  | cons q l ih =>
    intro hq
    obtain ⟨a, b⟩ := q
    have hq : ((a, b) :: l).lookup idx = some (ci, k) := hq
    rw [List.lookup_cons] at hq
    by_cases hc : idx = a
    · subst hc
      simp at hq
      have := h (idx, b) List.mem_cons_self
      rw [hq] at this
      exact this
    · have hne : (idx == a) = false := by simpa using hc
      rw [hne] at hq
      exact ih (fun q hq => h q (List.mem_cons_of_mem _ hq)) hq
theorem kt_all {a b k : Nat} (ha : a < 1000) (h : ((List.range NC).all (fun i => !(kd i == a) || (kd (rf i k) == b))) = true) {i : Nat} (hi : kd i = a) : kd (rf i k) = b := by
  have h1 := List.all_eq_true.mp h i (List.mem_range.mpr (kd_lt hi ha))
  simp [hi] at h1
  exact h1
def sg_length : Int := 9
def sg_indexOf (c : Int) : Int := if c = 97 then 0 else if c = 98 then 1 else if c = 99 then 2 else if c = 100 then 3 else if c = 101 then 4 else if c = 102 then 5 else if c = 46 then 6 else if c = 123 then 7 else if c = 125 then 8 else -1
def ob1 {α0 : Type} {β : Type} (x : Option (α0)) (f : α0 → Option β) : Option β := match x with
  | none => none
  | some x0 => f x0
theorem ob1_elim {α0 : Type} {β : Type} {x : Option (α0)} {f : α0 → Option β} {r : β} (h : ob1 x f = some r) : ∃ x0, x = some x0 ∧ f x0 = some r := by
  cases x with
  | none => cases h
  | some q => exact ⟨q, rfl, h⟩
def jn1 {α0 : Type} {β : Type} (x : α0) (f : α0 → β) : β := match x with
  | x0 => f x0
theorem jn1_elim {α0 : Type} {β : Type} {x : α0} {f : α0 → β} {r : β} (h : jn1 x f = r) : ∃ x0, x = x0 ∧ f x0 = r := ⟨x, rfl, h⟩
def jk1 {α0 : Type} {γ β : Type} (f : α0 → γ) (g : (α0 → γ) → β) : β := g f
theorem jk1_elim {α0 : Type} {γ β : Type} {f : α0 → γ} {g : (α0 → γ) → β} {r : β} (h : jk1 f g = r) : ∃ k, (∀ x0, k x0 = f x0) ∧ g k = r := ⟨f, fun x0 => rfl, h⟩
def ob2 {α0 α1 : Type} {β : Type} (x : Option (α0 × α1)) (f : α0 → α1 → Option β) : Option β := match x with
  | none => none
  | some (x0, x1) => f x0 x1
theorem ob2_elim {α0 α1 : Type} {β : Type} {x : Option (α0 × α1)} {f : α0 → α1 → Option β} {r : β} (h : ob2 x f = some r) : ∃ x0, ∃ x1, x = some (x0, x1) ∧ f x0 x1 = some r := by
  cases x with
  | none => cases h
  | some q => exact ⟨q.1, q.2, rfl, h⟩
def jn2 {α0 α1 : Type} {β : Type} (x : α0 × α1) (f : α0 → α1 → β) : β := match x with
  | (x0, x1) => f x0 x1
theorem jn2_elim {α0 α1 : Type} {β : Type} {x : α0 × α1} {f : α0 → α1 → β} {r : β} (h : jn2 x f = r) : ∃ x0, ∃ x1, x = (x0, x1) ∧ f x0 x1 = r := ⟨x.1, x.2, rfl, h⟩
def jk2 {α0 α1 : Type} {γ β : Type} (f : α0 → α1 → γ) (g : (α0 → α1 → γ) → β) : β := g f
theorem jk2_elim {α0 α1 : Type} {γ β : Type} {f : α0 → α1 → γ} {g : (α0 → α1 → γ) → β} {r : β} (h : jk2 f g = r) : ∃ k, (∀ x0 x1, k x0 x1 = f x0 x1) ∧ g k = r := ⟨f, fun x0 x1 => rfl, h⟩
def ob3 {α0 α1 α2 : Type} {β : Type} (x : Option (α0 × α1 × α2)) (f : α0 → α1 → α2 → Option β) : Option β := match x with
  | none => none
  | some (x0, x1, x2) => f x0 x1 x2
theorem ob3_elim {α0 α1 α2 : Type} {β : Type} {x : Option (α0 × α1 × α2)} {f : α0 → α1 → α2 → Option β} {r : β} (h : ob3 x f = some r) : ∃ x0, ∃ x1, ∃ x2, x = some (x0, x1, x2) ∧ f x0 x1 x2 = some r := by
  cases x with
  | none => cases h
  | some q => exact ⟨q.1, q.2.1, q.2.2, rfl, h⟩
def jn3 {α0 α1 α2 : Type} {β : Type} (x : α0 × α1 × α2) (f : α0 → α1 → α2 → β) : β := match x with
  | (x0, x1, x2) => f x0 x1 x2
theorem jn3_elim {α0 α1 α2 : Type} {β : Type} {x : α0 × α1 × α2} {f : α0 → α1 → α2 → β} {r : β} (h : jn3 x f = r) : ∃ x0, ∃ x1, ∃ x2, x = (x0, x1, x2) ∧ f x0 x1 x2 = r := ⟨x.1, x.2.1, x.2.2, rfl, h⟩
def jk3 {α0 α1 α2 : Type} {γ β : Type} (f : α0 → α1 → α2 → γ) (g : (α0 → α1 → α2 → γ) → β) : β := g f
theorem jk3_elim {α0 α1 α2 : Type} {γ β : Type} {f : α0 → α1 → α2 → γ} {g : (α0 → α1 → α2 → γ) → β} {r : β} (h : jk3 f g = r) : ∃ k, (∀ x0 x1 x2, k x0 x1 x2 = f x0 x1 x2) ∧ g k = r := ⟨f, fun x0 x1 x2 => rfl, h⟩
def ob4 {α0 α1 α2 α3 : Type} {β : Type} (x : Option (α0 × α1 × α2 × α3)) (f : α0 → α1 → α2 → α3 → Option β) : Option β := match x with
  | none => none
  | some (x0, x1, x2, x3) => f x0 x1 x2 x3
theorem ob4_elim {α0 α1 α2 α3 : Type} {β : Type} {x : Option (α0 × α1 × α2 × α3)} {f : α0 → α1 → α2 → α3 → Option β} {r : β} (h : ob4 x f = some r) : ∃ x0, ∃ x1, ∃ x2, ∃ x3, x = some (x0, x1, x2, x3) ∧ f x0 x1 x2 x3 = some r := by
  cases x with
  | none => cases h
  | some q => exact ⟨q.1, q.2.1, q.2.2.1, q.2.2.2, rfl, h⟩
def jn4 {α0 α1 α2 α3 : Type} {β : Type} (x : α0 × α1 × α2 × α3) (f : α0 → α1 → α2 → α3 → β) : β := match x with
  | (x0, x1, x2, x3) => f x0 x1 x2 x3
theorem jn4_elim {α0 α1 α2 α3 : Type} {β : Type} {x : α0 × α1 × α2 × α3} {f : α0 → α1 → α2 → α3 → β} {r : β} (h : jn4 x f = r) : ∃ x0, ∃ x1, ∃ x2, ∃ x3, x = (x0, x1, x2, x3) ∧ f x0 x1 x2 x3 = r := ⟨x.1, x.2.1, x.2.2.1, x.2.2.2, rfl, h⟩
def jk4 {α0 α1 α2 α3 : Type} {γ β : Type} (f : α0 → α1 → α2 → α3 → γ) (g : (α0 → α1 → α2 → α3 → γ) → β) : β := g f
theorem jk4_elim {α0 α1 α2 α3 : Type} {γ β : Type} {f : α0 → α1 → α2 → α3 → γ} {g : (α0 → α1 → α2 → α3 → γ) → β} {r : β} (h : jk4 f g = r) : ∃ k, (∀ x0 x1 x2 x3, k x0 x1 x2 x3 = f x0 x1 x2 x3) ∧ g k = r := ⟨f, fun x0 x1 x2 x3 => rfl, h⟩
def ob5 {α0 α1 α2 α3 α4 : Type} {β : Type} (x : Option (α0 × α1 × α2 × α3 × α4)) (f : α0 → α1 → α2 → α3 → α4 → Option β) : Option β := match x with
  | none => none
  | some (x0, x1, x2, x3, x4) => f x0 x1 x2 x3 x4
theorem ob5_elim {α0 α1 α2 α3 α4 : Type} {β : Type} {x : Option (α0 × α1 × α2 × α3 × α4)} {f : α0 → α1 → α2 → α3 → α4 → Option β} {r : β} (h : ob5 x f = some r) : ∃ x0, ∃ x1, ∃ x2, ∃ x3, ∃ x4, x = some (x0, x1, x2, x3, x4) ∧ f x0 x1 x2 x3 x4 = some r := by
  cases x with
  | none => cases h
  | some q => exact ⟨q.1, q.2.1, q.2.2.1, q.2.2.2.1, q.2.2.2.2, rfl, h⟩
def jn5 {α0 α1 α2 α3 α4 : Type} {β : Type} (x : α0 × α1 × α2 × α3 × α4) (f : α0 → α1 → α2 → α3 → α4 → β) : β := match x with
  | (x0, x1, x2, x3, x4) => f x0 x1 x2 x3 x4
theorem jn5_elim {α0 α1 α2 α3 α4 : Type} {β : Type} {x : α0 × α1 × α2 × α3 × α4} {f : α0 → α1 → α2 → α3 → α4 → β} {r : β} (h : jn5 x f = r) : ∃ x0, ∃ x1, ∃ x2, ∃ x3, ∃ x4, x = (x0, x1, x2, x3, x4) ∧ f x0 x1 x2 x3 x4 = r := ⟨x.1, x.2.1, x.2.2.1, x.2.2.2.1, x.2.2.2.2, rfl, h⟩
def jk5 {α0 α1 α2 α3 α4 : Type} {γ β : Type} (f : α0 → α1 → α2 → α3 → α4 → γ) (g : (α0 → α1 → α2 → α3 → α4 → γ) → β) : β := g f
theorem jk5_elim {α0 α1 α2 α3 α4 : Type} {γ β : Type} {f : α0 → α1 → α2 → α3 → α4 → γ} {g : (α0 → α1 → α2 → α3 → α4 → γ) → β} {r : β} (h : jk5 f g = r) : ∃ k, (∀ x0 x1 x2 x3 x4, k x0 x1 x2 x3 x4 = f x0 x1 x2 x3 x4) ∧ g k = r := ⟨f, fun x0 x1 x2 x3 x4 => rfl, h⟩
def ob6 {α0 α1 α2 α3 α4 α5 : Type} {β : Type} (x : Option (α0 × α1 × α2 × α3 × α4 × α5)) (f : α0 → α1 → α2 → α3 → α4 → α5 → Option β) : Option β := match x with
  | none => none
  | some (x0, x1, x2, x3, x4, x5) => f x0 x1 x2 x3 x4 x5
theorem ob6_elim {α0 α1 α2 α3 α4 α5 : Type} {β : Type} {x : Option (α0 × α1 × α2 × α3 × α4 × α5)} {f : α0 → α1 → α2 → α3 → α4 → α5 → Option β} {r : β} (h : ob6 x f = some r) : ∃ x0, ∃ x1, ∃ x2, ∃ x3, ∃ x4, ∃ x5, x = some (x0, x1, x2, x3, x4, x5) ∧ f x0 x1 x2 x3 x4 x5 = some r := by
  cases x with
  | none => cases h
  | some q => exact ⟨q.1, q.2.1, q.2.2.1, q.2.2.2.1, q.2.2.2.2.1, q.2.2.2.2.2, rfl, h⟩
def jn6 {α0 α1 α2 α3 α4 α5 : Type} {β : Type} (x : α0 × α1 × α2 × α3 × α4 × α5) (f : α0 → α1 → α2 → α3 → α4 → α5 → β) : β := match x with
  | (x0, x1, x2, x3, x4, x5) => f x0 x1 x2 x3 x4 x5
theorem jn6_elim {α0 α1 α2 α3 α4 α5 : Type} {β : Type} {x : α0 × α1 × α2 × α3 × α4 × α5} {f : α0 → α1 → α2 → α3 → α4 → α5 → β} {r : β} (h : jn6 x f = r) : ∃ x0, ∃ x1, ∃ x2, ∃ x3, ∃ x4, ∃ x5, x = (x0, x1, x2, x3, x4, x5) ∧ f x0 x1 x2 x3 x4 x5 = r := ⟨x.1, x.2.1, x.2.2.1, x.2.2.2.1, x.2.2.2.2.1, x.2.2.2.2.2, rfl, h⟩
def jk6 {α0 α1 α2 α3 α4 α5 : Type} {γ β : Type} (f : α0 → α1 → α2 → α3 → α4 → α5 → γ) (g : (α0 → α1 → α2 → α3 → α4 → α5 → γ) → β) : β := g f
theorem jk6_elim {α0 α1 α2 α3 α4 α5 : Type} {γ β : Type} {f : α0 → α1 → α2 → α3 → α4 → α5 → γ} {g : (α0 → α1 → α2 → α3 → α4 → α5 → γ) → β} {r : β} (h : jk6 f g = r) : ∃ k, (∀ x0 x1 x2 x3 x4 x5, k x0 x1 x2 x3 x4 x5 = f x0 x1 x2 x3 x4 x5) ∧ g k = r := ⟨f, fun x0 x1 x2 x3 x4 x5 => rfl, h⟩
def ob7 {α0 α1 α2 α3 α4 α5 α6 : Type} {β : Type} (x : Option (α0 × α1 × α2 × α3 × α4 × α5 × α6)) (f : α0 → α1 → α2 → α3 → α4 → α5 → α6 → Option β) : Option β := match x with
  | none => none
  | some (x0, x1, x2, x3, x4, x5, x6) => f x0 x1 x2 x3 x4 x5 x6
theorem ob7_elim {α0 α1 α2 α3 α4 α5 α6 : Type} {β : Type} {x : Option (α0 × α1 × α2 × α3 × α4 × α5 × α6)} {f : α0 → α1 → α2 → α3 → α4 → α5 → α6 → Option β} {r : β} (h : ob7 x f = some r) : ∃ x0, ∃ x1, ∃ x2, ∃ x3, ∃ x4, ∃ x5, ∃ x6, x = some (x0, x1, x2, x3, x4, x5, x6) ∧ f x0 x1 x2 x3 x4 x5 x6 = some r := by
  cases x with
  | none => cases h
  | some q => exact ⟨q.1, q.2.1, q.2.2.1, q.2.2.2.1, q.2.2.2.2.1, q.2.2.2.2.2.1, q.2.2.2.2.2.2, rfl, h⟩
def jn7 {α0 α1 α2 α3 α4 α5 α6 : Type} {β : Type} (x : α0 × α1 × α2 × α3 × α4 × α5 × α6) (f : α0 → α1 → α2 → α3 → α4 → α5 → α6 → β) : β := match x with
  | (x0, x1, x2, x3, x4, x5, x6) => f x0 x1 x2 x3 x4 x5 x6
theorem jn7_elim {α0 α1 α2 α3 α4 α5 α6 : Type} {β : Type} {x : α0 × α1 × α2 × α3 × α4 × α5 × α6} {f : α0 → α1 → α2 → α3 → α4 → α5 → α6 → β} {r : β} (h : jn7 x f = r) : ∃ x0, ∃ x1, ∃ x2, ∃ x3, ∃ x4, ∃ x5, ∃ x6, x = (x0, x1, x2, x3, x4, x5, x6) ∧ f x0 x1 x2 x3 x4 x5 x6 = r := ⟨x.1, x.2.1, x.2.2.1, x.2.2.2.1, x.2.2.2.2.1, x.2.2.2.2.2.1, x.2.2.2.2.2.2, rfl, h⟩
def jk7 {α0 α1 α2 α3 α4 α5 α6 : Type} {γ β : Type} (f : α0 → α1 → α2 → α3 → α4 → α5 → α6 → γ) (g : (α0 → α1 → α2 → α3 → α4 → α5 → α6 → γ) → β) : β := g f
theorem jk7_elim {α0 α1 α2 α3 α4 α5 α6 : Type} {γ β : Type} {f : α0 → α1 → α2 → α3 → α4 → α5 → α6 → γ} {g : (α0 → α1 → α2 → α3 → α4 → α5 → α6 → γ) → β} {r : β} (h : jk7 f g = r) : ∃ k, (∀ x0 x1 x2 x3 x4 x5 x6, k x0 x1 x2 x3 x4 x5 x6 = f x0 x1 x2 x3 x4 x5 x6) ∧ g k = r := ⟨f, fun x0 x1 x2 x3 x4 x5 x6 => rfl, h⟩

/-! ===== the system's view as a whole; the reference's hunks ===== -/
def SCR : List Nat := [47, 48, 49, 50, 51, 52, 53, 54, 55, 56, 57, 58, 59, 60, 61, 62, 63, 64, 65, 66, 67, 68, 69, 70, 71, 72, 73, 74, 75]
theorem V_gather {h : MH} {o p : Nat} {l1 l2 : List Int} (Ho : RW h o l1) (Hp : RW h p l2) (o1 : o < 50) (p1 : p < 50) (hl1 : l1.length ≤ 14) (hl2 : l2.length ≤ 14) : ∃ h' H, F_V_gather o p h = some h' ∧ VC h' (vks l1 l2) (vss l1 l2) H ∧ FR SCR h h' := by
  unfold F_V_gather
  obtain ⟨h1, f1, K1, w1⟩ := C_compare Ho Hp (by omega) (by omega) hl1 hl2
  rw [f1, ob1_s]
  have no := row_apart (o := 50) rfl Ho.1 (by omega)
  have np := row_apart (o := 50) rfl Hp.1 (by omega)
  obtain ⟨A1, B1⟩ := Ro_emptyOut (h := h1) (o := 55) rfl
  obtain ⟨A2, B2⟩ := Ro_emptyOut (h := F_Ro_emptyOut 55 h1) (o := 57) rfl
  have Ho2 := (((Ho.fr w1 no.1 no.2).off B1 rfl (by omega)).off B2 rfl (by omega))
  have Hp2 := (((Hp.fr w1 np.1 np.2).off B1 rfl (by omega)).off B2 rfl (by omega))
  rw [Ho2.size, Hp2.size, wr_id (by omega)]
  have K2 : KM (F_Ro_emptyOut 57 (F_Ro_emptyOut 55 h1)) (kp l1 l2) := by
    have a := (B1.mono (S' := [55, 56, 57, 58]) (by simp)).tr (B2.mono (S' := [55, 56, 57, 58]) (by simp))
    exact ⟨by rw [a 50 (by simp)]; exact K1.1, fun i j x y => by rw [a 51 (by simp)]; exact K1.2 i j x y⟩
  obtain ⟨a, b, c, h2, f2, r1, r2, w2⟩ := gather_loop hl1 hl2 o1 p1 FUEL (l1.length + l2.length) 0 0 _ [] [] Ho2 Hp2 K2 (A1.off B2 rfl (by omega)) A2 rfl (Nat.le_refl _) (Nat.zero_le _) (Nat.zero_le _) (Nat.le_refl _) (by rw [FUEL_eq]; omega)
  have f2' : F_V_gather_L40 o p ((l1.length : Int) + (l2.length : Int)) FUEL 0 0 0 (F_Ro_emptyOut 57 (F_Ro_emptyOut 55 h1)) = some (a, b, c, h2) := f2
  rw [f2']
  show ∃ h' H, ob1 (F_V_findHunks h2) _ = some h' ∧ _
  have hle := vks_le l1 l2
  obtain ⟨h3, H, f3, v3, w3⟩ := V_findHunks (h := h2) (ks := vks l1 l2) (ss := vss l1 l2) r1 r2 (vks_len l1 l2) (by omega)
  rw [f3]
  refine ⟨h3, H, rfl, v3, ?_⟩
  exact ((((w1.mono (by decide)).tr (B1.mono (by decide))).tr (B2.mono (by decide))).tr (w2.mono (by decide))).tr (w3.mono (by decide))
def KOK (ks : List Int) : Prop := ∀ x ∈ ks, x = 0 ∨ x = 1 ∨ x = 2
theorem KOK.get {ks : List Int} (hk : KOK ks) {p : Nat} (hp : p < ks.length) : ks.getD p (-1) = 0 ∨ ks.getD p (-1) = 1 ∨ ks.getD p (-1) = 2 := by
  rw [List.getD_eq_getElem?_getD, List.getElem?_eq_getElem hp]
  exact hk _ (List.getElem_mem hp)
theorem KOK.not {ks : List Int} (hk : KOK ks) {p : Nat} (hp : p < ks.length) : ¬ kz ks p ↔ ks.getD p (-1) = 0 := by
  unfold kz
  have := hk.get hp
  omega
theorem vks_ok {l1 l2 : List Int} (h1 : OKt l1) (h2 : OKt l2) : KOK (vks l1 l2) := by
  intro x hx
  obtain ⟨q, hq, rfl⟩ := List.mem_map.mp hx
  exact (vw_prop l1 l2 h1 h2 _ _ _ q hq).1
theorem vss_ok {l1 l2 : List Int} (h1 : OKt l1) (h2 : OKt l2) : ∀ x ∈ vss l1 l2, 0 ≤ x ∧ x ≤ 8 := by
  intro x hx
  obtain ⟨q, hq, rfl⟩ := List.mem_map.mp hx
  exact (vw_prop l1 l2 h1 h2 _ _ _ q hq).2
def bg (ks : List Int) (p : Nat) : Prop := kz ks p ∧ (p = 0 ∨ ¬ kz ks (p - 1))
theorem HSP.inn {ks : List Int} {H : HL} (hs : HSP ks H) {q : Nat × Nat} (hq : q ∈ H) : ∀ p, q.1 ≤ p → p < q.2 → kz ks p := fun p h1 h2 => (hs.2.2 p).mpr ⟨q, hq, h1, h2⟩

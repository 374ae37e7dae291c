/-! ===== how alike ===== -/
theorem fp_mul1 : (List.range 29).all (fun n => decide (FP.dmul (FP.i2d (Int32.ofInt (n : Int))) FP.dconst1 = FP.i2d (Int32.ofInt (n : Int)) ∧ FP.i2d (Int32.ofInt (n : Int)) &&& 0x7fffffffffffffff ≤ 0x7ff0000000000000)) = true := by decide +kernel
theorem fp_div1 : (List.range 29).all (fun n => (List.range 29).all (fun m => m == 0 || decide (FP.ddiv (FP.i2d (Int32.ofInt (n : Int))) (FP.i2d (Int32.ofInt (m : Int))) &&& 0x7fffffffffffffff ≤ 0x7ff0000000000000 ∧ FP.dcmp (FP.ddiv (FP.i2d (Int32.ofInt (n : Int))) (FP.i2d (Int32.ofInt (m : Int)))) (FP.ddiv (FP.i2d (Int32.ofInt (n : Int))) (FP.i2d (Int32.ofInt (m : Int)))) = some .eq))) = true := by decide +kernel
theorem fp_one : FP.dcmp FP.dconst1 FP.dconst1 = some .eq := by decide +kernel
theorem fp_mul {n : Nat} (hn : n ≤ 28) : FP.dmul (FP.i2d (Int32.ofInt (n : Int))) FP.dconst1 = FP.i2d (Int32.ofInt (n : Int)) ∧ FP.i2d (Int32.ofInt (n : Int)) &&& 0x7fffffffffffffff ≤ 0x7ff0000000000000 := by
  have h := List.all_eq_true.mp fp_mul1 n (List.mem_range.mpr (by omega))
  rwa [decide_eq_true_eq] at h
theorem fp_div {n m : Nat} (hn : n ≤ 28) (hm : m ≤ 28) (h0 : m ≠ 0) : FP.ddiv (FP.i2d (Int32.ofInt (n : Int))) (FP.i2d (Int32.ofInt (m : Int))) &&& 0x7fffffffffffffff ≤ 0x7ff0000000000000 ∧ FP.dcmp (FP.ddiv (FP.i2d (Int32.ofInt (n : Int))) (FP.i2d (Int32.ofInt (m : Int)))) (FP.ddiv (FP.i2d (Int32.ofInt (n : Int))) (FP.i2d (Int32.ofInt (m : Int)))) = some .eq := by
  have h := List.all_eq_true.mp (List.all_eq_true.mp fp_div1 n (List.mem_range.mpr (by omega))) m (List.mem_range.mpr (by omega))
  rcases Bool.or_eq_true_iff.mp h with h | h
  · exact absurd (by simpa using h) h0
  · rwa [decide_eq_true_eq] at h
/-- as SIM, of a double that is a number -/
def SIMD (X M : MH → Option (UInt64 × MH)) (h : MH) (pad : List Int) (g : SG) (hist : List SG) (sv : Option SG) : Prop :=
  ∃ r h', X h = some (r, h') ∧ FR SCR h h' ∧ FP.dcmp r r = some .eq ∧ ∀ hm, MRR hm pad g hist sv → ∃ hm', M hm = some (r, hm') ∧ FZ hm hm'
theorem sim_alike {h : MH} {pad : List Int} {g : SG} {hist : List SG} {sv : Option SG} (C : CR h pad g hist sv) (og : OKg g) : SIMD F_X_alike F_M_alike h pad g hist sv := by
  obtain ⟨x0, x1, x2⟩ := X_text C
  have l1 := og.1.1
  have l2 := og.2.1.1
  have kb := kp_b g.1 g.2.1 0 0
  have hk : kp g.1 g.2.1 0 0 = ((kp g.1 g.2.1 0 0).toNat : Int) := by omega
  generalize (kp g.1 g.2.1 0 0).toNat = k at hk
  obtain ⟨n, hn⟩ : ∃ n : Nat, n = g.1.length + g.2.1.length := ⟨_, rfl⟩
  have k28 : 2 * k ≤ 28 := by omega
  have n28 : n ≤ 28 := by omega
  have e1 : wr ((g.1.length : Int) + (g.2.1.length : Int)) = (n : Int) := by rw [wr_id (by omega)]; omega
  have e2 : wr (2 * kp g.1 g.2.1 0 0) = ((2 * k : Nat) : Int) := by rw [hk, wr_id (by omega)]; omega
  obtain ⟨m1, m2⟩ := fp_mul k28
  have main : ∀ hm, MRR hm pad g hist sv → ∃ hm', FZ hm hm' ∧ F_M_alike hm = (if (n : Int) = 0 then some (FP.dconst1, hm') else gd (FP.ddiv (FP.i2d (Int32.ofInt ((2 * k : Nat) : Int))) (FP.i2d (Int32.ofInt (n : Int))) &&& 0x7fffffffffffffff ≤ 0x7ff0000000000000) (some (FP.ddiv (FP.i2d (Int32.ofInt ((2 * k : Nat) : Int))) (FP.i2d (Int32.ofInt (n : Int))), hm'))) := by
    intro hm hh
    obtain ⟨hm', a, b, c⟩ := M_now og hh
    have hs : SM (hm' 77) g := (c.mrr hh).1
    have b0 : hm' 81 0 = kp g.1 g.2.1 0 0 := b 0 0 (Nat.zero_le _) (Nat.zero_le _)
    refine ⟨hm', c, ?_⟩
    unfold F_M_alike
    rw [a, ob2_s, M_lines0 hs, ob1_s, M_lines1 hs, ob1_s, b0, e1, e2, m1, gd_pos m2]
  have hX : F_X_alike h = (if (n : Int) = 0 then some (FP.dconst1, h) else (ob2 (F_C_keptOf 4 6 h) (fun (r2 : Int) (h3 : MH) => gd (FP.ddiv (FP.i2d (Int32.ofInt (wr (2 * r2)))) (FP.i2d (Int32.ofInt (n : Int))) &&& 0x7fffffffffffffff ≤ 0x7ff0000000000000) (some (FP.ddiv (FP.i2d (Int32.ofInt (wr (2 * r2)))) (FP.i2d (Int32.ofInt (n : Int))), h3))))) := by
    unfold F_X_alike
    rw [x0.size, x1.size, e1]
    rfl
  unfold SIMD
  by_cases c : n = 0
  · have c' : (n : Int) = 0 := by omega
    rw [if_pos c'] at hX
    refine ⟨FP.dconst1, h, hX, FR.rf _ _, fp_one, fun hm hh => ?_⟩
    obtain ⟨hm', a, b⟩ := main hm hh
    rw [if_pos c'] at b
    exact ⟨hm', b, a⟩
  · have c' : ¬ (n : Int) = 0 := by omega
    obtain ⟨d1, d2⟩ := fp_div k28 n28 c
    obtain ⟨h', f, F1⟩ := C_keptOf (o := 4) (p := 6) x0 x1 (by decide) (by decide) l1 l2
    rw [if_neg c', f, ob2_s, e2, gd_pos d1] at hX
    refine ⟨_, h', hX, F1.mono (by decide), d2, fun hm hh => ?_⟩
    obtain ⟨hm', a, b⟩ := main hm hh
    rw [if_neg c', gd_pos d1] at b
    exact ⟨hm', b, a⟩

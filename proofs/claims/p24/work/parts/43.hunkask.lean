/-! ===== askings about a hunk ===== -/
theorem V_greatest {h : MH} {ks ss : List Int} {H : HL} (V : VC h ks ss H) (hso : SOK ss) {k : Nat} {q : Nat × Nat} (hq : H[k]? = some q) : F_V_greatestWorth (k : Int) h = some (wth ss ((bt ks ss q : Nat) : Int) (((bt ks ss q : Nat) : Int) + ((q.2 - q.1 : Nat) : Int))) := by
  obtain ⟨a1, a2, a3, a4, a5⟩ := V.q hq
  have r := bt_range (ks := ks) hso q a1 a3 a4
  have s := sld_le (ks := ks) hso q a1 a3 a4
  unfold F_V_greatestWorth
  rw [V_bestTop V hso hq, ob1_s, V_end V hq, V_top V hq]
  generalize bt ks ss q = b at r ⊢
  have e : wr (wr ((b : Int) + (q.2 : Int)) - (q.1 : Int)) = (b : Int) + ((q.2 - q.1 : Nat) : Int) := by
    rw [wr_id (z := (b : Int) + (q.2 : Int)) (by omega), wr_id (by omega)]; omega
  rw [e, V_worthAt V.2.1 hso a4 (Int.natCast_nonneg _) (by omega) (by omega)]

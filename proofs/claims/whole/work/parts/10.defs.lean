def F_Ro_size (o : Nat) (h : MH) : Int :=
  h o 1
def F_Ro_add (o : Nat) (p1 : Int) (h : MH) : MH :=
  if h o 1 < 0 then (h) else (if h o 1 < (al (rf o 0) : Int) then ((up (up h (rf o 0) (h o 1).toNat p1) o 1 (wr (((up h (rf o 0) (h o 1).toNat p1) o 1) + 1)))) else (h))
def F_X_append (p1 : Int) (h : MH) : Int × MH :=
  if p1 < 33 then (((-1), h)) else (if p1 ≤ 126 then (if F_Ro_size 1 h < 40 then ((F_Ro_size 1 (F_Ro_add 1 p1 h), (F_Ro_add 1 p1 h))) else (((-3), h))) else (((-1), h)))
def F_Ro_emptyOut (o : Nat) (h : MH) : MH :=
  (up h o 1 0)
def F_X_clear (h : MH) : Int × MH :=
  (F_Ro_size 1 h, (F_Ro_emptyOut 1 h))
def F_Ro_at (o : Nat) (p1 : Int) (h : MH) : Int :=
  if p1 < 0 then ((-1)) else (if p1 < h o 1 then (if p1 < (al (rf o 0) : Int) then (h (rf o 0) p1.toNat) else ((-1))) else ((-1)))
def F_X_padSign (p1 : Int) (h : MH) : Int :=
  sg_indexOf ((F_Ro_at 1 p1 h) % 65536)
def F_X_fault_L2 (h : MH) : Nat → Int → Option (Sum (Int) (Int))
  | 0, _ => none
  | n + 1, x1 => if x1 < F_Ro_size 1 h then (if x1 < 14 then (if F_X_padSign x1 h < 0 then (some (Sum.inl x1)) else (F_X_fault_L2 h n (wr (x1 + 1)))) else (some (Sum.inl x1))) else (some (Sum.inr x1))
def F_X_fault (h : MH) : Option Int :=
  os (F_X_fault_L2 h FUEL 0) (fun (a : Int) => some a) (fun (q3 : Int) => some (-4))
def F_X_isText (p1 : Int) : Int :=
  if p1 < 0 then (0) else (if p1 ≤ 2 then (1) else (0))
def F_Hi_slot (p1 : Int) : Option Nat :=
  if p1 < 0 then (none) else (if p1 < 4 then (some (rf 18 p1.toNat)) else (none))
def F_Ro_become_L6 (x0 : Nat) (x1 : Nat) : Nat → Int → MH → Option (Int × MH)
  | 0, _, _ => none
  | n + 1, x2, h => if x2 < F_Ro_size x1 h then (F_Ro_become_L6 x0 x1 n (wr (x2 + 1)) (F_Ro_add x0 (F_Ro_at x1 x2 h) h)) else (some (x2, h))
def F_Ro_become (o : Nat) (p1 : Nat) (h : MH) : Option MH :=
  ob2 (F_Ro_become_L6 o p1 FUEL 0 (F_Ro_emptyOut o h)) (fun (x2_1 : Int) (h2 : MH) => some h2)
def F_St_become (o : Nat) (p1 : Nat) (h : MH) : Option MH :=
  ob1 (F_Ro_become (rf o 0) (rf p1 0) h) (fun (h1 : MH) => ob1 (F_Ro_become (rf o 1) (rf p1 1) h1) (fun (h3 : MH) => ob1 (F_Ro_become (rf o 2) (rf p1 2) h3) (fun (h5 : MH) => some (up (up (up (up h5 o 3 (h5 p1 3)) o 4 ((up h5 o 3 (h5 p1 3)) p1 4)) o 5 ((up (up h5 o 3 (h5 p1 3)) o 4 ((up h5 o 3 (h5 p1 3)) p1 4)) p1 5)) o 6 ((up (up (up h5 o 3 (h5 p1 3)) o 4 ((up h5 o 3 (h5 p1 3)) p1 4)) o 5 ((up (up h5 o 3 (h5 p1 3)) o 4 ((up h5 o 3 (h5 p1 3)) p1 4)) p1 5)) p1 6)))))
def F_Hi_copy (p1 : Option Nat) (p2 : Option Nat) (h : MH) : Option MH :=
  om p1 (some h) (fun (i1 : Nat) => om p2 (some h) (fun (i2 : Nat) => ob1 (F_St_become i2 i1 h) (fun (h3 : MH) => some h3)))
def F_Hi_dropOldest_L2  : Nat → Int → MH → Option (Int × MH)
  | 0, _, _ => none
  | n + 1, x1, h => if x1 < h 17 1 then (ob1 (F_Hi_copy (F_Hi_slot x1) (F_Hi_slot (wr (x1 - 1))) h) (fun (h2 : MH) => F_Hi_dropOldest_L2  n (wr (x1 + 1)) h2)) else (some (x1, h))
def F_Hi_dropOldest (h : MH) : Option MH :=
  ob2 (F_Hi_dropOldest_L2 FUEL 1 h) (fun (x1_1 : Int) (h2 : MH) => some (up h2 17 1 (wr ((h2 17 1) - 1))))
def F_Hi_record (p1 : Nat) (h : MH) : Option MH :=
  jk1 (fun (h1 : MH) => ob1 (F_Hi_copy (some p1) (F_Hi_slot (h1 17 1)) h1) (fun (h3 : MH) => some (up h3 17 1 (wr ((h3 17 1) + 1))))) (fun kj2 => if h 17 1 < 4 then (kj2 h) else (ob1 (F_Hi_dropOldest h) (fun (h7 : MH) => kj2 h7)))
def F_St_text (o : Nat) (p1 : Int) : Nat :=
  if p1 = 0 then (rf o 0) else (if p1 = 1 then (rf o 1) else (rf o 2))
def F_X_load_L47 (x2 : Nat) : Nat → Int → MH → Option (Int × MH)
  | 0, _, _ => none
  | n + 1, x3, h => if x3 < F_Ro_size 1 h then (F_X_load_L47 x2 n (wr (x3 + 1)) (F_Ro_add x2 (F_X_padSign x3 h) h)) else (some (x3, h))
def F_X_load (p1 : Int) (h : MH) : Option (Int × MH) :=
  if F_X_isText p1 = 0 then (some ((-1), h)) else (ob1 (F_X_fault h) (fun (r2 : Int) => if r2 = (-4) then (ob1 (F_Hi_record 3 h) (fun (h5 : MH) => ob2 (F_X_load_L47 (F_St_text 3 p1) FUEL 0 (F_Ro_emptyOut (F_St_text 3 p1) h5)) (fun (x3_7 : Int) (h8 : MH) => some (F_Ro_size (F_St_text 3 p1) (F_Ro_emptyOut 1 h8), (F_Ro_emptyOut 1 h8))))) else (some ((-2), h))))
def F_X_isSign (p1 : Int) : Int :=
  if p1 < 0 then (0) else (if p1 < sg_length then (1) else (0))
def F_Ro_change (o : Nat) (p1 : Int) (p2 : Int) (h : MH) : MH :=
  if p1 < 0 then (h) else (if p1 < h o 1 then (if p1 < (al (rf o 0) : Int) then ((up h (rf o 0) p1.toNat p2)) else (h)) else (h))
def F_Ro_putIn_L42 (x0 : Nat) (x1 : Int) (x2 : Int) : Nat → Int → MH → Option (Int × MH)
  | 0, _, _ => none
  | n + 1, x3, h => if x3 ≤ x1 then (some (x3, h)) else (F_Ro_putIn_L42 x0 x1 x2 n (wr (x3 + (-1))) (F_Ro_change x0 x3 (F_Ro_at x0 (wr (x3 - 1)) h) h))
def F_Ro_putIn (o : Nat) (p1 : Int) (p2 : Int) (h : MH) : Option MH :=
  if p1 < 0 then (some h) else (if p1 ≤ h o 1 then (if h o 1 < (al (rf o 0) : Int) then (ob2 (F_Ro_putIn_L42 o p1 p2 FUEL (wr (((up h o 1 (wr ((h o 1) + 1))) o 1) - 1)) (up h o 1 (wr ((h o 1) + 1)))) (fun (x3_4 : Int) (h5 : MH) => some (F_Ro_change o p1 p2 h5))) else (some h)) else (some h))
def F_Ro_putOut_L15 (x0 : Nat) : Nat → Int → MH → Option (Int × MH)
  | 0, _, _ => none
  | n + 1, x2, h => if x2 < wr ((h x0 1) - 1) then (F_Ro_putOut_L15 x0 n (wr (x2 + 1)) (F_Ro_change x0 x2 (F_Ro_at x0 (wr (x2 + 1)) h) h)) else (some (x2, h))
def F_Ro_putOut (o : Nat) (p1 : Int) (h : MH) : Option MH :=
  if p1 < 0 then (some h) else (if p1 < h o 1 then (ob2 (F_Ro_putOut_L15 o FUEL p1 h) (fun (x2_3 : Int) (h4 : MH) => some (up h4 o 1 (wr ((h4 o 1) - 1))))) else (some h))
def F_X_edit (p1 : Int) (p2 : Int) (p3 : Int) (h : MH) : Option (Int × MH) :=
  if F_X_isText p1 = 0 then (some ((-1), h)) else (jk1 (fun (u2 : Unit) => if p2 < 0 then (some ((-1), h)) else (if p2 ≤ F_Ro_size (F_St_text 3 p1) h then (jk1 (fun (u6 : Unit) => jk1 (fun (u8 : Unit) => ob1 (F_Hi_record 3 h) (fun (h10 : MH) => jk1 (fun (h12 : MH) => some (F_Ro_size (F_St_text 3 p1) h12, h12)) (fun kj13 => if F_X_isSign p3 = 0 then (if F_X_isSign (wr (p3 - 10)) = 0 then (ob1 (F_Ro_putOut (F_St_text 3 p1) p2 h10) (fun (h17 : MH) => kj13 h17)) else (kj13 (F_Ro_change (F_St_text 3 p1) p2 (wr (p3 - 10)) h10))) else (ob1 (F_Ro_putIn (F_St_text 3 p1) p2 p3 h10) (fun (h19 : MH) => kj13 h19))))) (fun kj9 => if F_X_isSign p3 = 0 then (kj9 ()) else (if F_Ro_size (F_St_text 3 p1) h < 14 then (kj9 ()) else (some ((-3), h))))) (fun kj7 => if p2 = F_Ro_size (F_St_text 3 p1) h then (if F_X_isSign p3 = 0 then (some ((-1), h)) else (kj7 ())) else (kj7 ()))) else (some ((-1), h)))) (fun kj3 => if F_X_isSign p3 = 0 then (if F_X_isSign (wr (p3 - 10)) = 0 then (if p3 = 20 then (kj3 ()) else (some ((-1), h))) else (kj3 ())) else (kj3 ())))
def F_Ro_becomeZeros_L6 (x0 : Nat) (x1 : Int) : Nat → Int → MH → Option (Int × MH)
  | 0, _, _ => none
  | n + 1, x2, h => if x2 < x1 then (F_Ro_becomeZeros_L6 x0 x1 n (wr (x2 + 1)) (F_Ro_add x0 0 h)) else (some (x2, h))
def F_Ro_becomeZeros (o : Nat) (p1 : Int) (h : MH) : Option MH :=
  ob2 (F_Ro_becomeZeros_L6 o p1 FUEL 0 (F_Ro_emptyOut o h)) (fun (x2_1 : Int) (h2 : MH) => some h2)
def F_C_keptFrom (p1 : Int) (p2 : Int) (h : MH) : Int :=
  F_Ro_at 50 (wr ((wr (p1 * 15)) + p2)) h
def F_C_compare_L29 (x1 : Nat) (x2 : Nat) (x3 : Int) : Nat → Int → MH → Option (Int × MH)
  | 0, _, _ => none
  | n + 1, x4, h => if x4 < 0 then (some (x4, h)) else (jn1 (if F_Ro_at x1 x3 h = F_Ro_at x2 x4 h then ((wr ((F_C_keptFrom (wr (x3 + 1)) (wr (x4 + 1)) h) + 1))) else ((imax (F_C_keptFrom (wr (x3 + 1)) x4 h) (F_C_keptFrom x3 (wr (x4 + 1)) h)))) (fun (s2 : Int) => F_C_compare_L29 x1 x2 x3 n (wr (x4 + (-1))) (F_Ro_change 50 (wr ((wr (x3 * 15)) + x4)) s2 h)))
def F_C_compare_L17 (x1 : Nat) (x2 : Nat) : Nat → Int → MH → Option (Int × MH)
  | 0, _, _ => none
  | n + 1, x3, h => if x3 < 0 then (some (x3, h)) else (ob2 (F_C_compare_L29 x1 x2 x3 FUEL (wr ((F_Ro_size x2 h) - 1)) h) (fun (x4_2 : Int) (h3 : MH) => F_C_compare_L17 x1 x2 n (wr (x3 + (-1))) h3))
def F_C_compare (p1 : Nat) (p2 : Nat) (h : MH) : Option MH :=
  ob1 (F_Ro_becomeZeros 50 225 h) (fun (h1 : MH) => ob2 (F_C_compare_L17 p1 p2 FUEL (wr ((F_Ro_size p1 h1) - 1)) h1) (fun (x3_3 : Int) (h4 : MH) => some h4))
def F_C_keptOf (p1 : Nat) (p2 : Nat) (h : MH) : Option (Int × MH) :=
  ob1 (F_C_compare p1 p2 h) (fun (h1 : MH) => some (F_C_keptFrom 0 0 h1, h1))
def F_C_apart (p1 : Nat) (p2 : Nat) (h : MH) : Option (Int × MH) :=
  ob2 (F_C_keptOf p1 p2 h) (fun (r1 : Int) (h2 : MH) => some (wr ((wr ((F_Ro_size p1 h) + (F_Ro_size p2 h))) - (wr (2 * r1))), h2))
def F_X_distanceNow (h : MH) : Option (Int × MH) :=
  ob2 (F_C_apart (F_St_text 3 0) (F_St_text 3 1) h) (fun (r1 : Int) (h2 : MH) => some (r1, h2))
def F_X_swap (p1 : Int) (p2 : Int) (h : MH) : Option (Int × MH) :=
  if F_X_isText p1 = 0 then (some ((-1), h)) else (if F_X_isText p2 = 0 then (some ((-1), h)) else (if p1 = p2 then (some ((-1), h)) else (ob1 (F_Hi_record 3 h) (fun (h4 : MH) => ob1 (F_Ro_become 47 (F_St_text 3 p1) h4) (fun (h6 : MH) => ob1 (F_Ro_become (F_St_text 3 p1) (F_St_text 3 p2) h6) (fun (h8 : MH) => ob1 (F_Ro_become (F_St_text 3 p2) 47 h8) (fun (h10 : MH) => ob2 (F_X_distanceNow h10) (fun (r12 : Int) (h13 : MH) => some (r12, h13)))))))))
def F_St_setting (o : Nat) (p1 : Int) (h : MH) : Int :=
  if p1 = 0 then (h o 3) else (h o 4)
def F_St_changeSetting (o : Nat) (p1 : Int) (p2 : Int) (h : MH) : MH :=
  if p1 = 0 then ((up h o 3 p2)) else ((up h o 4 p2))
def F_X_set (p1 : Int) (p2 : Int) (h : MH) : Option (Int × MH) :=
  jk1 (fun (u1 : Unit) => if p2 < 0 then (some ((-1), h)) else (jn1 (if p1 = 0 then (3) else (1)) (fun (s4 : Int) => if p2 ≤ s4 then (ob1 (F_Hi_record 3 h) (fun (h8 : MH) => some (F_St_setting 3 p1 h8, (F_St_changeSetting 3 p1 p2 h8)))) else (some ((-1), h))))) (fun kj2 => if p1 = 0 then (kj2 ()) else (if p1 = 1 then (kj2 ()) else (some ((-1), h))))
def F_C_step (p1 : Nat) (p2 : Nat) (p3 : Int) (p4 : Int) (h : MH) : Int :=
  jn1 (if p3 < F_Ro_size p1 h then (1) else (0)) (fun (s1 : Int) => jn1 (if p4 < F_Ro_size p2 h then (1) else (0)) (fun (s4 : Int) => jk1 (fun (u7 : Unit) => if s1 = 0 then (2) else (if s4 = 0 then (1) else (if F_C_keptFrom (wr (p3 + 1)) p4 h < F_C_keptFrom p3 (wr (p4 + 1)) h then (2) else (1)))) (fun kj8 => if s1 = 0 then (kj8 ()) else (if s4 = 0 then (kj8 ()) else (if F_Ro_at p1 p3 h = F_Ro_at p2 p4 h then (0) else (kj8 ()))))))
def F_V_size (h : MH) : Int :=
  F_Ro_size 55 h
def F_V_inHunk (p1 : Int) (h : MH) : Int :=
  if F_Ro_at 55 p1 h ≤ 0 then (0) else (1)
def F_V_hunks (h : MH) : Int :=
  F_Ro_size 59 h
def F_V_top (p1 : Int) (h : MH) : Int :=
  F_Ro_at 59 p1 h
def F_V_end (p1 : Int) (h : MH) : Int :=
  F_Ro_at 61 p1 h
def F_V_linesWithin_L6 (x2 : Int) (x3 : Int) (h : MH) : Nat → Int → Int → Option (Int × Int)
  | 0, _, _ => none
  | n + 1, x4, x5 => if x5 < x2 then (jn1 (if F_Ro_at 55 x5 h = x3 then (1) else (0)) (fun (s2 : Int) => F_V_linesWithin_L6 x2 x3 h n (wr (x4 + s2)) (wr (x5 + 1)))) else (some (x4, x5))
def F_V_linesWithin (p1 : Int) (p2 : Int) (p3 : Int) (h : MH) : Option Int :=
  ob2 (F_V_linesWithin_L6 p2 p3 h FUEL 0 p1) (fun (x4_1 : Int) (x5_2 : Int) => some x4_1)
def F_V_linesOf (p1 : Int) (p2 : Int) (h : MH) : Option Int :=
  ob1 (F_V_linesWithin (F_V_top p1 h) (F_V_end p1 h) p2 h) (fun (r1 : Int) => some r1)
def F_V_findHunks_L23  : Nat → Int → MH → Option (Int × MH)
  | 0, _, _ => none
  | n + 1, x1, h => if x1 < F_V_size h then (jn1 (if F_V_inHunk x1 h = 0 then (h) else (if F_V_inHunk (wr (x1 - 1)) h = 0 then ((F_Ro_add 59 x1 h)) else (h))) (fun (h2 : MH) => jn1 (if F_V_inHunk x1 h2 = 0 then (h2) else (if F_V_inHunk (wr (x1 + 1)) h2 = 0 then ((F_Ro_add 61 (wr (x1 + 1)) h2)) else (h2))) (fun (h6 : MH) => F_V_findHunks_L23  n (wr (x1 + 1)) h6))) else (some (x1, h))
def F_V_findHunks_L93  : Nat → Int → MH → Option (Int × MH)
  | 0, _, _ => none
  | n + 1, x1, h => if x1 < F_V_hunks h then (ob1 (F_V_linesOf x1 1 h) (fun (r2 : Int) => jk1 (fun (s6 : Int) => jn1 (if s6 = 0 then (1) else (0)) (fun (s8 : Int) => F_V_findHunks_L93  n (wr (x1 + 1)) (F_Ro_add 63 s8 h))) (fun kj7 => jk1 (fun (u4 : Unit) => kj7 0) (fun kj5 => if r2 ≤ 0 then (kj5 ()) else (ob1 (F_V_linesOf x1 2 h) (fun (r15 : Int) => if r15 ≤ 0 then (kj5 ()) else (kj7 1))))))) else (some (x1, h))
def F_V_findHunks (h : MH) : Option MH :=
  ob2 (F_V_findHunks_L23 FUEL 0 (F_Ro_emptyOut 63 (F_Ro_emptyOut 61 (F_Ro_emptyOut 59 h)))) (fun (x1_1 : Int) (h2 : MH) => ob2 (F_V_findHunks_L93 FUEL 0 h2) (fun (x1_4 : Int) (h5 : MH) => some h5))
def F_V_gather_L40 (x1 : Nat) (x2 : Nat) (x4 : Int) : Nat → Int → Int → Int → MH → Option (Int × Int × Int × MH)
  | 0, _, _, _, _ => none
  | n + 1, x5, x6, x7, h => if x7 < x4 then (if wr (x5 + x6) < x4 then (jn1 (if F_C_step x1 x2 x5 x6 h = 2 then ((F_Ro_at x2 x6 (F_Ro_add 55 (F_C_step x1 x2 x5 x6 h) h))) else ((F_Ro_at x1 x5 (F_Ro_add 55 (F_C_step x1 x2 x5 x6 h) h)))) (fun (s3 : Int) => jn1 (if F_C_step x1 x2 x5 x6 h = 2 then (0) else (1)) (fun (s6 : Int) => jn1 (if F_C_step x1 x2 x5 x6 h = 1 then (0) else (1)) (fun (s9 : Int) => F_V_gather_L40 x1 x2 x4 n (wr (x5 + s6)) (wr (x6 + s9)) (wr (x7 + 1)) (F_Ro_add 57 s3 (F_Ro_add 55 (F_C_step x1 x2 x5 x6 h) h)))))) else (some (x5, x6, x7, h))) else (some (x5, x6, x7, h))
def F_V_gather (p1 : Nat) (p2 : Nat) (h : MH) : Option MH :=
  ob1 (F_C_compare p1 p2 h) (fun (h1 : MH) => ob4 (F_V_gather_L40 p1 p2 (wr ((F_Ro_size p1 (F_Ro_emptyOut 57 (F_Ro_emptyOut 55 h1))) + (F_Ro_size p2 (F_Ro_emptyOut 57 (F_Ro_emptyOut 55 h1))))) FUEL 0 0 0 (F_Ro_emptyOut 57 (F_Ro_emptyOut 55 h1))) (fun (x5_3 : Int) (x6_4 : Int) (x7_5 : Int) (h6 : MH) => ob1 (F_V_findHunks h6) (fun (h8 : MH) => some h8)))
def F_V_isPlain (p1 : Int) (h : MH) : Int :=
  if F_Ro_at 63 p1 h = 1 then (1) else (0)
def F_V_barAt (p1 : Int) (p2 : Int) (p3 : Int) (h : MH) : Int :=
  jn1 (if p3 = 0 then ((wr (p1 - 1))) else (p2)) (fun (s1 : Int) => jn1 (if p3 = 0 then ((wr (p2 - 1))) else (p1)) (fun (s4 : Int) => if F_Ro_at 57 s1 h = (-1) then (2) else (if F_Ro_at 57 s1 h = F_Ro_at 57 s4 h then (jn1 (if p3 = 0 then ((wr (p1 - 2))) else ((wr (p2 + 1)))) (fun (s9 : Int) => if F_Ro_at 55 s9 h ≤ 0 then (0) else (4))) else (3))))
def F_V_reach_L23 (x1 : Int) (x2 : Int) (x3 : Int) (h : MH) : Nat → Int → Option (Int)
  | 0, _ => none
  | n + 1, x4 => if x4 < F_V_size h then (if F_V_barAt (wr ((F_V_top x1 h) + (wr (x3 * x4)))) (wr ((F_V_end x1 h) + (wr (x3 * x4)))) x2 h = 0 then (F_V_reach_L23 x1 x2 x3 h n (wr (x4 + 1))) else (some x4)) else (some x4)
def F_V_reach (p1 : Int) (p2 : Int) (h : MH) : Option Int :=
  if F_V_isPlain p1 h = 0 then (some 0) else (jn1 (if p2 = 0 then ((-1)) else (1)) (fun (s2 : Int) => ob1 (F_V_reach_L23 p1 p2 s2 h FUEL 0) (fun (x4_5 : Int) => some x4_5)))
def F_V_worthAt (p1 : Int) (p2 : Int) (h : MH) : Int :=
  jk1 (fun (s3 : Int) => jn1 (if F_Ro_at 57 (wr (p2 - 1)) h = 6 then (2) else (0)) (fun (s5 : Int) => jn1 (if F_Ro_at 57 p1 h = 7 then (1) else (0)) (fun (s8 : Int) => if F_Ro_at 57 (wr (p2 - 1)) h = 8 then (wr ((wr ((wr (s3 + s5)) + s8)) + 3)) else (wr ((wr ((wr (s3 + s5)) + s8)) + 0))))) (fun kj4 => jk1 (fun (u1 : Unit) => kj4 4) (fun kj2 => if F_Ro_at 57 (wr (p1 - 1)) h = 6 then (kj2 ()) else (if F_Ro_at 57 (wr (p1 - 1)) h = (-1) then (kj2 ()) else (kj4 0))))
def F_V_bestTop_L45 (x2 : Int) (x3 : Int) (h : MH) : Nat → Int → Int → Option (Int × Int)
  | 0, _, _ => none
  | n + 1, x4, x5 => if x5 ≤ x3 then (jn1 (if F_V_worthAt x5 (wr (x5 + x2)) h < F_V_worthAt x4 (wr (x4 + x2)) h then (x4) else (x5)) (fun (x4_2 : Int) => F_V_bestTop_L45 x2 x3 h n x4_2 (wr (x5 + 1)))) else (some (x4, x5))
def F_V_bestTop (p1 : Int) (h : MH) : Option Int :=
  ob1 (F_V_reach p1 1 h) (fun (r1 : Int) => ob1 (F_V_reach p1 0 h) (fun (r3 : Int) => ob2 (F_V_bestTop_L45 (wr ((F_V_end p1 h) - (F_V_top p1 h))) (wr ((F_V_top p1 h) + r1)) h FUEL (wr ((F_V_top p1 h) - r3)) (wr ((wr ((F_V_top p1 h) - r3)) + 1))) (fun (x4_5 : Int) (x5_6 : Int) => some x4_5)))
def F_V_moveTo_L35 (x1 : Int) (x2 : Int) (x3 : Int) (x4 : Int) : Nat → Int → MH → Option (Int × MH)
  | 0, _, _ => none
  | n + 1, x5, h => if x5 < F_V_end x1 h then (F_V_moveTo_L35 x1 x2 x3 x4 n (wr (x5 + 1)) (F_Ro_change 55 x5 0 h)) else (some (x5, h))
def F_V_moveTo_L64 (x1 : Int) (x2 : Int) (x3 : Int) (x4 : Int) : Nat → Int → MH → Option (Int × MH)
  | 0, _, _ => none
  | n + 1, x5, h => if x5 < x4 then (F_V_moveTo_L64 x1 x2 x3 x4 n (wr (x5 + 1)) (F_Ro_change 55 x5 x3 h)) else (some (x5, h))
def F_V_moveTo (p1 : Int) (p2 : Int) (h : MH) : Option MH :=
  ob2 (F_V_moveTo_L35 p1 p2 (F_Ro_at 55 (F_V_top p1 h) h) (wr ((wr (p2 + (F_V_end p1 h))) - (F_V_top p1 h))) FUEL (F_V_top p1 h) h) (fun (x5_1 : Int) (h2 : MH) => ob2 (F_V_moveTo_L64 p1 p2 (F_Ro_at 55 (F_V_top p1 h) h) (wr ((wr (p2 + (F_V_end p1 h))) - (F_V_top p1 h))) FUEL p2 h2) (fun (x5_4 : Int) (h5 : MH) => some (F_Ro_change 61 p1 (wr ((wr (p2 + (F_V_end p1 h))) - (F_V_top p1 h))) (F_Ro_change 59 p1 p2 h5))))
def F_V_settle_L2  : Nat → Int → MH → Option (Int × MH)
  | 0, _, _ => none
  | n + 1, x1, h => if x1 < F_V_hunks h then (jk1 (fun (h2 : MH) => F_V_settle_L2  n (wr (x1 + 1)) h2) (fun kj3 => if F_V_isPlain x1 h = 0 then (kj3 h) else (ob1 (F_V_bestTop x1 h) (fun (r6 : Int) => ob1 (F_V_moveTo x1 r6 h) (fun (h8 : MH) => kj3 h8))))) else (some (x1, h))
def F_V_settle (h : MH) : Option MH :=
  ob2 (F_V_settle_L2 FUEL 0 h) (fun (x1_1 : Int) (h2 : MH) => some h2)
def F_X_show (h : MH) : Option MH :=
  ob1 (F_V_gather (F_St_text 3 0) (F_St_text 3 1) h) (fun (h1 : MH) => if F_St_setting 3 1 h1 = 1 then (ob1 (F_V_settle h1) (fun (h4 : MH) => some h4)) else (some h1))
def F_V_has (p1 : Int) (h : MH) : Int :=
  if p1 < 0 then (0) else (if p1 < F_V_hunks h then (1) else (0))
def F_V_around (p1 : Int) (p2 : Int) (p3 : Int) (h : MH) : Int :=
  jn1 (if p3 = 0 then (jn1 (if F_V_has (wr (p1 - 1)) h = 0 then (0) else ((F_V_end (wr (p1 - 1)) h))) (fun (s4 : Int) => (wr ((F_V_top p1 h) - s4)))) else (jn1 (if F_V_has (wr (p1 + 1)) h = 0 then ((F_V_size h)) else ((F_V_top (wr (p1 + 1)) h))) (fun (s8 : Int) => (wr (s8 - (F_V_end p1 h)))))) (fun (x4_1 : Int) => imin p2 x4_1)
def F_V_kind (p1 : Int) (h : MH) : Int :=
  F_Ro_at 55 p1 h
def F_V_sign (p1 : Int) (h : MH) : Int :=
  F_Ro_at 57 p1 h
def F_La_takeParts_L41 (x3 : Int) (x5 : Int) (x6 : Int) : Nat → Int → MH → Option (Int × MH)
  | 0, _, _ => none
  | n + 1, x7, h => if x7 < x3 then (jn1 (if F_V_kind x7 h = x6 then (h) else ((F_Ro_add 68 (F_V_sign x7 h) h))) (fun (h2 : MH) => jn1 (if F_V_kind x7 h2 = x5 then (h2) else ((F_Ro_add 70 (F_V_sign x7 h2) h2))) (fun (h5 : MH) => F_La_takeParts_L41 x3 x5 x6 n (wr (x7 + 1)) h5))) else (some (x7, h))
def F_La_takeParts (p2 : Int) (p3 : Int) (p4 : Int) (h : MH) : Option MH :=
  jn1 (if p4 = 0 then (1) else (2)) (fun (s1 : Int) => jn1 (if p4 = 0 then (2) else (1)) (fun (s4 : Int) => ob2 (F_La_takeParts_L41 p3 s1 s4 FUEL p2 (F_Ro_emptyOut 70 (F_Ro_emptyOut 68 h))) (fun (x7_7 : Int) (h8 : MH) => some h8)))
def F_V_newAhead (p1 : Int) (h : MH) : Option Int :=
  ob1 (F_V_linesWithin 0 p1 1 h) (fun (r1 : Int) => some (wr (p1 - r1)))
def F_V_oldAhead (p1 : Int) (h : MH) : Option Int :=
  ob1 (F_V_linesWithin 0 p1 2 h) (fun (r1 : Int) => some (wr (p1 - r1)))
def F_La_fitsAt_L31 (x1 : Int) (h : MH) : Nat → Int → Option (Sum (Int) (Int))
  | 0, _ => none
  | n + 1, x2 => if x2 < F_Ro_size 68 h then (if F_Ro_at 68 x2 h = F_Ro_at 66 (wr (x1 + x2)) h then (F_La_fitsAt_L31 x1 h n (wr (x2 + 1))) else (some (Sum.inl 0))) else (some (Sum.inr x2))
def F_La_fitsAt (p1 : Int) (h : MH) : Option Int :=
  if p1 < h 65 9 then (some 0) else (if wr (p1 + (F_Ro_size 68 h)) ≤ F_Ro_size 66 h then (os (F_La_fitsAt_L31 p1 h FUEL 0) (fun (a : Int) => some a) (fun (q5 : Int) => some 1)) else (some 0))
def F_La_search_L2 (x1 : Int) (h : MH) : Nat → Int → Option (Sum (Int) (Int))
  | 0, _ => none
  | n + 1, x2 => if x2 ≤ 112 then (ob1 (F_La_fitsAt (wr (x1 - x2)) h) (fun (r2 : Int) => if r2 = 0 then (ob1 (F_La_fitsAt (wr (x1 + x2)) h) (fun (r5 : Int) => if r5 = 0 then (F_La_search_L2 x1 h n (wr (x2 + 1))) else (some (Sum.inl (wr (x1 + x2)))))) else (some (Sum.inl (wr (x1 - x2)))))) else (some (Sum.inr x2))
def F_La_search (p1 : Int) (h : MH) : Option Int :=
  os (F_La_search_L2 p1 h FUEL 0) (fun (a : Int) => some a) (fun (q3 : Int) => some (-4))
def F_La_replaceAt_L2 (x1 : Int) : Nat → Int → MH → Option (Int × MH)
  | 0, _, _ => none
  | n + 1, x2, h => if x2 < F_Ro_size 68 h then (ob1 (F_Ro_putOut 66 x1 h) (fun (h2 : MH) => F_La_replaceAt_L2 x1 n (wr (x2 + 1)) h2)) else (some (x2, h))
def F_La_replaceAt_L29 (x1 : Int) : Nat → Int → MH → Option (Int × MH)
  | 0, _, _ => none
  | n + 1, x2, h => if x2 < F_Ro_size 70 h then (ob1 (F_Ro_putIn 66 (wr (x1 + x2)) (F_Ro_at 70 x2 h) h) (fun (h2 : MH) => F_La_replaceAt_L29 x1 n (wr (x2 + 1)) h2)) else (some (x2, h))
def F_La_replaceAt (p1 : Int) (h : MH) : Option MH :=
  ob2 (F_La_replaceAt_L2 p1 FUEL 0 h) (fun (x2_1 : Int) (h2 : MH) => ob2 (F_La_replaceAt_L29 p1 FUEL 0 h2) (fun (x2_4 : Int) (h5 : MH) => some h5))
def F_La_layOne (p2 : Int) (p3 : Int) (p4 : Int) (h : MH) : Option MH :=
  ob1 (F_La_takeParts (wr ((F_V_top p2 h) - (F_V_around p2 p3 0 h))) (wr ((F_V_end p2 h) + (F_V_around p2 p3 1 h))) p4 h) (fun (h1 : MH) => jk1 (fun (s3 : Int) => ob1 (F_La_search (wr ((wr (s3 + (h1 65 8))) + (h1 65 7))) h1) (fun (r5 : Int) => if r5 = (-4) then (some (F_Ro_add 74 (wr (r5 - (wr ((wr (s3 + (h1 65 8))) + (h1 65 7))))) (F_Ro_add 72 r5 h1))) else (ob1 (F_La_replaceAt r5 (F_Ro_add 74 (wr (r5 - (wr ((wr (s3 + (h1 65 8))) + (h1 65 7))))) (F_Ro_add 72 r5 h1))) (fun (h8 : MH) => jn1 (up h8 65 8 (wr ((h8 65 8) + (wr ((F_Ro_size 70 h8) - (F_Ro_size 68 h8)))))) (fun (h10 : MH) => jn1 (up h10 65 7 (wr ((h10 65 7) + (wr (r5 - (wr ((wr (s3 + (h1 65 8))) + (h1 65 7)))))))) (fun (h12 : MH) => jn1 (up h12 65 9 (wr ((wr (r5 + (F_Ro_size 70 h12))) - (F_V_around p2 p3 1 h)))) (fun (h14 : MH) => jn1 (up h14 65 6 (imax (h14 65 6) (F_Ro_size 66 h14))) (fun (h16 : MH) => jn1 (up h16 65 5 (wr ((h16 65 5) + 1))) (fun (h18 : MH) => some h18))))))))) (fun kj4 => if p4 = 0 then (ob1 (F_V_oldAhead (wr ((F_V_top p2 h) - (F_V_around p2 p3 0 h))) h1) (fun (r22 : Int) => kj4 r22)) else (ob1 (F_V_newAhead (wr ((F_V_top p2 h) - (F_V_around p2 p3 0 h))) h1) (fun (r24 : Int) => kj4 r24))))
def F_La_layAll_L50 (x3 : Int) (x4 : Int) : Nat → Int → MH → Option (Int × MH)
  | 0, _, _ => none
  | n + 1, x5, h => if x5 < F_V_hunks h then (ob1 (F_La_layOne x5 x3 x4 h) (fun (h2 : MH) => F_La_layAll_L50 x3 x4 n (wr (x5 + 1)) h2)) else (some (x5, h))
def F_La_layAll (p2 : Nat) (p3 : Int) (p4 : Int) (h : MH) : Option MH :=
  ob1 (F_Ro_become 66 p2 h) (fun (h1 : MH) => ob2 (F_La_layAll_L50 p3 p4 FUEL 0 (up (up (up (up (up (F_Ro_emptyOut 74 (F_Ro_emptyOut 72 h1)) 65 5 0) 65 6 0) 65 7 0) 65 8 0) 65 9 0)) (fun (x5_3 : Int) (h4 : MH) => some h4))
def F_La_longest (h : MH) : Int :=
  h 65 6
def F_La_result : Nat :=
  66
def F_La_laid (h : MH) : Int :=
  h 65 5
def F_St_addPatches (o : Nat) (p1 : Int) (p2 : Int) (h : MH) : MH :=
  (up (up h o 5 (wr ((h o 5) + p1))) o 6 (wr (((up h o 5 (wr ((h o 5) + p1))) o 6) + p2)))
def F_X_lay (p1 : Int) (h : MH) : Option (Int × MH) :=
  ob1 (F_X_show h) (fun (h1 : MH) => ob1 (F_La_layAll (F_St_text 3 2) (F_St_setting 3 0 h1) p1 h1) (fun (h3 : MH) => if F_La_longest h3 ≤ 14 then (ob1 (F_Hi_record 3 h3) (fun (h6 : MH) => ob1 (F_Ro_become (F_St_text 3 2) 66 h6) (fun (h8 : MH) => some (F_La_laid (F_St_addPatches 3 (F_La_laid h8) (wr ((F_V_hunks h8) - (F_La_laid h8))) h8), (F_St_addPatches 3 (F_La_laid h8) (wr ((F_V_hunks h8) - (F_La_laid h8))) h8))))) else (some ((-3), h3))))
def F_X_line (p1 : Int) (p2 : Int) (h : MH) : Int :=
  if F_X_isText p1 = 0 then ((-1)) else (if p2 < 0 then ((-1)) else (if p2 < F_Ro_size (F_St_text 3 p1) h then (F_Ro_at (F_St_text 3 p1) p2 h) else ((-4))))
def F_C_entry (p1 : Int) (p2 : Int) (h : MH) : Int :=
  if p2 = 0 then (0) else (if p1 = wr (-p2) then (F_Ro_at 52 (wr ((wr (29 + p1)) + 1)) h) else (if p1 = p2 then (wr ((F_Ro_at 52 (wr ((wr (29 + p1)) - 1)) h) + 1)) else (if wr ((F_Ro_at 52 (wr ((wr (29 + p1)) - 1)) h) + 1) ≤ F_Ro_at 52 (wr ((wr (29 + p1)) + 1)) h then (F_Ro_at 52 (wr ((wr (29 + p1)) + 1)) h) else (wr ((F_Ro_at 52 (wr ((wr (29 + p1)) - 1)) h) + 1)))))
def F_C_followKept_L3 (x0 : Nat) (x1 : Nat) (x3 : Int) (h : MH) : Nat → Int → Option (Int)
  | 0, _ => none
  | n + 1, x4 => if x4 < F_Ro_size x0 h then (if wr (x4 - x3) < F_Ro_size x1 h then (if F_Ro_at x0 x4 h = F_Ro_at x1 (wr (x4 - x3)) h then (F_C_followKept_L3 x0 x1 x3 h n (wr (x4 + 1))) else (some x4)) else (some x4)) else (some x4)
def F_C_followKept (p1 : Nat) (p2 : Nat) (p3 : Int) (p4 : Int) (h : MH) : Option Int :=
  ob1 (F_C_followKept_L3 p1 p2 p4 h FUEL p3) (fun (x4_1 : Int) => some x4_1)
def F_C_apartBySteps_L33 (x1 : Nat) (x2 : Nat) (x3 : Int) (x4 : Int) : Nat → Int → MH → Option (Sum (Int × MH) (Int × MH))
  | 0, _, _ => none
  | n + 1, x5, h => if x5 ≤ x4 then (ob1 (F_C_followKept x1 x2 (F_C_entry x5 x4 h) x5 h) (fun (r2 : Int) => jk1 (fun (u4 : Unit) => F_C_apartBySteps_L33 x1 x2 x3 x4 n (wr (x5 + 2)) (F_Ro_change 52 (wr (29 + x5)) r2 h)) (fun kj5 => if r2 < F_Ro_size x1 (F_Ro_change 52 (wr (29 + x5)) r2 h) then (kj5 ()) else (if wr (r2 - x5) < F_Ro_size x2 (F_Ro_change 52 (wr (29 + x5)) r2 h) then (kj5 ()) else (some (Sum.inl (x4, (F_Ro_change 52 (wr (29 + x5)) r2 h)))))))) else (some (Sum.inr (x5, h)))
def F_C_apartBySteps_L22 (x1 : Nat) (x2 : Nat) (x3 : Int) : Nat → Int → MH → Option (Sum (Int × MH) (Int × MH))
  | 0, _, _ => none
  | n + 1, x4, h => if x4 ≤ x3 then (os (F_C_apartBySteps_L33 x1 x2 x3 x4 FUEL (wr (-x4)) h) (fun (a : Int × MH) => some (Sum.inl a)) (fun (q5 : Int × MH) => F_C_apartBySteps_L22 x1 x2 x3 n (wr (x4 + 1)) q5.2)) else (some (Sum.inr (x4, h)))
def F_C_apartBySteps (p1 : Nat) (p2 : Nat) (h : MH) : Option (Int × MH) :=
  ob1 (F_Ro_becomeZeros 52 59 h) (fun (h1 : MH) => os (F_C_apartBySteps_L22 p1 p2 (wr ((F_Ro_size p1 h) + (F_Ro_size p2 h))) FUEL 0 h1) (fun (a : Int × MH) => some a) (fun (q6 : Int × MH) => some (wr ((F_Ro_size p1 h) + (F_Ro_size p2 h)), q6.2)))
def F_X_distance (p1 : Int) (h : MH) : Option (Int × MH) :=
  if p1 = 0 then (ob2 (F_X_distanceNow h) (fun (r2 : Int) (h3 : MH) => some (r2, h3))) else (if p1 = 1 then (ob2 (F_C_apartBySteps (F_St_text 3 0) (F_St_text 3 1) h) (fun (r6 : Int) (h7 : MH) => some (r6, h7))) else (some ((-1), h)))
def F_V_hunkOf_L2 (x1 : Int) (h : MH) : Nat → Int → Option (Sum (Int) (Int))
  | 0, _ => none
  | n + 1, x2 => if x2 < F_V_hunks h then (jk1 (fun (u2 : Unit) => F_V_hunkOf_L2 x1 h n (wr (x2 + 1))) (fun kj3 => if F_V_top x2 h ≤ x1 then (if x1 < F_V_end x2 h then (some (Sum.inl x2)) else (kj3 ())) else (kj3 ()))) else (some (Sum.inr x2))
def F_V_hunkOf (p1 : Int) (h : MH) : Option Int :=
  os (F_V_hunkOf_L2 p1 h FUEL 0) (fun (a : Int) => some a) (fun (q3 : Int) => some (-4))
def F_X_view (p1 : Int) (p2 : Int) (h : MH) : Option (Int × MH) :=
  if p1 < 0 then (some ((-1), h)) else (if p2 < 0 then (some ((-1), h)) else (if p2 ≤ 4 then (ob1 (F_X_show h) (fun (h4 : MH) => if p1 < F_V_size h4 then (if p2 = 0 then (some (F_V_kind p1 h4, h4)) else (if p2 = 1 then (some (F_V_sign p1 h4, h4)) else (if p2 = 2 then (if F_V_kind p1 h4 = 2 then (some ((-4), h4)) else (ob1 (F_V_oldAhead p1 h4) (fun (r11 : Int) => some (r11, h4)))) else (if p2 = 3 then (if F_V_kind p1 h4 = 1 then (some ((-4), h4)) else (ob1 (F_V_newAhead p1 h4) (fun (r15 : Int) => some (r15, h4)))) else (ob1 (F_V_hunkOf p1 h4) (fun (r17 : Int) => some (r17, h4))))))) else (some ((-4), h4)))) else (some ((-1), h))))
def F_V_worth (p1 : Int) (h : MH) : Int :=
  F_V_worthAt (F_V_top p1 h) (F_V_end p1 h) h
def F_V_greatestWorth (p1 : Int) (h : MH) : Option Int :=
  ob1 (F_V_bestTop p1 h) (fun (r1 : Int) => some (F_V_worthAt r1 (wr ((wr (r1 + (F_V_end p1 h))) - (F_V_top p1 h))) h))
def F_X_hunk (p1 : Int) (p2 : Int) (h : MH) : Option (Int × MH) :=
  if p2 < 0 then (some ((-1), h)) else (if p2 ≤ 9 then (ob1 (F_X_show h) (fun (h3 : MH) => if F_V_has p1 h3 = 0 then (some ((-1), h3)) else (if p2 = 0 then (some (F_V_top p1 h3, h3)) else (if p2 = 1 then (ob1 (F_V_linesOf p1 1 h3) (fun (r8 : Int) => some (r8, h3))) else (if p2 = 2 then (ob1 (F_V_linesOf p1 2 h3) (fun (r11 : Int) => some (r11, h3))) else (if p2 = 3 then (if F_V_isPlain p1 h3 = 0 then (some (0, h3)) else (some (1, h3))) else (if p2 = 4 then (ob1 (F_V_reach p1 0 h3) (fun (r16 : Int) => some (r16, h3))) else (if p2 = 5 then (ob1 (F_V_reach p1 1 h3) (fun (r19 : Int) => some (r19, h3))) else (if p2 = 6 then (some (F_V_worth p1 h3, h3)) else (if p2 = 7 then (ob1 (F_V_greatestWorth p1 h3) (fun (r23 : Int) => some (r23, h3))) else (if p2 = 8 then (some (F_V_around p1 (F_St_setting 3 0 h3) 0 h3, h3)) else (some (F_V_around p1 (F_St_setting 3 0 h3) 1 h3, h3))))))))))))) else (some ((-1), h)))
def F_V_hindrance (p1 : Int) (p2 : Int) (h : MH) : Int :=
  if F_V_isPlain p1 h = 0 then (1) else (F_V_barAt (F_V_top p1 h) (F_V_end p1 h) p2 h)
def F_X_whyNot (p1 : Int) (p2 : Int) (h : MH) : Option (Int × MH) :=
  ob1 (F_X_show h) (fun (h1 : MH) => if F_V_has p1 h1 = 0 then (some ((-1), h1)) else (some (F_V_hindrance p1 p2 h1, h1)))
def F_St_laid (o : Nat) (h : MH) : Int :=
  h o 5
def F_St_leftOut (o : Nat) (h : MH) : Int :=
  h o 6
def F_Hi_size (h : MH) : Int :=
  h 17 1
def F_X_heldNumber (p1 : Int) (h : MH) : Int :=
  if p1 = 12 then (F_St_laid 3 h) else (if p1 = 13 then (F_St_leftOut 3 h) else (if p1 = 14 then (F_St_setting 3 0 h) else (if p1 = 15 then (F_St_setting 3 1 h) else (if p1 = 16 then (F_Ro_size 1 h) else (F_Hi_size h)))))
def F_V_linesOfKind (p1 : Int) (h : MH) : Option Int :=
  ob1 (F_V_linesWithin 0 (F_V_size h) p1 h) (fun (r1 : Int) => some r1)
def F_V_plainHunks_L4 (h : MH) : Nat → Int → Int → Option (Int × Int)
  | 0, _, _ => none
  | n + 1, x1, x2 => if x2 < F_V_hunks h then (jn1 (if F_V_isPlain x2 h = 0 then (0) else (1)) (fun (s2 : Int) => F_V_plainHunks_L4 h n (wr (x1 + s2)) (wr (x2 + 1)))) else (some (x1, x2))
def F_V_plainHunks (h : MH) : Option Int :=
  ob2 (F_V_plainHunks_L4 h FUEL 0 0) (fun (x1_1 : Int) (x2_2 : Int) => some x1_1)
def F_V_slidingHunks_L4 (h : MH) : Nat → Int → Int → Option (Int × Int)
  | 0, _, _ => none
  | n + 1, x1, x2 => if x2 < F_V_hunks h then (ob1 (F_V_reach x2 0 h) (fun (r2 : Int) => ob1 (F_V_reach x2 1 h) (fun (r4 : Int) => jn1 (if wr (r2 + r4) ≤ 0 then (0) else (1)) (fun (s6 : Int) => F_V_slidingHunks_L4 h n (wr (x1 + s6)) (wr (x2 + 1)))))) else (some (x1, x2))
def F_V_slidingHunks (h : MH) : Option Int :=
  ob2 (F_V_slidingHunks_L4 h FUEL 0 0) (fun (x1_1 : Int) (x2_2 : Int) => some x1_1)
def F_V_worthOfAll_L4 (h : MH) : Nat → Int → Int → Option (Int × Int)
  | 0, _, _ => none
  | n + 1, x1, x2 => if x2 < F_V_hunks h then (F_V_worthOfAll_L4 h n (wr (x1 + (F_V_worth x2 h))) (wr (x2 + 1))) else (some (x1, x2))
def F_V_worthOfAll (h : MH) : Option Int :=
  ob2 (F_V_worthOfAll_L4 h FUEL 0 0) (fun (x1_1 : Int) (x2_2 : Int) => some x1_1)
def F_V_longestKept_L6 (h : MH) : Nat → Int → Int → Int → Option (Int × Int × Int)
  | 0, _, _, _ => none
  | n + 1, x1, x2, x3 => if x3 < F_V_size h then (jn1 (if F_V_inHunk x3 h = 0 then ((wr (x2 + 1))) else (0)) (fun (s2 : Int) => F_V_longestKept_L6 h n (imax x1 s2) s2 (wr (x3 + 1)))) else (some (x1, x2, x3))
def F_V_longestKept (h : MH) : Option Int :=
  ob3 (F_V_longestKept_L6 h FUEL 0 0 0) (fun (x1_1 : Int) (x2_2 : Int) (x3_3 : Int) => some x1_1)
def F_X_shownNumber (p1 : Int) (h : MH) : Option Int :=
  if p1 = 3 then (some (F_V_size h)) else (if p1 = 4 then (ob1 (F_V_linesOfKind 0 h) (fun (r3 : Int) => some r3)) else (if p1 = 5 then (ob1 (F_V_linesOfKind 1 h) (fun (r6 : Int) => some r6)) else (if p1 = 6 then (ob1 (F_V_linesOfKind 2 h) (fun (r9 : Int) => some r9)) else (if p1 = 7 then (some (F_V_hunks h)) else (if p1 = 8 then (ob1 (F_V_plainHunks h) (fun (r13 : Int) => some r13)) else (if p1 = 9 then (ob1 (F_V_slidingHunks h) (fun (r16 : Int) => some r16)) else (if p1 = 10 then (ob1 (F_V_worthOfAll h) (fun (r19 : Int) => some r19)) else (ob1 (F_V_longestKept h) (fun (r21 : Int) => some r21)))))))))
def F_X_count (p1 : Int) (h : MH) : Option (Int × MH) :=
  if p1 < 0 then (some ((-1), h)) else (if p1 ≤ 17 then (if F_X_isText p1 = 0 then (if p1 ≤ 11 then (ob1 (F_X_show h) (fun (h5 : MH) => ob1 (F_X_shownNumber p1 h5) (fun (r7 : Int) => some (r7, h5)))) else (some (F_X_heldNumber p1 h, h))) else (some (F_Ro_size (F_St_text 3 p1) h, h))) else (some ((-1), h)))
def F_X_alike (h : MH) : Option (UInt64 × MH) :=
  if wr ((F_Ro_size (F_St_text 3 0) h) + (F_Ro_size (F_St_text 3 1) h)) = 0 then (some (FP.dconst1, h)) else (ob2 (F_C_keptOf (F_St_text 3 0) (F_St_text 3 1) h) (fun (r2 : Int) (h3 : MH) => gd (FP.ddiv (FP.i2d (Int32.ofInt (wr (2 * r2)))) (FP.i2d (Int32.ofInt (wr ((F_Ro_size (F_St_text 3 0) h) + (F_Ro_size (F_St_text 3 1) h))))) &&& 0x7fffffffffffffff ≤ 0x7ff0000000000000) (some (FP.ddiv (FP.i2d (Int32.ofInt (wr (2 * r2)))) (FP.i2d (Int32.ofInt (wr ((F_Ro_size (F_St_text 3 0) h) + (F_Ro_size (F_St_text 3 1) h))))), h3))))
def F_La_placeOf (p1 : Int) (h : MH) : Int :=
  F_Ro_at 72 p1 h
def F_La_lowerOf (p1 : Int) (h : MH) : Int :=
  F_Ro_at 74 p1 h
def F_X_ifLaid (p1 : Int) (p2 : Int) (p3 : Int) (h : MH) : Option (Int × MH) :=
  jk1 (fun (u1 : Unit) => ob1 (F_X_show h) (fun (h3 : MH) => if F_V_has p1 h3 = 0 then (some ((-1), h3)) else (ob1 (F_La_layAll (F_St_text 3 2) (F_St_setting 3 0 h3) p2 h3) (fun (h6 : MH) => if F_La_placeOf p1 h6 = (-4) then (some ((-4), h6)) else (if p3 = 0 then (some (F_La_placeOf p1 h6, h6)) else (some (wr ((F_La_lowerOf p1 h6) + 100), h6))))))) (fun kj2 => if p3 = 0 then (kj2 ()) else (if p3 = 1 then (kj2 ()) else (some ((-1), h))))
def F_X_ifAround (p1 : Int) (h : MH) : Option (Int × MH) :=
  if p1 < 0 then (some ((-1), h)) else (if p1 ≤ 3 then (ob1 (F_X_show h) (fun (h3 : MH) => ob1 (F_La_layAll (F_St_text 3 2) p1 0 h3) (fun (h5 : MH) => some (F_La_laid h5, h5)))) else (some ((-1), h)))
def F_Ro_isEmpty (o : Nat) (h : MH) : Int :=
  if h o 1 = 0 then (1) else (0)
def F_X_least_L27 (x1 : Nat) : Nat → Int → Int → Int → MH → Option (Int × Int × Int × MH)
  | 0, _, _, _, _ => none
  | n + 1, x2, x3, x4, h => if x4 < F_Ro_size x1 h then (ob1 (F_Ro_become 47 x1 h) (fun (h2 : MH) => ob1 (F_Ro_putOut 47 x4 h2) (fun (h4 : MH) => ob2 (F_C_apart 47 (F_St_text 3 1) h4) (fun (r6 : Int) (h7 : MH) => jn2 (if r6 < x3 then ((x4, r6)) else ((x2, x3))) (fun (x2_9 : Int) (x3_10 : Int) => F_X_least_L27 x1 n x2_9 x3_10 (wr (x4 + 1)) h7))))) else (some (x2, x3, x4, h))
def F_X_least (h : MH) : Option (Int × MH) :=
  if F_Ro_isEmpty (F_St_text 3 0) h = 0 then (ob4 (F_X_least_L27 (F_St_text 3 0) FUEL 0 29 0 h) (fun (x2_2 : Int) (x3_3 : Int) (x4_4 : Int) (h5 : MH) => some (x2_2, h5))) else (some ((-2), h))
def F_Hi_isEmpty (h : MH) : Int :=
  if h 17 1 = 0 then (1) else (0)
def F_Hi_takeBack (p1 : Nat) (h : MH) : Option MH :=
  if h 17 1 ≤ 0 then (some h) else (ob1 (F_Hi_copy (F_Hi_slot ((up h 17 1 (wr ((h 17 1) - 1))) 17 1)) (some p1) (up h 17 1 (wr ((h 17 1) - 1)))) (fun (h2 : MH) => some h2))
def F_X_undo (h : MH) : Option (Int × MH) :=
  if F_Hi_isEmpty h = 0 then (ob1 (F_Hi_takeBack 3 h) (fun (h2 : MH) => some (F_Hi_size h2, h2))) else (some ((-2), h))
def F_X_save (h : MH) : Option (Int × MH) :=
  ob1 (F_St_become 10 3 h) (fun (h1 : MH) => ob2 (F_X_distanceNow (up h1 0 3 1)) (fun (r3 : Int) (h4 : MH) => some (r3, h4)))
def F_X_restore (h : MH) : Option (Int × MH) :=
  if h 0 3 = 0 then (some ((-2), h)) else (ob1 (F_Hi_record 3 h) (fun (h2 : MH) => ob1 (F_St_become 3 10 h2) (fun (h4 : MH) => ob2 (F_X_distanceNow h4) (fun (r6 : Int) (h7 : MH) => some (r6, h7)))))
def F_M_in (p1 : Int) (p2 : Int) (p3 : Int) : Int :=
  if p1 < p2 then (0) else (if p1 ≤ p3 then (1) else (0))
def F_M_remembers_L50  : Nat → Int → MH → Option (Int × MH)
  | 0, _, _ => none
  | n + 1, x1, h => if x1 < 49 then (gd (0 ≤ x1 ∧ x1 < 49) (gd (0 ≤ wr ((wr (49 * (h 76 2))) + x1) ∧ wr ((wr (49 * (h 76 2))) + x1) < 196) (F_M_remembers_L50  n (wr (x1 + 1)) (up h 78 (wr ((wr (49 * (h 76 2))) + x1)).toNat (h 77 x1.toNat))))) else (some (x1, h))
def F_M_remembers_L10  : Nat → Int → MH → Option (Int × MH)
  | 0, _, _ => none
  | n + 1, x1, h => if x1 < 147 then (gd (0 ≤ wr (49 + x1) ∧ wr (49 + x1) < 196) (gd (0 ≤ x1 ∧ x1 < 196) (F_M_remembers_L10  n (wr (x1 + 1)) (up h 78 x1.toNat (h 78 (wr (49 + x1)).toNat))))) else (some (x1, h))
def F_M_remembers (h : MH) : Option MH :=
  jk1 (fun (h1 : MH) => ob2 (F_M_remembers_L50 FUEL 0 h1) (fun (x1_3 : Int) (h4 : MH) => some (up h4 76 2 (wr ((h4 76 2) + 1))))) (fun kj2 => if h 76 2 = 4 then (ob2 (F_M_remembers_L10 FUEL 0 h) (fun (x1_8 : Int) (h9 : MH) => kj2 (up h9 76 2 (wr ((h9 76 2) - 1))))) else (kj2 h))
def F_M_lines (p1 : Int) (h : MH) : Option Int :=
  gd (0 ≤ wr (15 * p1) ∧ wr (15 * p1) < 49) (some (h 77 (wr (15 * p1)).toNat))
def F_M_lineOf (p1 : Int) (p2 : Int) (h : MH) : Option Int :=
  gd (0 ≤ wr ((wr ((wr (15 * p1)) + 1)) + p2) ∧ wr ((wr ((wr (15 * p1)) + 1)) + p2) < 49) (some (h 77 (wr ((wr ((wr (15 * p1)) + 1)) + p2)).toNat))
def F_M_olds (h : MH) : Option Int :=
  ob1 (F_M_lines 0 h) (fun (r1 : Int) => if h 76 8 = (-4) then (some (wr (r1 - 0))) else (some (wr (r1 - 1))))
def F_M_old (p1 : Int) (h : MH) : Option Int :=
  jk1 (fun (s3 : Int) => ob1 (F_M_lineOf 0 s3 h) (fun (r5 : Int) => some r5)) (fun kj4 => jk1 (fun (u1 : Unit) => kj4 p1) (fun kj2 => if h 76 8 = (-4) then (kj2 ()) else (if p1 < h 76 8 then (kj2 ()) else (kj4 (wr (p1 + 1))))))
def F_M_counts_L15 (x1 : Int) : Nat → Int → MH → Option (Int × MH)
  | 0, _, _ => none
  | n + 1, x2, h => if x2 < 0 then (some (x2, h)) else (ob1 (F_M_olds h) (fun (r2 : Int) => jk1 (fun (x3_4 : Int) => gd (0 ≤ wr ((wr (15 * x1)) + x2) ∧ wr ((wr (15 * x1)) + x2) < 225) (F_M_counts_L15 x1 n (wr (x2 + (-1))) (up h 81 (wr ((wr (15 * x1)) + x2)).toNat x3_4))) (fun kj5 => if x1 < r2 then (ob1 (F_M_lines 1 h) (fun (r9 : Int) => if x2 < r9 then (gd (0 ≤ wr ((wr ((wr (15 * x1)) + 15)) + x2) ∧ wr ((wr ((wr (15 * x1)) + 15)) + x2) < 225) (gd (0 ≤ wr ((wr ((wr (15 * x1)) + x2)) + 1) ∧ wr ((wr ((wr (15 * x1)) + x2)) + 1) < 225) (jn1 (if h 81 (wr ((wr ((wr (15 * x1)) + 15)) + x2)).toNat ≤ h 81 (wr ((wr ((wr (15 * x1)) + x2)) + 1)).toNat then ((h 81 (wr ((wr ((wr (15 * x1)) + x2)) + 1)).toNat)) else ((h 81 (wr ((wr ((wr (15 * x1)) + 15)) + x2)).toNat))) (fun (s14 : Int) => ob1 (F_M_old x1 h) (fun (r17 : Int) => ob1 (F_M_lineOf 1 x2 h) (fun (r19 : Int) => jk1 (fun (s23 : Int) => kj5 s23) (fun kj24 => jk1 (fun (u21 : Unit) => kj24 s14) (fun kj22 => if r17 = r19 then (gd (0 ≤ wr ((wr ((wr (15 * x1)) + 16)) + x2) ∧ wr ((wr ((wr (15 * x1)) + 16)) + x2) < 225) (if wr ((h 81 (wr ((wr ((wr (15 * x1)) + 16)) + x2)).toNat) + 1) ≤ s14 then (kj22 ()) else (gd (0 ≤ wr ((wr ((wr (15 * x1)) + 16)) + x2) ∧ wr ((wr ((wr (15 * x1)) + 16)) + x2) < 225) (kj24 (wr ((h 81 (wr ((wr ((wr (15 * x1)) + 16)) + x2)).toNat) + 1)))))) else (kj22 ()))))))))) else (kj5 0))) else (kj5 0))))
def F_M_counts_L5  : Nat → Int → MH → Option (Int × MH)
  | 0, _, _ => none
  | n + 1, x1, h => if x1 < 0 then (some (x1, h)) else (ob1 (F_M_lines 1 h) (fun (r2 : Int) => ob2 (F_M_counts_L15 x1 FUEL r2 h) (fun (x2_4 : Int) (h5 : MH) => F_M_counts_L5  n (wr (x1 + (-1))) h5)))
def F_M_counts (h : MH) : Option (Int × MH) :=
  ob1 (F_M_olds h) (fun (r1 : Int) => ob2 (F_M_counts_L5 FUEL r1 h) (fun (x1_3 : Int) (h4 : MH) => ob1 (F_M_olds h4) (fun (r6 : Int) => ob1 (F_M_lines 1 h4) (fun (r8 : Int) => some (wr ((wr (r6 + r8)) - (wr (2 * (h4 81 0)))), h4)))))
def F_M_shows (p1 : Int) (p2 : Int) (h : MH) : Option MH :=
  gd (0 ≤ h 76 11 ∧ h 76 11 < 28) (gd (0 ≤ (up h 82 (h 76 11).toNat p2) 76 11 ∧ (up h 82 (h 76 11).toNat p2) 76 11 < 28) (some (up (up (up h 82 (h 76 11).toNat p2) 83 ((up h 82 (h 76 11).toNat p2) 76 11).toNat p1) 76 11 (wr (((up (up h 82 (h 76 11).toNat p2) 83 ((up h 82 (h 76 11).toNat p2) 76 11).toNat p1) 76 11) + 1)))))
def F_M_begins (p1 : Int) (h : MH) : Option Int :=
  gd (0 ≤ p1 ∧ p1 < 28) (if h 83 p1.toNat ≤ 0 then (some 0) else (if p1 = 0 then (some 1) else (gd (0 ≤ wr (p1 - 1) ∧ wr (p1 - 1) < 28) (if h 83 (wr (p1 - 1)).toNat = 0 then (some 1) else (some 0)))))
def F_M_hunks_L4 (h : MH) : Nat → Int → Int → Option (Int × Int)
  | 0, _, _ => none
  | n + 1, x1, x2 => if x2 < h 76 11 then (ob1 (F_M_begins x2 h) (fun (r2 : Int) => jn1 (if r2 = 0 then (0) else (1)) (fun (s4 : Int) => F_M_hunks_L4 h n (wr (x1 + s4)) (wr (x2 + 1))))) else (some (x1, x2))
def F_M_hunks (h : MH) : Option Int :=
  ob2 (F_M_hunks_L4 h FUEL 0 0) (fun (x1_1 : Int) (x2_2 : Int) => some x1_1)
def F_M_start_L4 (h : MH) : Nat → Int → Int → Option (Sum (Int) (Int × Int))
  | 0, _, _ => none
  | n + 1, x2, x3 => if x3 < h 76 11 then (ob1 (F_M_begins x3 h) (fun (r2 : Int) => jk1 (fun (x2_4 : Int) => F_M_start_L4 h n x2_4 (wr (x3 + 1))) (fun kj5 => if r2 = 0 then (kj5 x2) else (if x2 = 0 then (some (Sum.inl x3)) else (kj5 (wr (x2 + (-1)))))))) else (some (Sum.inr (x2, x3)))
def F_M_start (p1 : Int) (h : MH) : Option Int :=
  os (F_M_start_L4 h FUEL p1 0) (fun (a : Int) => some a) (fun (q4 : Int × Int) => some (-4))
def F_M_size_L2 (x1 : Int) (h : MH) : Nat → Int → Option (Int)
  | 0, _ => none
  | n + 1, x2 => if wr (x1 + x2) < h 76 11 then (gd (0 ≤ wr (x1 + x2) ∧ wr (x1 + x2) < 28) (if h 83 (wr (x1 + x2)).toNat ≤ 0 then (some x2) else (F_M_size_L2 x1 h n (wr (x2 + 1))))) else (some x2)
def F_M_size (p1 : Int) (h : MH) : Option Int :=
  ob1 (F_M_size_L2 p1 h FUEL 0) (fun (x2_1 : Int) => some x2_1)
def F_M_marked_L5 (x1 : Int) (x2 : Int) (h : MH) : Nat → Int → Int → Option (Int × Int)
  | 0, _, _ => none
  | n + 1, x3, x4 => ob1 (F_M_size x1 h) (fun (r1 : Int) => if x4 < r1 then (gd (0 ≤ wr (x1 + x4) ∧ wr (x1 + x4) < 28) (jn1 (if h 83 (wr (x1 + x4)).toNat = x2 then (1) else (0)) (fun (s5 : Int) => F_M_marked_L5 x1 x2 h n (wr (x3 + s5)) (wr (x4 + 1))))) else (some (x3, x4)))
def F_M_marked (p1 : Int) (p2 : Int) (h : MH) : Option Int :=
  ob2 (F_M_marked_L5 p1 p2 h FUEL 0 0) (fun (x3_1 : Int) (x4_2 : Int) => some x3_1)
def F_M_isPlain (p1 : Int) (h : MH) : Option Int :=
  ob1 (F_M_marked p1 1 h) (fun (r1 : Int) => if r1 = 0 then (some 1) else (ob1 (F_M_marked p1 2 h) (fun (r4 : Int) => if r4 = 0 then (some 1) else (some 0))))
def F_M_whyNotFrom (p1 : Int) (p2 : Int) (p3 : Int) (h : MH) : Option Int :=
  jn1 (if p3 = 0 then ((wr (p1 - 1))) else ((wr (p1 + p2)))) (fun (s1 : Int) => jn1 (if p3 = 0 then ((wr ((wr (p1 + p2)) - 1))) else (p1)) (fun (s4 : Int) => jn1 (if p3 = 0 then ((wr (s1 - 1))) else ((wr (s1 + 1)))) (fun (s7 : Int) => if F_M_in s1 0 (wr ((h 76 11) - 1)) = 0 then (some 2) else (gd (0 ≤ s1 ∧ s1 < 28) (gd (0 ≤ s4 ∧ s4 < 28) (if h 82 s1.toNat = h 82 s4.toNat then (if F_M_in s7 0 (wr ((h 76 11) - 1)) = 0 then (some 0) else (gd (0 ≤ s7 ∧ s7 < 28) (if h 83 s7.toNat ≤ 0 then (some 0) else (some 4)))) else (some 3)))))))
def F_M_slides_L13 (x1 : Int) (x2 : Int) (x4 : Int) (h : MH) : Nat → Int → Option (Int)
  | 0, _ => none
  | n + 1, x3 => ob1 (F_M_isPlain x1 h) (fun (r1 : Int) => if r1 = 0 then (some x3) else (ob1 (F_M_size x1 h) (fun (r4 : Int) => ob1 (F_M_whyNotFrom (wr (x1 + (wr (x3 * x4)))) r4 x2 h) (fun (r6 : Int) => if r6 = 0 then (F_M_slides_L13 x1 x2 x4 h n (wr (x3 + 1))) else (some x3)))))
def F_M_slides (p1 : Int) (p2 : Int) (h : MH) : Option Int :=
  jn1 (if p2 = 0 then ((-1)) else (1)) (fun (s1 : Int) => ob1 (F_M_slides_L13 p1 p2 s1 h FUEL 0) (fun (x3_4 : Int) => some x3_4))
def F_M_worth (p1 : Int) (p2 : Int) (h : MH) : Option Int :=
  gd (0 ≤ wr ((wr (p1 + p2)) - 1) ∧ wr ((wr (p1 + p2)) - 1) < 28) (jk1 (fun (s4 : Int) => jn1 (if s4 = 0 then (0) else (4)) (fun (s6 : Int) => jn1 (if h 82 (wr ((wr (p1 + p2)) - 1)).toNat = 6 then (2) else (0)) (fun (s9 : Int) => gd (0 ≤ p1 ∧ p1 < 28) (jn1 (if h 82 p1.toNat = 7 then (1) else (0)) (fun (s13 : Int) => if h 82 (wr ((wr (p1 + p2)) - 1)).toNat = 8 then (some (wr ((wr ((wr (s6 + s9)) + s13)) + 3))) else (some (wr ((wr ((wr (s6 + s9)) + s13)) + 0)))))))) (fun kj5 => jk1 (fun (u2 : Unit) => kj5 1) (fun kj3 => if p1 = 0 then (kj3 ()) else (gd (0 ≤ wr (p1 - 1) ∧ wr (p1 - 1) < 28) (if h 82 (wr (p1 - 1)).toNat = 6 then (kj3 ()) else (kj5 0))))))
def F_M_bestPlace_L27 (x1 : Int) (x4 : Int) (h : MH) : Nat → Int → Int → Int → Option (Int × Int × Int)
  | 0, _, _, _ => none
  | n + 1, x2, x5, x6 => if x6 ≤ x4 then (ob1 (F_M_size x1 h) (fun (r2 : Int) => ob1 (F_M_worth x6 r2 h) (fun (r4 : Int) => jn1 (if r4 < x5 then (x2) else (x6)) (fun (s6 : Int) => jn1 (if r4 < x5 then (x5) else (r4)) (fun (s9 : Int) => F_M_bestPlace_L27 x1 x4 h n s6 s9 (wr (x6 + 1))))))) else (some (x2, x5, x6))
def F_M_bestPlace (p1 : Int) (h : MH) : Option Int :=
  ob1 (F_M_slides p1 0 h) (fun (r1 : Int) => ob1 (F_M_slides p1 1 h) (fun (r3 : Int) => ob3 (F_M_bestPlace_L27 p1 (wr (p1 + r3)) h FUEL p1 (-1) (wr (p1 - r1))) (fun (x2_5 : Int) (x5_6 : Int) (x6_7 : Int) => some x2_5)))
def F_M_settles_L39 (x2 : Int) (x3 : Int) (x4 : Int) (x5 : Int) : Nat → Int → MH → Option (Int × MH)
  | 0, _, _ => none
  | n + 1, x6, h => if x6 < x3 then (gd (0 ≤ wr (x2 + x6) ∧ wr (x2 + x6) < 28) (F_M_settles_L39 x2 x3 x4 x5 n (wr (x6 + 1)) (up h 83 (wr (x2 + x6)).toNat 0))) else (some (x6, h))
def F_M_settles_L64 (x3 : Int) (x4 : Int) (x5 : Int) : Nat → Int → MH → Option (Int × MH)
  | 0, _, _ => none
  | n + 1, x6, h => if x6 < x3 then (gd (0 ≤ wr (x5 + x6) ∧ wr (x5 + x6) < 28) (F_M_settles_L64 x3 x4 x5 n (wr (x6 + 1)) (up h 83 (wr (x5 + x6)).toNat x4))) else (some (x6, h))
def F_M_settles (p1 : Int) (h : MH) : Option MH :=
  ob1 (F_M_start p1 h) (fun (r1 : Int) => ob1 (F_M_isPlain r1 h) (fun (r3 : Int) => if r3 = 0 then (some h) else (ob1 (F_M_size r1 h) (fun (r6 : Int) => gd (0 ≤ r1 ∧ r1 < 28) (ob1 (F_M_bestPlace r1 h) (fun (r9 : Int) => ob2 (F_M_settles_L39 r1 r6 (h 83 r1.toNat) r9 FUEL 0 h) (fun (x6_11 : Int) (h12 : MH) => ob2 (F_M_settles_L64 r6 (h 83 r1.toNat) r9 FUEL 0 h12) (fun (x6_14 : Int) (h15 : MH) => some h15))))))))
def F_M_views_L14  : Nat → Int → Int → MH → Option (Int × Int × MH)
  | 0, _, _, _ => none
  | n + 1, x2, x3, h => ob1 (F_M_lines 0 h) (fun (r1 : Int) => jk1 (fun (u3 : Unit) => ob1 (F_M_lines 0 h) (fun (r5 : Int) => jn1 (if x2 < r5 then (1) else (0)) (fun (s7 : Int) => ob1 (F_M_lines 1 h) (fun (r10 : Int) => jn1 (if x3 < r10 then (1) else (0)) (fun (s12 : Int) => jk3 (fun (x2_17 : Int) (x3_18 : Int) (h19 : MH) => F_M_views_L14  n x2_17 x3_18 h19) (fun kj20 => jk1 (fun (u15 : Unit) => jk1 (fun (u22 : Unit) => ob1 (F_M_lineOf 1 x3 h) (fun (r24 : Int) => ob1 (F_M_shows 2 r24 h) (fun (h26 : MH) => kj20 x2 (wr (x3 + 1)) h26))) (fun kj23 => if s7 = 0 then (kj23 ()) else (jk1 (fun (u30 : Unit) => ob1 (F_M_old x2 h) (fun (r32 : Int) => ob1 (F_M_shows 1 r32 h) (fun (h34 : MH) => kj20 (wr (x2 + 1)) x3 h34))) (fun kj31 => if s12 = 0 then (kj31 ()) else (gd (0 ≤ wr ((wr ((wr (15 * x2)) + 15)) + x3) ∧ wr ((wr ((wr (15 * x2)) + 15)) + x3) < 225) (gd (0 ≤ wr ((wr ((wr (15 * x2)) + x3)) + 1) ∧ wr ((wr ((wr (15 * x2)) + x3)) + 1) < 225) (if h 81 (wr ((wr ((wr (15 * x2)) + 15)) + x3)).toNat < h 81 (wr ((wr ((wr (15 * x2)) + x3)) + 1)).toNat then (kj23 ()) else (kj31 ())))))))) (fun kj16 => if s7 = 0 then (kj16 ()) else (if s12 = 0 then (kj16 ()) else (ob1 (F_M_old x2 h) (fun (r44 : Int) => ob1 (F_M_lineOf 1 x3 h) (fun (r46 : Int) => if r44 = r46 then (ob1 (F_M_old x2 h) (fun (r49 : Int) => ob1 (F_M_shows 0 r49 h) (fun (h51 : MH) => kj20 (wr (x2 + 1)) (wr (x3 + 1)) h51))) else (kj16 ())))))))))))) (fun kj4 => if x2 < r1 then (kj4 ()) else (ob1 (F_M_lines 1 h) (fun (r57 : Int) => if x3 < r57 then (kj4 ()) else (some (x2, x3, h))))))
def F_M_views_L183  : Nat → Int → MH → Option (Int × MH)
  | 0, _, _ => none
  | n + 1, x4, h => ob1 (F_M_hunks h) (fun (r1 : Int) => if x4 < r1 then (if h 77 46 = 1 then (ob1 (F_M_settles x4 h) (fun (h5 : MH) => F_M_views_L183  n (wr (x4 + 1)) h5)) else (some (x4, h))) else (some (x4, h)))
def F_M_views (h : MH) : Option MH :=
  ob2 (F_M_counts h) (fun (r1 : Int) (h2 : MH) => ob3 (F_M_views_L14 FUEL 0 0 (up h2 76 11 0)) (fun (x2_4 : Int) (x3_5 : Int) (h6 : MH) => ob2 (F_M_views_L183 FUEL 0 h6) (fun (x4_8 : Int) (h9 : MH) => some h9)))
def F_M_around_L33 (x3 : Int) (x4 : Int) (x5 : Int) (h : MH) : Nat → Int → Option (Int)
  | 0, _ => none
  | n + 1, x6 => if x6 < x3 then (if F_M_in (wr (x5 + (wr (x6 * x4)))) 0 (wr ((h 76 11) - 1)) = 0 then (some x6) else (gd (0 ≤ wr (x5 + (wr (x6 * x4))) ∧ wr (x5 + (wr (x6 * x4))) < 28) (if h 83 (wr (x5 + (wr (x6 * x4)))).toNat = 0 then (F_M_around_L33 x3 x4 x5 h n (wr (x6 + 1))) else (some x6)))) else (some x6)
def F_M_around (p1 : Int) (p2 : Int) (p3 : Int) (h : MH) : Option Int :=
  jn1 (if p2 = 0 then ((-1)) else (1)) (fun (s1 : Int) => jk1 (fun (s4 : Int) => ob1 (F_M_around_L33 p3 s1 s4 h FUEL 0) (fun (x6_6 : Int) => some x6_6)) (fun kj5 => if p2 = 0 then (kj5 (wr (p1 - 1))) else (ob1 (F_M_size p1 h) (fun (r10 : Int) => kj5 (wr (p1 + r10))))))
def F_M_linesBut_L6 (x2 : Int) (x3 : Int) (h : MH) : Nat → Int → Int → Option (Int × Int)
  | 0, _, _ => none
  | n + 1, x4, x5 => if x5 < x2 then (gd (0 ≤ x5 ∧ x5 < 28) (jn1 (if h 83 x5.toNat = x3 then (0) else (1)) (fun (s3 : Int) => F_M_linesBut_L6 x2 x3 h n (wr (x4 + s3)) (wr (x5 + 1))))) else (some (x4, x5))
def F_M_linesBut (p1 : Int) (p2 : Int) (p3 : Int) (h : MH) : Option Int :=
  ob2 (F_M_linesBut_L6 p2 p3 h FUEL 0 p1) (fun (x4_1 : Int) (x5_2 : Int) => some x4_1)
def F_M_fits_L9 (x3 : Int) (x4 : Int) (h : MH) : Nat → Int → Int → Int → Option (Int × Int × Int)
  | 0, _, _, _ => none
  | n + 1, x5, x6, x7 => if x7 < x3 then (jk1 (fun (s4 : Int) => gd (0 ≤ x7 ∧ x7 < 28) (jn1 (if h 83 x7.toNat = x4 then (0) else (1)) (fun (s7 : Int) => F_M_fits_L9 x3 x4 h n (wr (x5 + s7)) s4 (wr (x7 + 1))))) (fun kj5 => jk1 (fun (u2 : Unit) => kj5 0) (fun kj3 => if x6 = 0 then (kj3 ()) else (gd (0 ≤ x7 ∧ x7 < 28) (jk1 (fun (u15 : Unit) => kj5 1) (fun kj16 => if h 83 x7.toNat = x4 then (kj16 ()) else (gd (0 ≤ x5 ∧ x5 < 60) (gd (0 ≤ x7 ∧ x7 < 28) (if h 84 x5.toNat = h 82 x7.toNat then (kj16 ()) else (kj3 ())))))))))) else (some (x5, x6, x7))
def F_M_fits (p1 : Int) (p2 : Int) (p3 : Int) (p4 : Int) (h : MH) : Option Int :=
  ob3 (F_M_fits_L9 p3 p4 h FUEL p1 1 p2) (fun (x5_1 : Int) (x6_2 : Int) (x7_3 : Int) => gd (x6_2 = 0 ∨ x6_2 = 1) (some x6_2))
def F_M_looks_L19 (x1 : Int) (x2 : Int) (x3 : Int) (x4 : Int) (x5 : Int) (x6 : Int) (h : MH) : Nat → Int → Option (Sum (Int) (Int))
  | 0, _ => none
  | n + 1, x7 => if x7 < 200 then (jk1 (fun (u2 : Unit) => jk1 (fun (u4 : Unit) => F_M_looks_L19 x1 x2 x3 x4 x5 x6 h n (wr (x7 + 1))) (fun kj5 => if F_M_in (wr (x1 + x7)) x2 x6 = 0 then (kj5 ()) else (ob1 (F_M_fits (wr (x1 + x7)) x3 x4 x5 h) (fun (r8 : Int) => if r8 = 0 then (kj5 ()) else (some (Sum.inl (wr (x1 + x7)))))))) (fun kj3 => if F_M_in (wr (x1 - x7)) x2 x6 = 0 then (kj3 ()) else (ob1 (F_M_fits (wr (x1 - x7)) x3 x4 x5 h) (fun (r13 : Int) => if r13 = 0 then (kj3 ()) else (some (Sum.inl (wr (x1 - x7)))))))) else (some (Sum.inr x7))
def F_M_looks (p1 : Int) (p2 : Int) (p3 : Int) (p4 : Int) (p5 : Int) (h : MH) : Option Int :=
  ob1 (F_M_linesBut p3 p4 p5 h) (fun (r1 : Int) => os (F_M_looks_L19 p1 p2 p3 p4 p5 (wr ((h 76 13) - r1)) h FUEL 0) (fun (a : Int) => some a) (fun (q5 : Int) => some (-4)))
def F_M_replaces_L118 (x4 : Int) (x5 : Int) : Nat → Int → Int → MH → Option (Int × Int × MH)
  | 0, _, _, _ => none
  | n + 1, x8, x9, h => if x9 < x4 then (gd (0 ≤ x9 ∧ x9 < 28) (jk2 (fun (x8_3 : Int) (h4 : MH) => F_M_replaces_L118 x4 x5 n x8_3 (wr (x9 + 1)) h4) (fun kj5 => if h 83 x9.toNat = x5 then (kj5 x8 h) else (gd (0 ≤ x9 ∧ x9 < 28) (gd (0 ≤ x8 ∧ x8 < 60) (kj5 (wr (x8 + 1)) (up h 84 x8.toNat (h 82 x9.toNat)))))))) else (some (x8, x9, h))
def F_M_replaces_L69 (x1 : Int) (x3 : Int) (x4 : Int) (x5 : Int) (x7 : Int) : Nat → Int → MH → Option (Int × MH)
  | 0, _, _ => none
  | n + 1, x8, h => if x8 < h 76 13 then (gd (0 ≤ x8 ∧ x8 < 60) (gd (0 ≤ wr (x8 + x7) ∧ wr (x8 + x7) < 60) (F_M_replaces_L69 x1 x3 x4 x5 x7 n (wr (x8 + 1)) (up h 84 (wr (x8 + x7)).toNat (h 84 x8.toNat))))) else (some (x8, h))
def F_M_replaces_L30 (x1 : Int) (x2 : Int) (x3 : Int) (x4 : Int) (x5 : Int) (x7 : Int) : Nat → Int → MH → Option (Int × MH)
  | 0, _, _ => none
  | n + 1, x8, h => if x8 < wr (x1 + x2) then (some (x8, h)) else (gd (0 ≤ x8 ∧ x8 < 60) (gd (0 ≤ wr (x8 + x7) ∧ wr (x8 + x7) < 60) (F_M_replaces_L30 x1 x2 x3 x4 x5 x7 n (wr (x8 + (-1))) (up h 84 (wr (x8 + x7)).toNat (h 84 x8.toNat)))))
def F_M_replaces (p1 : Int) (p2 : Int) (p3 : Int) (p4 : Int) (p5 : Int) (h : MH) : Option MH :=
  ob1 (F_M_linesBut p3 p4 p5 h) (fun (r1 : Int) => jk1 (fun (h3 : MH) => ob3 (F_M_replaces_L118 p4 p5 FUEL p1 p3 (up h3 76 13 (wr ((h3 76 13) + (wr (r1 - p2)))))) (fun (x8_5 : Int) (x9_6 : Int) (h7 : MH) => some h7)) (fun kj4 => if wr (r1 - p2) ≤ 0 then (ob2 (F_M_replaces_L69 p1 p3 p4 p5 (wr (r1 - p2)) FUEL (wr (p1 + p2)) h) (fun (x8_11 : Int) (h12 : MH) => kj4 h12)) else (ob2 (F_M_replaces_L30 p1 p2 p3 p4 p5 (wr (r1 - p2)) FUEL (wr ((h 76 13) - 1)) h) (fun (x8_14 : Int) (h15 : MH) => kj4 h15))))
def F_M_lays_L33 (x2 : Int) (x3 : Int) (x4 : Int) : Nat → Int → MH → Option (Int × MH)
  | 0, _, _ => none
  | n + 1, x5, h => if x5 < h 76 13 then (ob1 (F_M_lineOf 2 x5 h) (fun (r2 : Int) => gd (0 ≤ x5 ∧ x5 < 60) (F_M_lays_L33 x2 x3 x4 n (wr (x5 + 1)) (up h 84 x5.toNat r2)))) else (some (x5, h))
def F_M_lays_L79 (x2 : Int) (x3 : Int) (x4 : Int) : Nat → Int → Int → Int → Int → MH → Option (Int × Int × Int × Int × MH)
  | 0, _, _, _, _, _ => none
  | n + 1, x5, x6, x7, x8, h => ob1 (F_M_hunks h) (fun (r1 : Int) => if x8 < r1 then (ob1 (F_M_start x8 h) (fun (r4 : Int) => ob1 (F_M_around r4 1 x2 h) (fun (r6 : Int) => ob1 (F_M_around r4 0 x2 h) (fun (r8 : Int) => ob1 (F_M_size r4 h) (fun (r10 : Int) => ob1 (F_M_linesBut 0 (wr (r4 - r8)) x3 h) (fun (r12 : Int) => ob1 (F_M_lines 2 h) (fun (r14 : Int) => ob1 (F_M_looks (wr ((wr ((wr (r12 + (h 76 13))) - r14)) + x6)) x7 (wr (r4 - r8)) (wr ((wr (r4 + r10)) + r6)) x3 h) (fun (r16 : Int) => gd (0 ≤ x8 ∧ x8 < 28) (gd (0 ≤ x8 ∧ x8 < 28) (gd (0 ≤ x8 ∧ x8 < 28) (gd (0 ≤ x8 ∧ x8 < 28) (jk4 (fun (x5_22 : Int) (x6_23 : Int) (x7_24 : Int) (h25 : MH) => F_M_lays_L79 x2 x3 x4 n x5_22 x6_23 x7_24 (wr (x8 + 1)) h25) (fun kj26 => if (up (up h 85 x8.toNat r16) 86 x8.toNat (wr (((up h 85 x8.toNat r16) 85 x8.toNat) - (wr ((wr ((wr (r12 + (h 76 13))) - r14)) + x6))))) 85 x8.toNat = (-4) then (kj26 x5 x6 x7 (up (up h 85 x8.toNat r16) 86 x8.toNat (wr (((up h 85 x8.toNat r16) 85 x8.toNat) - (wr ((wr ((wr (r12 + (h 76 13))) - r14)) + x6)))))) else (gd (0 ≤ x8 ∧ x8 < 28) (ob1 (F_M_linesBut (wr (r4 - r8)) (wr ((wr (r4 + r10)) + r6)) x3 (up (up h 85 x8.toNat r16) 86 x8.toNat (wr (((up h 85 x8.toNat r16) 85 x8.toNat) - (wr ((wr ((wr (r12 + (h 76 13))) - r14)) + x6)))))) (fun (r30 : Int) => ob1 (F_M_replaces ((up (up h 85 x8.toNat r16) 86 x8.toNat (wr (((up h 85 x8.toNat r16) 85 x8.toNat) - (wr ((wr ((wr (r12 + (h 76 13))) - r14)) + x6))))) 85 x8.toNat) r30 (wr (r4 - r8)) (wr ((wr (r4 + r10)) + r6)) x4 (up (up h 85 x8.toNat r16) 86 x8.toNat (wr (((up h 85 x8.toNat r16) 85 x8.toNat) - (wr ((wr ((wr (r12 + (h 76 13))) - r14)) + x6)))))) (fun (h32 : MH) => gd (0 ≤ x8 ∧ x8 < 28) (gd (0 ≤ x8 ∧ x8 < 28) (ob1 (F_M_linesBut (wr (r4 - r8)) (wr ((wr (r4 + r10)) + r6)) x4 h32) (fun (r36 : Int) => jk1 (fun (s40 : Int) => gd (s40 = 0 ∨ s40 = 1) (kj26 (wr (x5 + 1)) (wr (x6 + (h32 86 x8.toNat))) (wr ((wr ((h32 85 x8.toNat) + r36)) - r6)) (up h32 76 16 s40))) (fun kj41 => jk1 (fun (u38 : Unit) => kj41 1) (fun kj39 => if h32 76 16 = 0 then (if h32 76 13 ≤ 14 then (kj41 0) else (kj39 ())) else (kj39 ()))))))))))))))))))))))) else (some (x5, x6, x7, x8, h)))
def F_M_lays (p1 : Int) (p2 : Int) (h : MH) : Option (Int × MH) :=
  jn1 (if p1 = 0 then (2) else (1)) (fun (s1 : Int) => jn1 (if p1 = 0 then (1) else (2)) (fun (s4 : Int) => ob1 (F_M_lines 2 h) (fun (r7 : Int) => ob2 (F_M_lays_L33 p2 s1 s4 FUEL 0 (up h 76 13 r7)) (fun (x5_9 : Int) (h10 : MH) => ob5 (F_M_lays_L79 p2 s1 s4 FUEL 0 0 0 0 (up h10 76 16 0)) (fun (x5_12 : Int) (x6_13 : Int) (x7_14 : Int) (x8_15 : Int) (h16 : MH) => some (x5_12, h16))))))
def F_M_append (p1 : Int) (h : MH) : Option (Int × MH) :=
  if F_M_in p1 33 126 = 0 then (some ((-1), h)) else (if h 76 6 = 40 then (some ((-3), h)) else (gd (0 ≤ h 76 6 ∧ h 76 6 < 40) (some ((up (up h 80 (h 76 6).toNat p1) 76 6 (wr (((up h 80 (h 76 6).toNat p1) 76 6) + 1))) 76 6, (up (up h 80 (h 76 6).toNat p1) 76 6 (wr (((up h 80 (h 76 6).toNat p1) 76 6) + 1)))))))
def F_M_clear (h : MH) : Int × MH :=
  (h 76 6, (up h 76 6 0))
def F_M_signOf (p1 : Int) : Int :=
  if F_M_in p1 97 102 = 0 then (if p1 = 46 then (6) else (if p1 = 123 then (7) else (if p1 = 125 then (8) else ((-4))))) else (wr (p1 - 97))
def F_M_fault_L2 (h : MH) : Nat → Int → Option (Sum (Int) (Int))
  | 0, _ => none
  | n + 1, x1 => if x1 < h 76 6 then (if x1 = 14 then (some (Sum.inl x1)) else (gd (0 ≤ x1 ∧ x1 < 40) (if F_M_signOf (h 80 x1.toNat) = (-4) then (some (Sum.inl x1)) else (F_M_fault_L2 h n (wr (x1 + 1)))))) else (some (Sum.inr x1))
def F_M_fault (h : MH) : Option Int :=
  os (F_M_fault_L2 h FUEL 0) (fun (a : Int) => some a) (fun (q3 : Int) => some (-4))
def F_M_load_L42 (x1 : Int) : Nat → Int → MH → Option (Int × MH)
  | 0, _, _ => none
  | n + 1, x2, h => if x2 < h 76 6 then (gd (0 ≤ x2 ∧ x2 < 40) (gd (0 ≤ wr ((wr ((wr (15 * x1)) + 1)) + x2) ∧ wr ((wr ((wr (15 * x1)) + 1)) + x2) < 49) (F_M_load_L42 x1 n (wr (x2 + 1)) (up h 77 (wr ((wr ((wr (15 * x1)) + 1)) + x2)).toNat (F_M_signOf (h 80 x2.toNat)))))) else (some (x2, h))
def F_M_load (p1 : Int) (h : MH) : Option (Int × MH) :=
  if F_M_in p1 0 2 = 0 then (some ((-1), h)) else (ob1 (F_M_fault h) (fun (r2 : Int) => if r2 = (-4) then (ob1 (F_M_remembers h) (fun (h5 : MH) => gd (0 ≤ wr (15 * p1) ∧ wr (15 * p1) < 49) (ob2 (F_M_load_L42 p1 FUEL 0 (up h5 77 (wr (15 * p1)).toNat (h5 76 6))) (fun (x2_8 : Int) (h9 : MH) => ob1 (F_M_lines p1 (up h9 76 6 0)) (fun (r11 : Int) => some (r11, (up h9 76 6 0))))))) else (some ((-2), h))))
def F_M_edit_L202 (x1 : Int) (x6 : Int) : Nat → Int → MH → Option (Int × MH)
  | 0, _, _ => none
  | n + 1, x7, h => ob1 (F_M_lines x1 h) (fun (r1 : Int) => if x7 < r1 then (gd (0 ≤ wr ((wr (x6 + x7)) + 1) ∧ wr ((wr (x6 + x7)) + 1) < 49) (gd (0 ≤ wr (x6 + x7) ∧ wr (x6 + x7) < 49) (F_M_edit_L202 x1 x6 n (wr (x7 + 1)) (up h 77 (wr (x6 + x7)).toNat (h 77 (wr ((wr (x6 + x7)) + 1)).toNat))))) else (some (x7, h)))
def F_M_edit_L120 (x1 : Int) (x2 : Int) (x3 : Int) (x6 : Int) : Nat → Int → MH → Option (Int × MH)
  | 0, _, _ => none
  | n + 1, x7, h => if x7 ≤ x2 then (some (x7, h)) else (gd (0 ≤ wr ((wr (x6 + x7)) - 1) ∧ wr ((wr (x6 + x7)) - 1) < 49) (gd (0 ≤ wr (x6 + x7) ∧ wr (x6 + x7) < 49) (F_M_edit_L120 x1 x2 x3 x6 n (wr (x7 + (-1))) (up h 77 (wr (x6 + x7)).toNat (h 77 (wr ((wr (x6 + x7)) - 1)).toNat)))))
def F_M_edit (p1 : Int) (p2 : Int) (p3 : Int) (h : MH) : Option (Int × MH) :=
  jk1 (fun (s3 : Int) => if F_M_in p1 0 2 = 0 then (some ((-1), h)) else (if s3 = 0 then (some ((-1), h)) else (ob1 (F_M_lines p1 h) (fun (r7 : Int) => jn1 (if F_M_in p3 0 8 = 0 then (1) else (0)) (fun (s9 : Int) => if F_M_in p2 0 (wr (r7 - s9)) = 0 then (some ((-1), h)) else (jk1 (fun (u13 : Unit) => ob1 (F_M_remembers h) (fun (h15 : MH) => jk1 (fun (h17 : MH) => ob1 (F_M_lines p1 h17) (fun (r19 : Int) => some (r19, h17))) (fun kj18 => if F_M_in p3 0 8 = 0 then (if p3 = 20 then (gd (0 ≤ wr (15 * p1) ∧ wr (15 * p1) < 49) (gd (0 ≤ wr (15 * p1) ∧ wr (15 * p1) < 49) (ob2 (F_M_edit_L202 p1 (wr ((wr (15 * p1)) + 1)) FUEL p2 (up h15 77 (wr (15 * p1)).toNat (wr ((h15 77 (wr (15 * p1)).toNat) - 1)))) (fun (x7_26 : Int) (h27 : MH) => kj18 h27)))) else (gd (0 ≤ wr ((wr ((wr (15 * p1)) + 1)) + p2) ∧ wr ((wr ((wr (15 * p1)) + 1)) + p2) < 49) (kj18 (up h15 77 (wr ((wr ((wr (15 * p1)) + 1)) + p2)).toNat (wr (p3 - 10)))))) else (ob1 (F_M_lines p1 h15) (fun (r30 : Int) => ob2 (F_M_edit_L120 p1 p2 p3 (wr ((wr (15 * p1)) + 1)) FUEL r30 h15) (fun (x7_32 : Int) (h33 : MH) => gd (0 ≤ wr (15 * p1) ∧ wr (15 * p1) < 49) (gd (0 ≤ wr (15 * p1) ∧ wr (15 * p1) < 49) (gd (0 ≤ wr ((wr ((wr (15 * p1)) + 1)) + p2) ∧ wr ((wr ((wr (15 * p1)) + 1)) + p2) < 49) (kj18 (up (up h33 77 (wr (15 * p1)).toNat (wr ((h33 77 (wr (15 * p1)).toNat) + 1))) 77 (wr ((wr ((wr (15 * p1)) + 1)) + p2)).toNat p3)))))))))) (fun kj14 => if F_M_in p3 0 8 = 0 then (kj14 ()) else (ob1 (F_M_lines p1 h) (fun (r40 : Int) => if r40 = 14 then (some ((-3), h)) else (kj14 ())))))))))) (fun kj4 => jk1 (fun (u1 : Unit) => kj4 1) (fun kj2 => if F_M_in p3 0 8 = 0 then (if F_M_in p3 10 18 = 0 then (if p3 = 20 then (kj2 ()) else (kj4 0)) else (kj2 ())) else (kj2 ())))
def F_M_swap_L31 (x1 : Int) (x2 : Int) : Nat → Int → MH → Option (Int × MH)
  | 0, _, _ => none
  | n + 1, x3, h => if x3 < 15 then (gd (0 ≤ wr ((wr (15 * x1)) + x3) ∧ wr ((wr (15 * x1)) + x3) < 49) (gd (0 ≤ wr ((wr (15 * x2)) + x3) ∧ wr ((wr (15 * x2)) + x3) < 49) (gd (0 ≤ wr ((wr (15 * x1)) + x3) ∧ wr ((wr (15 * x1)) + x3) < 49) (gd (0 ≤ wr ((wr (15 * x2)) + x3) ∧ wr ((wr (15 * x2)) + x3) < 49) (F_M_swap_L31 x1 x2 n (wr (x3 + 1)) (up (up h 77 (wr ((wr (15 * x1)) + x3)).toNat (h 77 (wr ((wr (15 * x2)) + x3)).toNat)) 77 (wr ((wr (15 * x2)) + x3)).toNat (h 77 (wr ((wr (15 * x1)) + x3)).toNat))))))) else (some (x3, h))
def F_M_swap (p1 : Int) (p2 : Int) (h : MH) : Option (Int × MH) :=
  if F_M_in p1 0 2 = 0 then (some ((-1), h)) else (if F_M_in p2 0 2 = 0 then (some ((-1), h)) else (if p1 = p2 then (some ((-1), h)) else (ob1 (F_M_remembers h) (fun (h4 : MH) => ob2 (F_M_swap_L31 p1 p2 FUEL 0 h4) (fun (x3_6 : Int) (h7 : MH) => ob2 (F_M_counts h7) (fun (r9 : Int) (h10 : MH) => some (r9, h10)))))))
def F_M_set (p1 : Int) (p2 : Int) (h : MH) : Option (Int × MH) :=
  if F_M_in p1 0 1 = 0 then (some ((-1), h)) else (jn1 (if p1 = 0 then (3) else (1)) (fun (s2 : Int) => if F_M_in p2 0 s2 = 0 then (some ((-1), h)) else (ob1 (F_M_remembers h) (fun (h6 : MH) => gd (0 ≤ wr (45 + p1) ∧ wr (45 + p1) < 49) (gd (0 ≤ wr (45 + p1) ∧ wr (45 + p1) < 49) (some (h6 77 (wr (45 + p1)).toNat, (up h6 77 (wr (45 + p1)).toNat p2))))))))
def F_M_lay_L44 (x2 : Int) : Nat → Int → MH → Option (Int × MH)
  | 0, _, _ => none
  | n + 1, x3, h => if x3 < h 76 13 then (gd (0 ≤ x3 ∧ x3 < 60) (gd (0 ≤ wr (31 + x3) ∧ wr (31 + x3) < 49) (F_M_lay_L44 x2 n (wr (x3 + 1)) (up h 77 (wr (31 + x3)).toNat (h 84 x3.toNat))))) else (some (x3, h))
def F_M_lay (p1 : Int) (h : MH) : Option (Int × MH) :=
  ob1 (F_M_views h) (fun (h1 : MH) => ob2 (F_M_lays p1 (h1 77 45) h1) (fun (r3 : Int) (h4 : MH) => if h4 76 16 = 0 then (ob1 (F_M_remembers h4) (fun (h7 : MH) => ob2 (F_M_lay_L44 r3 FUEL 0 (up h7 77 30 (h7 76 13))) (fun (x3_9 : Int) (h10 : MH) => ob1 (F_M_hunks (up h10 77 47 (wr ((h10 77 47) + r3)))) (fun (r12 : Int) => some (r3, (up (up h10 77 47 (wr ((h10 77 47) + r3))) 77 48 (wr (((up h10 77 47 (wr ((h10 77 47) + r3))) 77 48) + (wr (r12 - r3)))))))))) else (some ((-3), h4))))
def F_M_line (p1 : Int) (p2 : Int) (h : MH) : Option Int :=
  if F_M_in p1 0 2 = 0 then (some (-1)) else (if p2 < 0 then (some (-1)) else (ob1 (F_M_lines p1 h) (fun (r3 : Int) => if p2 < r3 then (ob1 (F_M_lineOf p1 p2 h) (fun (r6 : Int) => some r6)) else (some (-4)))))
def F_M_byDiagonals_L21 (x1 : Int) (x2 : Int) : Nat → Int → MH → Option (Int × MH)
  | 0, _, _ => none
  | n + 1, x3, h => ob1 (F_M_lines 1 h) (fun (r1 : Int) => if x3 ≤ r1 then (jk1 (fun (s6 : Int) => jk1 (fun (s10 : Int) => jk1 (fun (s14 : Int) => jk1 (fun (s16 : Int) => jn1 (if s16 ≤ x1 then (s16) else (if s14 = 0 then (99) else (x1))) (fun (s18 : Int) => gd (0 ≤ wr ((wr (15 * x2)) + x3) ∧ wr ((wr (15 * x2)) + x3) < 225) (F_M_byDiagonals_L21 x1 x2 n (wr (x3 + 1)) (up h 81 (wr ((wr (15 * x2)) + x3)).toNat s18)))) (fun kj17 => if x1 = 0 then (kj17 99) else (gd (0 ≤ wr ((wr (15 * x2)) + x3) ∧ wr ((wr (15 * x2)) + x3) < 225) (kj17 (h 81 (wr ((wr (15 * x2)) + x3)).toNat))))) (fun kj15 => jk1 (fun (u12 : Unit) => kj15 1) (fun kj13 => if s10 = 0 then (jk1 (fun (u30 : Unit) => kj15 0) (fun kj31 => if x2 ≤ 0 then (kj31 ()) else (if x3 ≤ 0 then (kj31 ()) else (ob1 (F_M_lineOf 0 (wr (x2 - 1)) h) (fun (r35 : Int) => ob1 (F_M_lineOf 1 (wr (x3 - 1)) h) (fun (r37 : Int) => if r35 = r37 then (gd (0 ≤ wr ((wr ((wr (15 * x2)) - 16)) + x3) ∧ wr ((wr ((wr (15 * x2)) - 16)) + x3) < 225) (if h 81 (wr ((wr ((wr (15 * x2)) - 16)) + x3)).toNat ≤ x1 then (kj13 ()) else (kj31 ()))) else (kj31 ()))))))) else (kj13 ())))) (fun kj11 => jk1 (fun (u8 : Unit) => kj11 1) (fun kj9 => if s6 = 0 then (jk1 (fun (u45 : Unit) => jk1 (fun (u47 : Unit) => kj11 0) (fun kj48 => if x3 ≤ 0 then (kj48 ()) else (gd (0 ≤ wr ((wr ((wr (15 * x2)) + x3)) - 1) ∧ wr ((wr ((wr (15 * x2)) + x3)) - 1) < 225) (if h 81 (wr ((wr ((wr (15 * x2)) + x3)) - 1)).toNat < x1 then (kj9 ()) else (kj48 ()))))) (fun kj46 => if x2 ≤ 0 then (kj46 ()) else (gd (0 ≤ wr ((wr ((wr (15 * x2)) - 15)) + x3) ∧ wr ((wr ((wr (15 * x2)) - 15)) + x3) < 225) (if h 81 (wr ((wr ((wr (15 * x2)) - 15)) + x3)).toNat < x1 then (kj9 ()) else (kj46 ()))))) else (kj9 ())))) (fun kj7 => jk1 (fun (u4 : Unit) => kj7 0) (fun kj5 => if x2 = 0 then (if x3 = 0 then (kj7 1) else (kj5 ())) else (kj5 ())))) else (some (x3, h)))
def F_M_byDiagonals_L10 (x1 : Int) : Nat → Int → MH → Option (Int × MH)
  | 0, _, _ => none
  | n + 1, x2, h => ob1 (F_M_lines 0 h) (fun (r1 : Int) => if x2 ≤ r1 then (ob2 (F_M_byDiagonals_L21 x1 x2 FUEL 0 h) (fun (x3_4 : Int) (h5 : MH) => F_M_byDiagonals_L10 x1 n (wr (x2 + 1)) h5)) else (some (x2, h)))
def F_M_byDiagonals_L2  : Nat → Int → MH → Option (Sum (Int × MH) (Int × MH))
  | 0, _, _ => none
  | n + 1, x1, h => if x1 ≤ 28 then (ob2 (F_M_byDiagonals_L10 x1 FUEL 0 h) (fun (x2_2 : Int) (h3 : MH) => ob1 (F_M_lines 0 h3) (fun (r5 : Int) => ob1 (F_M_lines 1 h3) (fun (r7 : Int) => gd (0 ≤ wr ((wr (15 * r5)) + r7) ∧ wr ((wr (15 * r5)) + r7) < 225) (if h3 81 (wr ((wr (15 * r5)) + r7)).toNat ≤ x1 then (some (Sum.inl (x1, h3))) else (F_M_byDiagonals_L2  n (wr (x1 + 1)) h3)))))) else (some (Sum.inr (x1, h)))
def F_M_byDiagonals (h : MH) : Option (Int × MH) :=
  os (F_M_byDiagonals_L2 FUEL 0 h) (fun (a : Int × MH) => some a) (fun (q4 : Int × MH) => some ((-4), q4.2))
def F_M_distance (p1 : Int) (h : MH) : Option (Int × MH) :=
  if p1 = 0 then (ob2 (F_M_counts h) (fun (r2 : Int) (h3 : MH) => some (r2, h3))) else (if p1 = 1 then (ob2 (F_M_byDiagonals h) (fun (r6 : Int) (h7 : MH) => some (r6, h7))) else (some ((-1), h)))
def F_M_hunkAt_L4 (x1 : Int) (h : MH) : Nat → Int → Int → Option (Int × Int)
  | 0, _, _ => none
  | n + 1, x2, x3 => if x3 ≤ x1 then (ob1 (F_M_begins x3 h) (fun (r2 : Int) => jn1 (if r2 = 0 then (0) else (1)) (fun (s4 : Int) => F_M_hunkAt_L4 x1 h n (wr (x2 + s4)) (wr (x3 + 1))))) else (some (x2, x3))
def F_M_hunkAt (p1 : Int) (h : MH) : Option Int :=
  ob2 (F_M_hunkAt_L4 p1 h FUEL 0 0) (fun (x2_1 : Int) (x3_2 : Int) => gd (0 ≤ p1 ∧ p1 < 28) (if h 83 p1.toNat = 0 then (some (-4)) else (some (wr (x2_1 - 1)))))
def F_M_view (p1 : Int) (p2 : Int) (h : MH) : Option (Int × MH) :=
  if p1 < 0 then (some ((-1), h)) else (if F_M_in p2 0 4 = 0 then (some ((-1), h)) else (ob1 (F_M_views h) (fun (h3 : MH) => if p1 < h3 76 11 then (if p2 = 0 then (gd (0 ≤ p1 ∧ p1 < 28) (some (h3 83 p1.toNat, h3))) else (if p2 = 1 then (gd (0 ≤ p1 ∧ p1 < 28) (some (h3 82 p1.toNat, h3))) else (if p2 = 2 then (gd (0 ≤ p1 ∧ p1 < 28) (if h3 83 p1.toNat = 2 then (some ((-4), h3)) else (ob1 (F_M_linesBut 0 p1 2 h3) (fun (r13 : Int) => some (r13, h3))))) else (if p2 = 3 then (gd (0 ≤ p1 ∧ p1 < 28) (if h3 83 p1.toNat = 1 then (some ((-4), h3)) else (ob1 (F_M_linesBut 0 p1 1 h3) (fun (r18 : Int) => some (r18, h3))))) else (ob1 (F_M_hunkAt p1 h3) (fun (r20 : Int) => some (r20, h3))))))) else (some ((-4), h3)))))
def F_M_hunk (p1 : Int) (p2 : Int) (h : MH) : Option (Int × MH) :=
  ob1 (F_M_views h) (fun (h1 : MH) => ob1 (F_M_hunks h1) (fun (r3 : Int) => if F_M_in p1 0 (wr (r3 - 1)) = 0 then (some ((-1), h1)) else (ob1 (F_M_start p1 h1) (fun (r6 : Int) => if p2 = 0 then (some (r6, h1)) else (if p2 = 1 then (ob1 (F_M_marked r6 p2 h1) (fun (r10 : Int) => some (r10, h1))) else (if p2 = 2 then (ob1 (F_M_marked r6 p2 h1) (fun (r13 : Int) => some (r13, h1))) else (if p2 = 3 then (ob1 (F_M_isPlain r6 h1) (fun (r16 : Int) => if r16 = 0 then (some (0, h1)) else (some (1, h1)))) else (if p2 = 4 then (jn1 (if p2 = 5 then (1) else (0)) (fun (s20 : Int) => ob1 (F_M_slides r6 s20 h1) (fun (r23 : Int) => some (r23, h1)))) else (if p2 = 5 then (jn1 (if p2 = 5 then (1) else (0)) (fun (s27 : Int) => ob1 (F_M_slides r6 s27 h1) (fun (r30 : Int) => some (r30, h1)))) else (if p2 = 6 then (ob1 (F_M_size r6 h1) (fun (r34 : Int) => ob1 (F_M_worth r6 r34 h1) (fun (r36 : Int) => some (r36, h1)))) else (if p2 = 7 then (ob1 (F_M_bestPlace r6 h1) (fun (r39 : Int) => ob1 (F_M_size r6 h1) (fun (r41 : Int) => ob1 (F_M_worth r39 r41 h1) (fun (r43 : Int) => some (r43, h1))))) else (if p2 = 8 then (jn1 (if p2 = 9 then (1) else (0)) (fun (s46 : Int) => ob1 (F_M_around r6 s46 (h1 77 45) h1) (fun (r49 : Int) => some (r49, h1)))) else (if p2 = 9 then (jn1 (if p2 = 9 then (1) else (0)) (fun (s53 : Int) => ob1 (F_M_around r6 s53 (h1 77 45) h1) (fun (r56 : Int) => some (r56, h1)))) else (some ((-1), h1)))))))))))))))
def F_M_whyNot (p1 : Int) (p2 : Int) (h : MH) : Option (Int × MH) :=
  ob1 (F_M_views h) (fun (h1 : MH) => ob1 (F_M_hunks h1) (fun (r3 : Int) => if F_M_in p1 0 (wr (r3 - 1)) = 0 then (some ((-1), h1)) else (ob1 (F_M_start p1 h1) (fun (r6 : Int) => ob1 (F_M_isPlain r6 h1) (fun (r8 : Int) => if r8 = 0 then (some (1, h1)) else (ob1 (F_M_size r6 h1) (fun (r11 : Int) => ob1 (F_M_whyNotFrom r6 r11 p2 h1) (fun (r13 : Int) => some (r13, h1)))))))))
def F_M_linesOf_L4 (x1 : Int) (h : MH) : Nat → Int → Int → Option (Int × Int)
  | 0, _, _ => none
  | n + 1, x2, x3 => if x3 < h 76 11 then (gd (0 ≤ x3 ∧ x3 < 28) (jn1 (if h 83 x3.toNat = x1 then (1) else (0)) (fun (s3 : Int) => F_M_linesOf_L4 x1 h n (wr (x2 + s3)) (wr (x3 + 1))))) else (some (x2, x3))
def F_M_linesOf (p1 : Int) (h : MH) : Option Int :=
  ob2 (F_M_linesOf_L4 p1 h FUEL 0 0) (fun (x2_1 : Int) (x3_2 : Int) => some x2_1)
def F_M_ofHunks_L4 (x1 : Int) (h : MH) : Nat → Int → Int → Option (Int × Int)
  | 0, _, _ => none
  | n + 1, x2, x3 => ob1 (F_M_hunks h) (fun (r1 : Int) => if x3 < r1 then (ob1 (F_M_start x3 h) (fun (r4 : Int) => ob1 (F_M_slides r4 1 h) (fun (r6 : Int) => ob1 (F_M_slides r4 0 h) (fun (r8 : Int) => jn1 (if wr (r6 + r8) ≤ 0 then (0) else (1)) (fun (s10 : Int) => jk1 (fun (s13 : Int) => F_M_ofHunks_L4 x1 h n (wr (x2 + s13)) (wr (x3 + 1))) (fun kj14 => if x1 = 10 then (ob1 (F_M_size r4 h) (fun (r17 : Int) => ob1 (F_M_worth r4 r17 h) (fun (r19 : Int) => kj14 r19))) else (if x1 = 9 then (if s10 = 0 then (kj14 0) else (kj14 1)) else (ob1 (F_M_isPlain r4 h) (fun (r23 : Int) => if r23 = 0 then (kj14 0) else (kj14 1)))))))))) else (some (x2, x3)))
def F_M_ofHunks (p1 : Int) (h : MH) : Option Int :=
  ob2 (F_M_ofHunks_L4 p1 h FUEL 0 0) (fun (x2_1 : Int) (x3_2 : Int) => some x2_1)
def F_M_longestKept_L6 (h : MH) : Nat → Int → Int → Int → Option (Int × Int × Int)
  | 0, _, _, _ => none
  | n + 1, x1, x2, x3 => if x3 < h 76 11 then (gd (0 ≤ x3 ∧ x3 < 28) (jn1 (if h 83 x3.toNat = 0 then ((wr (x2 + 1))) else (0)) (fun (s3 : Int) => jn1 (if s3 ≤ x1 then (x1) else (s3)) (fun (s6 : Int) => F_M_longestKept_L6 h n s6 s3 (wr (x3 + 1)))))) else (some (x1, x2, x3))
def F_M_longestKept (h : MH) : Option Int :=
  ob3 (F_M_longestKept_L6 h FUEL 0 0 0) (fun (x1_1 : Int) (x2_2 : Int) (x3_3 : Int) => some x1_1)
def F_M_count (p1 : Int) (h : MH) : Option (Int × MH) :=
  ob1 (F_M_views h) (fun (h1 : MH) => if p1 = 0 then (ob1 (F_M_lines p1 h1) (fun (r4 : Int) => some (r4, h1))) else (if p1 = 1 then (ob1 (F_M_lines p1 h1) (fun (r7 : Int) => some (r7, h1))) else (if p1 = 2 then (ob1 (F_M_lines p1 h1) (fun (r10 : Int) => some (r10, h1))) else (if p1 = 3 then (some (h1 76 11, h1)) else (if p1 = 4 then (ob1 (F_M_linesOf (wr (p1 - 4)) h1) (fun (r14 : Int) => some (r14, h1))) else (if p1 = 5 then (ob1 (F_M_linesOf (wr (p1 - 4)) h1) (fun (r17 : Int) => some (r17, h1))) else (if p1 = 6 then (ob1 (F_M_linesOf (wr (p1 - 4)) h1) (fun (r20 : Int) => some (r20, h1))) else (if p1 = 7 then (ob1 (F_M_hunks h1) (fun (r23 : Int) => some (r23, h1))) else (if p1 = 8 then (ob1 (F_M_ofHunks p1 h1) (fun (r26 : Int) => some (r26, h1))) else (if p1 = 9 then (ob1 (F_M_ofHunks p1 h1) (fun (r29 : Int) => some (r29, h1))) else (if p1 = 10 then (ob1 (F_M_ofHunks p1 h1) (fun (r32 : Int) => some (r32, h1))) else (if p1 = 11 then (ob1 (F_M_longestKept h1) (fun (r35 : Int) => some (r35, h1))) else (if p1 = 12 then (gd (0 ≤ wr ((wr (47 + p1)) - 12) ∧ wr ((wr (47 + p1)) - 12) < 49) (some (h1 77 (wr ((wr (47 + p1)) - 12)).toNat, h1))) else (if p1 = 13 then (gd (0 ≤ wr ((wr (47 + p1)) - 12) ∧ wr ((wr (47 + p1)) - 12) < 49) (some (h1 77 (wr ((wr (47 + p1)) - 12)).toNat, h1))) else (if p1 = 14 then (gd (0 ≤ wr ((wr (45 + p1)) - 14) ∧ wr ((wr (45 + p1)) - 14) < 49) (some (h1 77 (wr ((wr (45 + p1)) - 14)).toNat, h1))) else (if p1 = 15 then (gd (0 ≤ wr ((wr (45 + p1)) - 14) ∧ wr ((wr (45 + p1)) - 14) < 49) (some (h1 77 (wr ((wr (45 + p1)) - 14)).toNat, h1))) else (if p1 = 16 then (some (h1 76 6, h1)) else (if p1 = 17 then (some (h1 76 2, h1)) else (some ((-1), h1))))))))))))))))))))
def F_M_alike (h : MH) : Option (UInt64 × MH) :=
  ob2 (F_M_counts h) (fun (r1 : Int) (h2 : MH) => ob1 (F_M_lines 0 h2) (fun (r4 : Int) => ob1 (F_M_lines 1 h2) (fun (r6 : Int) => if wr (r4 + r6) = 0 then (some (FP.dconst1, h2)) else (gd (FP.dmul (FP.i2d (Int32.ofInt (wr (2 * (h2 81 0))))) FP.dconst1 &&& 0x7fffffffffffffff ≤ 0x7ff0000000000000) (gd (FP.ddiv (FP.dmul (FP.i2d (Int32.ofInt (wr (2 * (h2 81 0))))) FP.dconst1) (FP.i2d (Int32.ofInt (wr (r4 + r6)))) &&& 0x7fffffffffffffff ≤ 0x7ff0000000000000) (some (FP.ddiv (FP.dmul (FP.i2d (Int32.ofInt (wr (2 * (h2 81 0))))) FP.dconst1) (FP.i2d (Int32.ofInt (wr (r4 + r6)))), h2)))))))
def F_M_ifLaid (p1 : Int) (p2 : Int) (p3 : Int) (h : MH) : Option (Int × MH) :=
  ob1 (F_M_views h) (fun (h1 : MH) => ob1 (F_M_hunks h1) (fun (r3 : Int) => if F_M_in p1 0 (wr (r3 - 1)) = 0 then (some ((-1), h1)) else (if F_M_in p3 0 1 = 0 then (some ((-1), h1)) else (ob2 (F_M_lays p2 (h1 77 45) h1) (fun (r7 : Int) (h8 : MH) => gd (0 ≤ p1 ∧ p1 < 28) (if h8 85 p1.toNat = (-4) then (some ((-4), h8)) else (if p3 = 0 then (gd (0 ≤ p1 ∧ p1 < 28) (some (h8 85 p1.toNat, h8))) else (gd (0 ≤ p1 ∧ p1 < 28) (some (wr ((h8 86 p1.toNat) + 100), h8))))))))))
def F_M_ifAround (p1 : Int) (h : MH) : Option (Int × MH) :=
  if F_M_in p1 0 3 = 0 then (some ((-1), h)) else (ob1 (F_M_views h) (fun (h2 : MH) => ob2 (F_M_lays 0 p1 h2) (fun (r4 : Int) (h5 : MH) => some (r4, h5))))
def F_M_least_L18  : Nat → Int → Int → Int → MH → Option (Int × Int × Int × MH)
  | 0, _, _, _, _ => none
  | n + 1, x1, x2, x3, h => ob1 (F_M_lines 0 h) (fun (r1 : Int) => if x3 < r1 then (ob2 (F_M_counts (up h 76 8 x3)) (fun (r4 : Int) (h5 : MH) => jk1 (fun (s9 : Int) => jn1 (if s9 = 0 then (x1) else (x3)) (fun (s11 : Int) => jn1 (if s9 = 0 then (x2) else (r4)) (fun (s14 : Int) => F_M_least_L18  n s11 s14 (wr (x3 + 1)) h5))) (fun kj10 => jk1 (fun (u7 : Unit) => kj10 1) (fun kj8 => if x1 = (-4) then (kj8 ()) else (if r4 < x2 then (kj8 ()) else (kj10 0)))))) else (some (x1, x2, x3, h)))
def F_M_least (h : MH) : Option (Int × MH) :=
  ob1 (F_M_lines 0 h) (fun (r1 : Int) => if r1 = 0 then (some ((-2), h)) else (ob4 (F_M_least_L18 FUEL (-4) 0 0 h) (fun (x1_4 : Int) (x2_5 : Int) (x3_6 : Int) (h7 : MH) => some (x1_4, (up h7 76 8 (-4))))))
def F_M_undo_L22  : Nat → Int → MH → Option (Int × MH)
  | 0, _, _ => none
  | n + 1, x1, h => if x1 < 49 then (gd (0 ≤ wr ((wr (49 * (h 76 2))) + x1) ∧ wr ((wr (49 * (h 76 2))) + x1) < 196) (gd (0 ≤ x1 ∧ x1 < 49) (F_M_undo_L22  n (wr (x1 + 1)) (up h 77 x1.toNat (h 78 (wr ((wr (49 * (h 76 2))) + x1)).toNat))))) else (some (x1, h))
def F_M_undo (h : MH) : Option (Int × MH) :=
  if h 76 2 = 0 then (some ((-2), h)) else (ob2 (F_M_undo_L22 FUEL 0 (up h 76 2 (wr ((h 76 2) - 1)))) (fun (x1_2 : Int) (h3 : MH) => some (h3 76 2, h3)))
def F_M_save_L2  : Nat → Int → MH → Option (Int × MH)
  | 0, _, _ => none
  | n + 1, x1, h => if x1 < 49 then (gd (0 ≤ x1 ∧ x1 < 49) (gd (0 ≤ x1 ∧ x1 < 49) (F_M_save_L2  n (wr (x1 + 1)) (up h 79 x1.toNat (h 77 x1.toNat))))) else (some (x1, h))
def F_M_save (h : MH) : Option (Int × MH) :=
  ob2 (F_M_save_L2 FUEL 0 h) (fun (x1_1 : Int) (h2 : MH) => ob2 (F_M_counts (up h2 76 4 1)) (fun (r4 : Int) (h5 : MH) => some (r4, h5)))
def F_M_restore_L16  : Nat → Int → MH → Option (Int × MH)
  | 0, _, _ => none
  | n + 1, x1, h => if x1 < 49 then (gd (0 ≤ x1 ∧ x1 < 49) (gd (0 ≤ x1 ∧ x1 < 49) (F_M_restore_L16  n (wr (x1 + 1)) (up h 77 x1.toNat (h 79 x1.toNat))))) else (some (x1, h))
def F_M_restore (h : MH) : Option (Int × MH) :=
  if h 76 4 = 0 then (some ((-2), h)) else (ob1 (F_M_remembers h) (fun (h2 : MH) => ob2 (F_M_restore_L16 FUEL 0 h2) (fun (x1_4 : Int) (h5 : MH) => ob2 (F_M_counts h5) (fun (r7 : Int) (h8 : MH) => some (r7, h8)))))
theorem kd_St_text {o : Nat} {p1 : Int} (ks : kd o = 6) : kd (F_St_text o p1) = 5 := by
  unfold F_St_text
  split
  · exact kt_6_0 ks
  · split
    · exact kt_6_1 ks
    · exact kt_6_2 ks
theorem kd_Hi_slot (p1 : Int) : ∀ i, F_Hi_slot p1 = some i → kd i = 6 := by
  intro i hi
  unfold F_Hi_slot at hi
  by_cases h0 : p1 < 0
  · rw [if_pos h0] at hi; cases hi
  · rw [if_neg h0] at hi
    by_cases h1 : p1 < 4
    · rw [if_pos h1] at hi
      cases hi
      have key : ∀ n, n < 4 → kd (rf 18 n) = 6 := by decide
      exact key _ (by omega)
    · rw [if_neg h1] at hi; cases hi

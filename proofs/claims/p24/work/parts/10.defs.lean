def F_X_isText (p1 : Int) : Int :=
  if p1 < 0 then (0) else (if p1 ≤ 2 then (1) else (0))
def F_St_text (o : Nat) (p1 : Int) : Nat :=
  if p1 = 0 then (rf o 0) else (if p1 = 1 then (rf o 1) else (rf o 2))
def F_X_isSign (p1 : Int) : Int :=
  if p1 < 0 then (0) else (if p1 < sg_length then (1) else (0))
def F_Ro_size (o : Nat) (h : MH) : Int :=
  h o 1
def F_Hi_slot (p1 : Int) : Option Nat :=
  if p1 < 0 then (none) else (if p1 < 4 then (some (rf 18 p1.toNat)) else (none))
def F_Ro_emptyOut (o : Nat) (h : MH) : MH :=
  (up h o 1 0)
def F_Ro_at (o : Nat) (p1 : Int) (h : MH) : Int :=
  if p1 < 0 then ((-1)) else (if p1 < h o 1 then (if p1 < (al (rf o 0) : Int) then (h (rf o 0) p1.toNat) else ((-1))) else ((-1)))
def F_Ro_add (o : Nat) (p1 : Int) (h : MH) : MH :=
  if h o 1 < 0 then (h) else (if h o 1 < (al (rf o 0) : Int) then ((up (up h (rf o 0) (h o 1).toNat p1) o 1 (wr (((up h (rf o 0) (h o 1).toNat p1) o 1) + 1)))) else (h))
def F_Ro_become_L6 (x0 : Nat) (x1 : Nat) : Nat → Int → MH → Option (Int × MH)
  | 0, _, _ => none
  | n + 1, x2, h => if x2 < F_Ro_size x1 h then (F_Ro_become_L6 x0 x1 n (wr (x2 + 1)) (F_Ro_add x0 (F_Ro_at x1 x2 h) h)) else (some (x2, h))
def F_Ro_become (o : Nat) (p1 : Nat) (h : MH) : Option MH :=
  ob2 (F_Ro_become_L6 o p1 FUEL 0 (F_Ro_emptyOut o h)) (fun (x2_1 : Int) (h2 : MH) => some h2)
def F_St_become (o : Nat) (p1 : Nat) (h : MH) : Option MH :=
  ob1 (F_Ro_become (rf o 0) (rf p1 0) h) (fun (h1 : MH) => ob1 (F_Ro_become (rf o 1) (rf p1 1) h1) (fun (h3 : MH) => ob1 (F_Ro_become (rf o 2) (rf p1 2) h3) (fun (h5 : MH) => some (up (up (up (up h5 o 3 (h5 p1 3)) o 4 ((up h5 o 3 (h5 p1 3)) p1 4)) o 5 ((up (up h5 o 3 (h5 p1 3)) o 4 ((up h5 o 3 (h5 p1 3)) p1 4)) p1 5)) o 6 ((up (up (up h5 o 3 (h5 p1 3)) o 4 ((up h5 o 3 (h5 p1 3)) p1 4)) o 5 ((up (up h5 o 3 (h5 p1 3)) o 4 ((up h5 o 3 (h5 p1 3)) p1 4)) p1 5)) p1 6)))))
def F_Hi_copy (p1 : Option Nat) (p2 : Option Nat) (h : MH) : Option MH :=
  om p1 (some h) (fun (i1 : Nat) => om p2 (some h) (fun (i2 : Nat) => ob1 (F_St_become i2 i1 h) (fun (h3 : MH) => some h3)))
def F_Hi_dropOldest_L2  : Nat → Int → MH → Option (Int × MH)
  | 0, _, _ => none
  | n + 1, x1, h => if x1 < h 17 1 then (ob1 (F_Hi_copy (F_Hi_slot x1) (F_Hi_slot (wr (x1 - 1))) h) (fun (h2 : MH) => F_Hi_dropOldest_L2  n (wr (x1 + 1)) h2)) else (some (x1, h))
def F_Hi_dropOldest (h : MH) : Option MH :=
  ob2 (F_Hi_dropOldest_L2 FUEL 1 h) (fun (x1_1 : Int) (h2 : MH) => some (up h2 17 1 (wr ((h2 17 1) - 1))))
def F_Hi_record (p1 : Nat) (h : MH) : Option MH :=
  jk1 (fun (h1 : MH) => ob1 (F_Hi_copy (some p1) (F_Hi_slot (h1 17 1)) h1) (fun (h3 : MH) => some (up h3 17 1 (wr ((h3 17 1) + 1))))) (fun kj2 => if h 17 1 < 4 then (kj2 h) else (ob1 (F_Hi_dropOldest h) (fun (h7 : MH) => kj2 h7)))
def F_Ro_change (o : Nat) (p1 : Int) (p2 : Int) (h : MH) : MH :=
  if p1 < 0 then (h) else (if p1 < h o 1 then (if p1 < (al (rf o 0) : Int) then ((up h (rf o 0) p1.toNat p2)) else (h)) else (h))
def F_Ro_putIn_L42 (x0 : Nat) (x1 : Int) (x2 : Int) : Nat → Int → MH → Option (Int × MH)
  | 0, _, _ => none
  | n + 1, x3, h => if x3 ≤ x1 then (some (x3, h)) else (F_Ro_putIn_L42 x0 x1 x2 n (wr (x3 + (-1))) (F_Ro_change x0 x3 (F_Ro_at x0 (wr (x3 - 1)) h) h))
def F_Ro_putIn (o : Nat) (p1 : Int) (p2 : Int) (h : MH) : Option MH :=
  if p1 < 0 then (some h) else (if p1 ≤ h o 1 then (if h o 1 < (al (rf o 0) : Int) then (ob2 (F_Ro_putIn_L42 o p1 p2 FUEL (wr (((up h o 1 (wr ((h o 1) + 1))) o 1) - 1)) (up h o 1 (wr ((h o 1) + 1)))) (fun (x3_4 : Int) (h5 : MH) => some (F_Ro_change o p1 p2 h5))) else (some h)) else (some h))
def F_Ro_putOut_L15 (x0 : Nat) : Nat → Int → MH → Option (Int × MH)
  | 0, _, _ => none
  | n + 1, x2, h => if x2 < wr ((h x0 1) - 1) then (F_Ro_putOut_L15 x0 n (wr (x2 + 1)) (F_Ro_change x0 x2 (F_Ro_at x0 (wr (x2 + 1)) h) h)) else (some (x2, h))
def F_Ro_putOut (o : Nat) (p1 : Int) (h : MH) : Option MH :=
  if p1 < 0 then (some h) else (if p1 < h o 1 then (ob2 (F_Ro_putOut_L15 o FUEL p1 h) (fun (x2_3 : Int) (h4 : MH) => some (up h4 o 1 (wr ((h4 o 1) - 1))))) else (some h))
def F_X_edit (p1 : Int) (p2 : Int) (p3 : Int) (h : MH) : Option (Int × MH) :=
  if F_X_isText p1 = 0 then (some ((-1), h)) else (jk1 (fun (u2 : Unit) => if p2 < 0 then (some ((-1), h)) else (if p2 ≤ F_Ro_size (F_St_text 3 p1) h then (jk1 (fun (u6 : Unit) => jk1 (fun (u8 : Unit) => ob1 (F_Hi_record 3 h) (fun (h10 : MH) => jk1 (fun (h12 : MH) => some (F_Ro_size (F_St_text 3 p1) h12, h12)) (fun kj13 => if F_X_isSign p3 = 0 then (if F_X_isSign (wr (p3 - 10)) = 0 then (ob1 (F_Ro_putOut (F_St_text 3 p1) p2 h10) (fun (h17 : MH) => kj13 h17)) else (kj13 (F_Ro_change (F_St_text 3 p1) p2 (wr (p3 - 10)) h10))) else (ob1 (F_Ro_putIn (F_St_text 3 p1) p2 p3 h10) (fun (h19 : MH) => kj13 h19))))) (fun kj9 => if F_X_isSign p3 = 0 then (kj9 ()) else (if F_Ro_size (F_St_text 3 p1) h < 14 then (kj9 ()) else (some ((-3), h))))) (fun kj7 => if p2 = F_Ro_size (F_St_text 3 p1) h then (if F_X_isSign p3 = 0 then (some ((-1), h)) else (kj7 ())) else (kj7 ()))) else (some ((-1), h)))) (fun kj3 => if F_X_isSign p3 = 0 then (if F_X_isSign (wr (p3 - 10)) = 0 then (if p3 = 20 then (kj3 ()) else (some ((-1), h))) else (kj3 ())) else (kj3 ())))
def F_Ro_becomeZeros_L6 (x0 : Nat) (x1 : Int) : Nat → Int → MH → Option (Int × MH)
  | 0, _, _ => none
  | n + 1, x2, h => if x2 < x1 then (F_Ro_becomeZeros_L6 x0 x1 n (wr (x2 + 1)) (F_Ro_add x0 0 h)) else (some (x2, h))
def F_Ro_becomeZeros (o : Nat) (p1 : Int) (h : MH) : Option MH :=
  ob2 (F_Ro_becomeZeros_L6 o p1 FUEL 0 (F_Ro_emptyOut o h)) (fun (x2_1 : Int) (h2 : MH) => some h2)
def F_C_keptFrom (p1 : Int) (p2 : Int) (h : MH) : Int :=
  F_Ro_at 50 (wr ((wr (p1 * 15)) + p2)) h
def F_C_compare_L29 (x1 : Nat) (x2 : Nat) (x3 : Int) : Nat → Int → MH → Option (Int × MH)
  | 0, _, _ => none
  | n + 1, x4, h => if x4 < 0 then (some (x4, h)) else (jn1 (if F_Ro_at x1 x3 h = F_Ro_at x2 x4 h then ((wr ((F_C_keptFrom (wr (x3 + 1)) (wr (x4 + 1)) h) + 1))) else ((imax (F_C_keptFrom (wr (x3 + 1)) x4 h) (F_C_keptFrom x3 (wr (x4 + 1)) h)))) (fun (s2 : Int) => F_C_compare_L29 x1 x2 x3 n (wr (x4 + (-1))) (F_Ro_change 50 (wr ((wr (x3 * 15)) + x4)) s2 h)))
def F_C_compare_L17 (x1 : Nat) (x2 : Nat) : Nat → Int → MH → Option (Int × MH)
  | 0, _, _ => none
  | n + 1, x3, h => if x3 < 0 then (some (x3, h)) else (ob2 (F_C_compare_L29 x1 x2 x3 FUEL (wr ((F_Ro_size x2 h) - 1)) h) (fun (x4_2 : Int) (h3 : MH) => F_C_compare_L17 x1 x2 n (wr (x3 + (-1))) h3))
def F_C_compare (p1 : Nat) (p2 : Nat) (h : MH) : Option MH :=
  ob1 (F_Ro_becomeZeros 50 225 h) (fun (h1 : MH) => ob2 (F_C_compare_L17 p1 p2 FUEL (wr ((F_Ro_size p1 h1) - 1)) h1) (fun (x3_3 : Int) (h4 : MH) => some h4))
def F_C_keptOf (p1 : Nat) (p2 : Nat) (h : MH) : Option (Int × MH) :=
  ob1 (F_C_compare p1 p2 h) (fun (h1 : MH) => some (F_C_keptFrom 0 0 h1, h1))
def F_C_apart (p1 : Nat) (p2 : Nat) (h : MH) : Option (Int × MH) :=
  ob2 (F_C_keptOf p1 p2 h) (fun (r1 : Int) (h2 : MH) => some (wr ((wr ((F_Ro_size p1 h) + (F_Ro_size p2 h))) - (wr (2 * r1))), h2))
def F_X_distanceNow (h : MH) : Option (Int × MH) :=
  ob2 (F_C_apart (F_St_text 3 0) (F_St_text 3 1) h) (fun (r1 : Int) (h2 : MH) => some (r1, h2))
def F_X_swap (p1 : Int) (p2 : Int) (h : MH) : Option (Int × MH) :=
  if F_X_isText p1 = 0 then (some ((-1), h)) else (if F_X_isText p2 = 0 then (some ((-1), h)) else (if p1 = p2 then (some ((-1), h)) else (ob1 (F_Hi_record 3 h) (fun (h4 : MH) => ob1 (F_Ro_become 47 (F_St_text 3 p1) h4) (fun (h6 : MH) => ob1 (F_Ro_become (F_St_text 3 p1) (F_St_text 3 p2) h6) (fun (h8 : MH) => ob1 (F_Ro_become (F_St_text 3 p2) 47 h8) (fun (h10 : MH) => ob2 (F_X_distanceNow h10) (fun (r12 : Int) (h13 : MH) => some (r12, h13)))))))))
def F_St_setting (o : Nat) (p1 : Int) (h : MH) : Int :=
  if p1 = 0 then (h o 3) else (h o 4)
def F_St_changeSetting (o : Nat) (p1 : Int) (p2 : Int) (h : MH) : MH :=
  if p1 = 0 then ((up h o 3 p2)) else ((up h o 4 p2))
def F_X_set (p1 : Int) (p2 : Int) (h : MH) : Option (Int × MH) :=
  jk1 (fun (u1 : Unit) => if p2 < 0 then (some ((-1), h)) else (jn1 (if p1 = 0 then (3) else (1)) (fun (s4 : Int) => if p2 ≤ s4 then (ob1 (F_Hi_record 3 h) (fun (h8 : MH) => some (F_St_setting 3 p1 h8, (F_St_changeSetting 3 p1 p2 h8)))) else (some ((-1), h))))) (fun kj2 => if p1 = 0 then (kj2 ()) else (if p1 = 1 then (kj2 ()) else (some ((-1), h))))
def F_C_step (p1 : Nat) (p2 : Nat) (p3 : Int) (p4 : Int) (h : MH) : Int :=
  jn1 (if p3 < F_Ro_size p1 h then (1) else (0)) (fun (s1 : Int) => jn1 (if p4 < F_Ro_size p2 h then (1) else (0)) (fun (s4 : Int) => jk1 (fun (u7 : Unit) => if s1 = 0 then (2) else (if s4 = 0 then (1) else (if F_C_keptFrom (wr (p3 + 1)) p4 h < F_C_keptFrom p3 (wr (p4 + 1)) h then (2) else (1)))) (fun kj8 => if s1 = 0 then (kj8 ()) else (if s4 = 0 then (kj8 ()) else (if F_Ro_at p1 p3 h = F_Ro_at p2 p4 h then (0) else (kj8 ()))))))
def F_V_size (h : MH) : Int :=
  F_Ro_size 55 h
def F_V_inHunk (p1 : Int) (h : MH) : Int :=
  if F_Ro_at 55 p1 h ≤ 0 then (0) else (1)
def F_V_hunks (h : MH) : Int :=
  F_Ro_size 59 h
def F_V_top (p1 : Int) (h : MH) : Int :=
  F_Ro_at 59 p1 h
def F_V_end (p1 : Int) (h : MH) : Int :=
  F_Ro_at 61 p1 h
def F_V_linesWithin_L6 (x2 : Int) (x3 : Int) (h : MH) : Nat → Int → Int → Option (Int × Int)
  | 0, _, _ => none
  | n + 1, x4, x5 => if x5 < x2 then (jn1 (if F_Ro_at 55 x5 h = x3 then (1) else (0)) (fun (s2 : Int) => F_V_linesWithin_L6 x2 x3 h n (wr (x4 + s2)) (wr (x5 + 1)))) else (some (x4, x5))
def F_V_linesWithin (p1 : Int) (p2 : Int) (p3 : Int) (h : MH) : Option Int :=
  ob2 (F_V_linesWithin_L6 p2 p3 h FUEL 0 p1) (fun (x4_1 : Int) (x5_2 : Int) => some x4_1)
def F_V_linesOf (p1 : Int) (p2 : Int) (h : MH) : Option Int :=
  ob1 (F_V_linesWithin (F_V_top p1 h) (F_V_end p1 h) p2 h) (fun (r1 : Int) => some r1)
def F_V_findHunks_L23  : Nat → Int → MH → Option (Int × MH)
  | 0, _, _ => none
  | n + 1, x1, h => if x1 < F_V_size h then (jn1 (if F_V_inHunk x1 h = 0 then (h) else (if F_V_inHunk (wr (x1 - 1)) h = 0 then ((F_Ro_add 59 x1 h)) else (h))) (fun (h2 : MH) => jn1 (if F_V_inHunk x1 h2 = 0 then (h2) else (if F_V_inHunk (wr (x1 + 1)) h2 = 0 then ((F_Ro_add 61 (wr (x1 + 1)) h2)) else (h2))) (fun (h6 : MH) => F_V_findHunks_L23  n (wr (x1 + 1)) h6))) else (some (x1, h))
def F_V_findHunks_L93  : Nat → Int → MH → Option (Int × MH)
  | 0, _, _ => none
  | n + 1, x1, h => if x1 < F_V_hunks h then (ob1 (F_V_linesOf x1 1 h) (fun (r2 : Int) => jk1 (fun (s6 : Int) => jn1 (if s6 = 0 then (1) else (0)) (fun (s8 : Int) => F_V_findHunks_L93  n (wr (x1 + 1)) (F_Ro_add 63 s8 h))) (fun kj7 => jk1 (fun (u4 : Unit) => kj7 0) (fun kj5 => if r2 ≤ 0 then (kj5 ()) else (ob1 (F_V_linesOf x1 2 h) (fun (r15 : Int) => if r15 ≤ 0 then (kj5 ()) else (kj7 1))))))) else (some (x1, h))
def F_V_findHunks (h : MH) : Option MH :=
  ob2 (F_V_findHunks_L23 FUEL 0 (F_Ro_emptyOut 63 (F_Ro_emptyOut 61 (F_Ro_emptyOut 59 h)))) (fun (x1_1 : Int) (h2 : MH) => ob2 (F_V_findHunks_L93 FUEL 0 h2) (fun (x1_4 : Int) (h5 : MH) => some h5))
def F_V_gather_L40 (x1 : Nat) (x2 : Nat) (x4 : Int) : Nat → Int → Int → Int → MH → Option (Int × Int × Int × MH)
  | 0, _, _, _, _ => none
  | n + 1, x5, x6, x7, h => if x7 < x4 then (if wr (x5 + x6) < x4 then (jn1 (if F_C_step x1 x2 x5 x6 h = 2 then ((F_Ro_at x2 x6 (F_Ro_add 55 (F_C_step x1 x2 x5 x6 h) h))) else ((F_Ro_at x1 x5 (F_Ro_add 55 (F_C_step x1 x2 x5 x6 h) h)))) (fun (s3 : Int) => jn1 (if F_C_step x1 x2 x5 x6 h = 2 then (0) else (1)) (fun (s6 : Int) => jn1 (if F_C_step x1 x2 x5 x6 h = 1 then (0) else (1)) (fun (s9 : Int) => F_V_gather_L40 x1 x2 x4 n (wr (x5 + s6)) (wr (x6 + s9)) (wr (x7 + 1)) (F_Ro_add 57 s3 (F_Ro_add 55 (F_C_step x1 x2 x5 x6 h) h)))))) else (some (x5, x6, x7, h))) else (some (x5, x6, x7, h))
def F_V_gather (p1 : Nat) (p2 : Nat) (h : MH) : Option MH :=
  ob1 (F_C_compare p1 p2 h) (fun (h1 : MH) => ob4 (F_V_gather_L40 p1 p2 (wr ((F_Ro_size p1 (F_Ro_emptyOut 57 (F_Ro_emptyOut 55 h1))) + (F_Ro_size p2 (F_Ro_emptyOut 57 (F_Ro_emptyOut 55 h1))))) FUEL 0 0 0 (F_Ro_emptyOut 57 (F_Ro_emptyOut 55 h1))) (fun (x5_3 : Int) (x6_4 : Int) (x7_5 : Int) (h6 : MH) => ob1 (F_V_findHunks h6) (fun (h8 : MH) => some h8)))
def F_V_isPlain (p1 : Int) (h : MH) : Int :=
  if F_Ro_at 63 p1 h = 1 then (1) else (0)
def F_V_barAt (p1 : Int) (p2 : Int) (p3 : Int) (h : MH) : Int :=
  jn1 (if p3 = 0 then ((wr (p1 - 1))) else (p2)) (fun (s1 : Int) => jn1 (if p3 = 0 then ((wr (p2 - 1))) else (p1)) (fun (s4 : Int) => if F_Ro_at 57 s1 h = (-1) then (2) else (if F_Ro_at 57 s1 h = F_Ro_at 57 s4 h then (jn1 (if p3 = 0 then ((wr (p1 - 2))) else ((wr (p2 + 1)))) (fun (s9 : Int) => if F_Ro_at 55 s9 h ≤ 0 then (0) else (4))) else (3))))
def F_V_reach_L23 (x1 : Int) (x2 : Int) (x3 : Int) (h : MH) : Nat → Int → Option (Int)
  | 0, _ => none
  | n + 1, x4 => if x4 < F_V_size h then (if F_V_barAt (wr ((F_V_top x1 h) + (wr (x3 * x4)))) (wr ((F_V_end x1 h) + (wr (x3 * x4)))) x2 h = 0 then (F_V_reach_L23 x1 x2 x3 h n (wr (x4 + 1))) else (some x4)) else (some x4)
def F_V_reach (p1 : Int) (p2 : Int) (h : MH) : Option Int :=
  if F_V_isPlain p1 h = 0 then (some 0) else (jn1 (if p2 = 0 then ((-1)) else (1)) (fun (s2 : Int) => ob1 (F_V_reach_L23 p1 p2 s2 h FUEL 0) (fun (x4_5 : Int) => some x4_5)))
def F_V_worthAt (p1 : Int) (p2 : Int) (h : MH) : Int :=
  jk1 (fun (s3 : Int) => jn1 (if F_Ro_at 57 (wr (p2 - 1)) h = 6 then (2) else (0)) (fun (s5 : Int) => jn1 (if F_Ro_at 57 p1 h = 7 then (1) else (0)) (fun (s8 : Int) => if F_Ro_at 57 (wr (p2 - 1)) h = 8 then (wr ((wr ((wr (s3 + s5)) + s8)) + 3)) else (wr ((wr ((wr (s3 + s5)) + s8)) + 0))))) (fun kj4 => jk1 (fun (u1 : Unit) => kj4 4) (fun kj2 => if F_Ro_at 57 (wr (p1 - 1)) h = 6 then (kj2 ()) else (if F_Ro_at 57 (wr (p1 - 1)) h = (-1) then (kj2 ()) else (kj4 0))))
def F_V_bestTop_L45 (x2 : Int) (x3 : Int) (h : MH) : Nat → Int → Int → Option (Int × Int)
  | 0, _, _ => none
  | n + 1, x4, x5 => if x5 ≤ x3 then (jn1 (if F_V_worthAt x5 (wr (x5 + x2)) h < F_V_worthAt x4 (wr (x4 + x2)) h then (x4) else (x5)) (fun (x4_2 : Int) => F_V_bestTop_L45 x2 x3 h n x4_2 (wr (x5 + 1)))) else (some (x4, x5))
def F_V_bestTop (p1 : Int) (h : MH) : Option Int :=
  ob1 (F_V_reach p1 1 h) (fun (r1 : Int) => ob1 (F_V_reach p1 0 h) (fun (r3 : Int) => ob2 (F_V_bestTop_L45 (wr ((F_V_end p1 h) - (F_V_top p1 h))) (wr ((F_V_top p1 h) + r1)) h FUEL (wr ((F_V_top p1 h) - r3)) (wr ((wr ((F_V_top p1 h) - r3)) + 1))) (fun (x4_5 : Int) (x5_6 : Int) => some x4_5)))
def F_V_moveTo_L35 (x1 : Int) (x2 : Int) (x3 : Int) (x4 : Int) : Nat → Int → MH → Option (Int × MH)
  | 0, _, _ => none
  | n + 1, x5, h => if x5 < F_V_end x1 h then (F_V_moveTo_L35 x1 x2 x3 x4 n (wr (x5 + 1)) (F_Ro_change 55 x5 0 h)) else (some (x5, h))
def F_V_moveTo_L64 (x1 : Int) (x2 : Int) (x3 : Int) (x4 : Int) : Nat → Int → MH → Option (Int × MH)
  | 0, _, _ => none
  | n + 1, x5, h => if x5 < x4 then (F_V_moveTo_L64 x1 x2 x3 x4 n (wr (x5 + 1)) (F_Ro_change 55 x5 x3 h)) else (some (x5, h))
def F_V_moveTo (p1 : Int) (p2 : Int) (h : MH) : Option MH :=
  ob2 (F_V_moveTo_L35 p1 p2 (F_Ro_at 55 (F_V_top p1 h) h) (wr ((wr (p2 + (F_V_end p1 h))) - (F_V_top p1 h))) FUEL (F_V_top p1 h) h) (fun (x5_1 : Int) (h2 : MH) => ob2 (F_V_moveTo_L64 p1 p2 (F_Ro_at 55 (F_V_top p1 h) h) (wr ((wr (p2 + (F_V_end p1 h))) - (F_V_top p1 h))) FUEL p2 h2) (fun (x5_4 : Int) (h5 : MH) => some (F_Ro_change 61 p1 (wr ((wr (p2 + (F_V_end p1 h))) - (F_V_top p1 h))) (F_Ro_change 59 p1 p2 h5))))
def F_V_settle_L2  : Nat → Int → MH → Option (Int × MH)
  | 0, _, _ => none
  | n + 1, x1, h => if x1 < F_V_hunks h then (jk1 (fun (h2 : MH) => F_V_settle_L2  n (wr (x1 + 1)) h2) (fun kj3 => if F_V_isPlain x1 h = 0 then (kj3 h) else (ob1 (F_V_bestTop x1 h) (fun (r6 : Int) => ob1 (F_V_moveTo x1 r6 h) (fun (h8 : MH) => kj3 h8))))) else (some (x1, h))
def F_V_settle (h : MH) : Option MH :=
  ob2 (F_V_settle_L2 FUEL 0 h) (fun (x1_1 : Int) (h2 : MH) => some h2)
def F_X_show (h : MH) : Option MH :=
  ob1 (F_V_gather (F_St_text 3 0) (F_St_text 3 1) h) (fun (h1 : MH) => if F_St_setting 3 1 h1 = 1 then (ob1 (F_V_settle h1) (fun (h4 : MH) => some h4)) else (some h1))
def F_V_has (p1 : Int) (h : MH) : Int :=
  if p1 < 0 then (0) else (if p1 < F_V_hunks h then (1) else (0))
def F_V_around (p1 : Int) (p2 : Int) (p3 : Int) (h : MH) : Int :=
  jn1 (if p3 = 0 then (jn1 (if F_V_has (wr (p1 - 1)) h = 0 then (0) else ((F_V_end (wr (p1 - 1)) h))) (fun (s4 : Int) => (wr ((F_V_top p1 h) - s4)))) else (jn1 (if F_V_has (wr (p1 + 1)) h = 0 then ((F_V_size h)) else ((F_V_top (wr (p1 + 1)) h))) (fun (s8 : Int) => (wr (s8 - (F_V_end p1 h)))))) (fun (x4_1 : Int) => imin p2 x4_1)
def F_V_kind (p1 : Int) (h : MH) : Int :=
  F_Ro_at 55 p1 h
def F_V_sign (p1 : Int) (h : MH) : Int :=
  F_Ro_at 57 p1 h
def F_La_takeParts_L41 (x3 : Int) (x5 : Int) (x6 : Int) : Nat → Int → MH → Option (Int × MH)
  | 0, _, _ => none
  | n + 1, x7, h => if x7 < x3 then (jn1 (if F_V_kind x7 h = x6 then (h) else ((F_Ro_add 68 (F_V_sign x7 h) h))) (fun (h2 : MH) => jn1 (if F_V_kind x7 h2 = x5 then (h2) else ((F_Ro_add 70 (F_V_sign x7 h2) h2))) (fun (h5 : MH) => F_La_takeParts_L41 x3 x5 x6 n (wr (x7 + 1)) h5))) else (some (x7, h))
def F_La_takeParts (p2 : Int) (p3 : Int) (p4 : Int) (h : MH) : Option MH :=
  jn1 (if p4 = 0 then (1) else (2)) (fun (s1 : Int) => jn1 (if p4 = 0 then (2) else (1)) (fun (s4 : Int) => ob2 (F_La_takeParts_L41 p3 s1 s4 FUEL p2 (F_Ro_emptyOut 70 (F_Ro_emptyOut 68 h))) (fun (x7_7 : Int) (h8 : MH) => some h8)))
def F_V_newAhead (p1 : Int) (h : MH) : Option Int :=
  ob1 (F_V_linesWithin 0 p1 1 h) (fun (r1 : Int) => some (wr (p1 - r1)))
def F_V_oldAhead (p1 : Int) (h : MH) : Option Int :=
  ob1 (F_V_linesWithin 0 p1 2 h) (fun (r1 : Int) => some (wr (p1 - r1)))
def F_La_fitsAt_L31 (x1 : Int) (h : MH) : Nat → Int → Option (Sum (Int) (Int))
  | 0, _ => none
  | n + 1, x2 => if x2 < F_Ro_size 68 h then (if F_Ro_at 68 x2 h = F_Ro_at 66 (wr (x1 + x2)) h then (F_La_fitsAt_L31 x1 h n (wr (x2 + 1))) else (some (Sum.inl 0))) else (some (Sum.inr x2))
def F_La_fitsAt (p1 : Int) (h : MH) : Option Int :=
  if p1 < h 65 9 then (some 0) else (if wr (p1 + (F_Ro_size 68 h)) ≤ F_Ro_size 66 h then (os (F_La_fitsAt_L31 p1 h FUEL 0) (fun (a : Int) => some a) (fun (q5 : Int) => some 1)) else (some 0))
def F_La_search_L2 (x1 : Int) (h : MH) : Nat → Int → Option (Sum (Int) (Int))
  | 0, _ => none
  | n + 1, x2 => if x2 ≤ 112 then (ob1 (F_La_fitsAt (wr (x1 - x2)) h) (fun (r2 : Int) => if r2 = 0 then (ob1 (F_La_fitsAt (wr (x1 + x2)) h) (fun (r5 : Int) => if r5 = 0 then (F_La_search_L2 x1 h n (wr (x2 + 1))) else (some (Sum.inl (wr (x1 + x2)))))) else (some (Sum.inl (wr (x1 - x2)))))) else (some (Sum.inr x2))
def F_La_search (p1 : Int) (h : MH) : Option Int :=
  os (F_La_search_L2 p1 h FUEL 0) (fun (a : Int) => some a) (fun (q3 : Int) => some (-4))
def F_La_replaceAt_L2 (x1 : Int) : Nat → Int → MH → Option (Int × MH)
  | 0, _, _ => none
  | n + 1, x2, h => if x2 < F_Ro_size 68 h then (ob1 (F_Ro_putOut 66 x1 h) (fun (h2 : MH) => F_La_replaceAt_L2 x1 n (wr (x2 + 1)) h2)) else (some (x2, h))
def F_La_replaceAt_L29 (x1 : Int) : Nat → Int → MH → Option (Int × MH)
  | 0, _, _ => none
  | n + 1, x2, h => if x2 < F_Ro_size 70 h then (ob1 (F_Ro_putIn 66 (wr (x1 + x2)) (F_Ro_at 70 x2 h) h) (fun (h2 : MH) => F_La_replaceAt_L29 x1 n (wr (x2 + 1)) h2)) else (some (x2, h))
def F_La_replaceAt (p1 : Int) (h : MH) : Option MH :=
  ob2 (F_La_replaceAt_L2 p1 FUEL 0 h) (fun (x2_1 : Int) (h2 : MH) => ob2 (F_La_replaceAt_L29 p1 FUEL 0 h2) (fun (x2_4 : Int) (h5 : MH) => some h5))
def F_La_layOne (p2 : Int) (p3 : Int) (p4 : Int) (h : MH) : Option MH :=
  ob1 (F_La_takeParts (wr ((F_V_top p2 h) - (F_V_around p2 p3 0 h))) (wr ((F_V_end p2 h) + (F_V_around p2 p3 1 h))) p4 h) (fun (h1 : MH) => jk1 (fun (s3 : Int) => ob1 (F_La_search (wr ((wr (s3 + (h1 65 8))) + (h1 65 7))) h1) (fun (r5 : Int) => if r5 = (-4) then (some (F_Ro_add 74 (wr (r5 - (wr ((wr (s3 + (h1 65 8))) + (h1 65 7))))) (F_Ro_add 72 r5 h1))) else (ob1 (F_La_replaceAt r5 (F_Ro_add 74 (wr (r5 - (wr ((wr (s3 + (h1 65 8))) + (h1 65 7))))) (F_Ro_add 72 r5 h1))) (fun (h8 : MH) => jn1 (up h8 65 8 (wr ((h8 65 8) + (wr ((F_Ro_size 70 h8) - (F_Ro_size 68 h8)))))) (fun (h10 : MH) => jn1 (up h10 65 7 (wr ((h10 65 7) + (wr (r5 - (wr ((wr (s3 + (h1 65 8))) + (h1 65 7)))))))) (fun (h12 : MH) => jn1 (up h12 65 9 (wr ((wr (r5 + (F_Ro_size 70 h12))) - (F_V_around p2 p3 1 h)))) (fun (h14 : MH) => jn1 (up h14 65 6 (imax (h14 65 6) (F_Ro_size 66 h14))) (fun (h16 : MH) => jn1 (up h16 65 5 (wr ((h16 65 5) + 1))) (fun (h18 : MH) => some h18))))))))) (fun kj4 => if p4 = 0 then (ob1 (F_V_oldAhead (wr ((F_V_top p2 h) - (F_V_around p2 p3 0 h))) h1) (fun (r22 : Int) => kj4 r22)) else (ob1 (F_V_newAhead (wr ((F_V_top p2 h) - (F_V_around p2 p3 0 h))) h1) (fun (r24 : Int) => kj4 r24))))
def F_La_layAll_L50 (x3 : Int) (x4 : Int) : Nat → Int → MH → Option (Int × MH)
  | 0, _, _ => none
  | n + 1, x5, h => if x5 < F_V_hunks h then (ob1 (F_La_layOne x5 x3 x4 h) (fun (h2 : MH) => F_La_layAll_L50 x3 x4 n (wr (x5 + 1)) h2)) else (some (x5, h))
def F_La_layAll (p2 : Nat) (p3 : Int) (p4 : Int) (h : MH) : Option MH :=
  ob1 (F_Ro_become 66 p2 h) (fun (h1 : MH) => ob2 (F_La_layAll_L50 p3 p4 FUEL 0 (up (up (up (up (up (F_Ro_emptyOut 74 (F_Ro_emptyOut 72 h1)) 65 5 0) 65 6 0) 65 7 0) 65 8 0) 65 9 0)) (fun (x5_3 : Int) (h4 : MH) => some h4))
def F_La_longest (h : MH) : Int :=
  h 65 6
def F_La_result : Nat :=
  66
def F_La_laid (h : MH) : Int :=
  h 65 5
def F_St_addPatches (o : Nat) (p1 : Int) (p2 : Int) (h : MH) : MH :=
  (up (up h o 5 (wr ((h o 5) + p1))) o 6 (wr (((up h o 5 (wr ((h o 5) + p1))) o 6) + p2)))
def F_X_lay (p1 : Int) (h : MH) : Option (Int × MH) :=
  ob1 (F_X_show h) (fun (h1 : MH) => ob1 (F_La_layAll (F_St_text 3 2) (F_St_setting 3 0 h1) p1 h1) (fun (h3 : MH) => if F_La_longest h3 ≤ 14 then (ob1 (F_Hi_record 3 h3) (fun (h6 : MH) => ob1 (F_Ro_become (F_St_text 3 2) 66 h6) (fun (h8 : MH) => some (F_La_laid (F_St_addPatches 3 (F_La_laid h8) (wr ((F_V_hunks h8) - (F_La_laid h8))) h8), (F_St_addPatches 3 (F_La_laid h8) (wr ((F_V_hunks h8) - (F_La_laid h8))) h8))))) else (some ((-3), h3))))
def F_X_line (p1 : Int) (p2 : Int) (h : MH) : Int :=
  if F_X_isText p1 = 0 then ((-1)) else (if p2 < 0 then ((-1)) else (if p2 < F_Ro_size (F_St_text 3 p1) h then (F_Ro_at (F_St_text 3 p1) p2 h) else ((-4))))
def F_C_entry (p1 : Int) (p2 : Int) (h : MH) : Int :=
  if p2 = 0 then (0) else (if p1 = wr (-p2) then (F_Ro_at 52 (wr ((wr (29 + p1)) + 1)) h) else (if p1 = p2 then (wr ((F_Ro_at 52 (wr ((wr (29 + p1)) - 1)) h) + 1)) else (if wr ((F_Ro_at 52 (wr ((wr (29 + p1)) - 1)) h) + 1) ≤ F_Ro_at 52 (wr ((wr (29 + p1)) + 1)) h then (F_Ro_at 52 (wr ((wr (29 + p1)) + 1)) h) else (wr ((F_Ro_at 52 (wr ((wr (29 + p1)) - 1)) h) + 1)))))
def F_C_followKept_L3 (x0 : Nat) (x1 : Nat) (x3 : Int) (h : MH) : Nat → Int → Option (Int)
  | 0, _ => none
  | n + 1, x4 => if x4 < F_Ro_size x0 h then (if wr (x4 - x3) < F_Ro_size x1 h then (if F_Ro_at x0 x4 h = F_Ro_at x1 (wr (x4 - x3)) h then (F_C_followKept_L3 x0 x1 x3 h n (wr (x4 + 1))) else (some x4)) else (some x4)) else (some x4)
def F_C_followKept (p1 : Nat) (p2 : Nat) (p3 : Int) (p4 : Int) (h : MH) : Option Int :=
  ob1 (F_C_followKept_L3 p1 p2 p4 h FUEL p3) (fun (x4_1 : Int) => some x4_1)
def F_C_apartBySteps_L33 (x1 : Nat) (x2 : Nat) (x3 : Int) (x4 : Int) : Nat → Int → MH → Option (Sum (Int × MH) (Int × MH))
  | 0, _, _ => none
  | n + 1, x5, h => if x5 ≤ x4 then (ob1 (F_C_followKept x1 x2 (F_C_entry x5 x4 h) x5 h) (fun (r2 : Int) => jk1 (fun (u4 : Unit) => F_C_apartBySteps_L33 x1 x2 x3 x4 n (wr (x5 + 2)) (F_Ro_change 52 (wr (29 + x5)) r2 h)) (fun kj5 => if r2 < F_Ro_size x1 (F_Ro_change 52 (wr (29 + x5)) r2 h) then (kj5 ()) else (if wr (r2 - x5) < F_Ro_size x2 (F_Ro_change 52 (wr (29 + x5)) r2 h) then (kj5 ()) else (some (Sum.inl (x4, (F_Ro_change 52 (wr (29 + x5)) r2 h)))))))) else (some (Sum.inr (x5, h)))
def F_C_apartBySteps_L22 (x1 : Nat) (x2 : Nat) (x3 : Int) : Nat → Int → MH → Option (Sum (Int × MH) (Int × MH))
  | 0, _, _ => none
  | n + 1, x4, h => if x4 ≤ x3 then (os (F_C_apartBySteps_L33 x1 x2 x3 x4 FUEL (wr (-x4)) h) (fun (a : Int × MH) => some (Sum.inl a)) (fun (q5 : Int × MH) => F_C_apartBySteps_L22 x1 x2 x3 n (wr (x4 + 1)) q5.2)) else (some (Sum.inr (x4, h)))
def F_C_apartBySteps (p1 : Nat) (p2 : Nat) (h : MH) : Option (Int × MH) :=
  ob1 (F_Ro_becomeZeros 52 59 h) (fun (h1 : MH) => os (F_C_apartBySteps_L22 p1 p2 (wr ((F_Ro_size p1 h) + (F_Ro_size p2 h))) FUEL 0 h1) (fun (a : Int × MH) => some a) (fun (q6 : Int × MH) => some (wr ((F_Ro_size p1 h) + (F_Ro_size p2 h)), q6.2)))
def F_X_distance (p1 : Int) (h : MH) : Option (Int × MH) :=
  if p1 = 0 then (ob2 (F_X_distanceNow h) (fun (r2 : Int) (h3 : MH) => some (r2, h3))) else (if p1 = 1 then (ob2 (F_C_apartBySteps (F_St_text 3 0) (F_St_text 3 1) h) (fun (r6 : Int) (h7 : MH) => some (r6, h7))) else (some ((-1), h)))
def F_V_hunkOf_L2 (x1 : Int) (h : MH) : Nat → Int → Option (Sum (Int) (Int))
  | 0, _ => none
  | n + 1, x2 => if x2 < F_V_hunks h then (jk1 (fun (u2 : Unit) => F_V_hunkOf_L2 x1 h n (wr (x2 + 1))) (fun kj3 => if F_V_top x2 h ≤ x1 then (if x1 < F_V_end x2 h then (some (Sum.inl x2)) else (kj3 ())) else (kj3 ()))) else (some (Sum.inr x2))
def F_V_hunkOf (p1 : Int) (h : MH) : Option Int :=
  os (F_V_hunkOf_L2 p1 h FUEL 0) (fun (a : Int) => some a) (fun (q3 : Int) => some (-4))
def F_X_view (p1 : Int) (p2 : Int) (h : MH) : Option (Int × MH) :=
  if p1 < 0 then (some ((-1), h)) else (if p2 < 0 then (some ((-1), h)) else (if p2 ≤ 4 then (ob1 (F_X_show h) (fun (h4 : MH) => if p1 < F_V_size h4 then (if p2 = 0 then (some (F_V_kind p1 h4, h4)) else (if p2 = 1 then (some (F_V_sign p1 h4, h4)) else (if p2 = 2 then (if F_V_kind p1 h4 = 2 then (some ((-4), h4)) else (ob1 (F_V_oldAhead p1 h4) (fun (r11 : Int) => some (r11, h4)))) else (if p2 = 3 then (if F_V_kind p1 h4 = 1 then (some ((-4), h4)) else (ob1 (F_V_newAhead p1 h4) (fun (r15 : Int) => some (r15, h4)))) else (ob1 (F_V_hunkOf p1 h4) (fun (r17 : Int) => some (r17, h4))))))) else (some ((-4), h4)))) else (some ((-1), h))))
def F_V_worth (p1 : Int) (h : MH) : Int :=
  F_V_worthAt (F_V_top p1 h) (F_V_end p1 h) h
def F_V_greatestWorth (p1 : Int) (h : MH) : Option Int :=
  ob1 (F_V_bestTop p1 h) (fun (r1 : Int) => some (F_V_worthAt r1 (wr ((wr (r1 + (F_V_end p1 h))) - (F_V_top p1 h))) h))
def F_X_hunk (p1 : Int) (p2 : Int) (h : MH) : Option (Int × MH) :=
  if p2 < 0 then (some ((-1), h)) else (if p2 ≤ 9 then (ob1 (F_X_show h) (fun (h3 : MH) => if F_V_has p1 h3 = 0 then (some ((-1), h3)) else (if p2 = 0 then (some (F_V_top p1 h3, h3)) else (if p2 = 1 then (ob1 (F_V_linesOf p1 1 h3) (fun (r8 : Int) => some (r8, h3))) else (if p2 = 2 then (ob1 (F_V_linesOf p1 2 h3) (fun (r11 : Int) => some (r11, h3))) else (if p2 = 3 then (if F_V_isPlain p1 h3 = 0 then (some (0, h3)) else (some (1, h3))) else (if p2 = 4 then (ob1 (F_V_reach p1 0 h3) (fun (r16 : Int) => some (r16, h3))) else (if p2 = 5 then (ob1 (F_V_reach p1 1 h3) (fun (r19 : Int) => some (r19, h3))) else (if p2 = 6 then (some (F_V_worth p1 h3, h3)) else (if p2 = 7 then (ob1 (F_V_greatestWorth p1 h3) (fun (r23 : Int) => some (r23, h3))) else (if p2 = 8 then (some (F_V_around p1 (F_St_setting 3 0 h3) 0 h3, h3)) else (some (F_V_around p1 (F_St_setting 3 0 h3) 1 h3, h3))))))))))))) else (some ((-1), h)))
def F_V_hindrance (p1 : Int) (p2 : Int) (h : MH) : Int :=
  if F_V_isPlain p1 h = 0 then (1) else (F_V_barAt (F_V_top p1 h) (F_V_end p1 h) p2 h)
def F_X_whyNot (p1 : Int) (p2 : Int) (h : MH) : Option (Int × MH) :=
  ob1 (F_X_show h) (fun (h1 : MH) => if F_V_has p1 h1 = 0 then (some ((-1), h1)) else (some (F_V_hindrance p1 p2 h1, h1)))
def F_St_laid (o : Nat) (h : MH) : Int :=
  h o 5
def F_St_leftOut (o : Nat) (h : MH) : Int :=
  h o 6
def F_Hi_size (h : MH) : Int :=
  h 17 1
def F_X_heldNumber (p1 : Int) (h : MH) : Int :=
  if p1 = 12 then (F_St_laid 3 h) else (if p1 = 13 then (F_St_leftOut 3 h) else (if p1 = 14 then (F_St_setting 3 0 h) else (if p1 = 15 then (F_St_setting 3 1 h) else (if p1 = 16 then (F_Ro_size 1 h) else (F_Hi_size h)))))
def F_V_linesOfKind (p1 : Int) (h : MH) : Option Int :=
  ob1 (F_V_linesWithin 0 (F_V_size h) p1 h) (fun (r1 : Int) => some r1)
def F_V_plainHunks_L4 (h : MH) : Nat → Int → Int → Option (Int × Int)
  | 0, _, _ => none
  | n + 1, x1, x2 => if x2 < F_V_hunks h then (jn1 (if F_V_isPlain x2 h = 0 then (0) else (1)) (fun (s2 : Int) => F_V_plainHunks_L4 h n (wr (x1 + s2)) (wr (x2 + 1)))) else (some (x1, x2))
def F_V_plainHunks (h : MH) : Option Int :=
  ob2 (F_V_plainHunks_L4 h FUEL 0 0) (fun (x1_1 : Int) (x2_2 : Int) => some x1_1)
def F_V_slidingHunks_L4 (h : MH) : Nat → Int → Int → Option (Int × Int)
  | 0, _, _ => none
  | n + 1, x1, x2 => if x2 < F_V_hunks h then (ob1 (F_V_reach x2 0 h) (fun (r2 : Int) => ob1 (F_V_reach x2 1 h) (fun (r4 : Int) => jn1 (if wr (r2 + r4) ≤ 0 then (0) else (1)) (fun (s6 : Int) => F_V_slidingHunks_L4 h n (wr (x1 + s6)) (wr (x2 + 1)))))) else (some (x1, x2))
def F_V_slidingHunks (h : MH) : Option Int :=
  ob2 (F_V_slidingHunks_L4 h FUEL 0 0) (fun (x1_1 : Int) (x2_2 : Int) => some x1_1)
def F_V_worthOfAll_L4 (h : MH) : Nat → Int → Int → Option (Int × Int)
  | 0, _, _ => none
  | n + 1, x1, x2 => if x2 < F_V_hunks h then (F_V_worthOfAll_L4 h n (wr (x1 + (F_V_worth x2 h))) (wr (x2 + 1))) else (some (x1, x2))
def F_V_worthOfAll (h : MH) : Option Int :=
  ob2 (F_V_worthOfAll_L4 h FUEL 0 0) (fun (x1_1 : Int) (x2_2 : Int) => some x1_1)
def F_V_longestKept_L6 (h : MH) : Nat → Int → Int → Int → Option (Int × Int × Int)
  | 0, _, _, _ => none
  | n + 1, x1, x2, x3 => if x3 < F_V_size h then (jn1 (if F_V_inHunk x3 h = 0 then ((wr (x2 + 1))) else (0)) (fun (s2 : Int) => F_V_longestKept_L6 h n (imax x1 s2) s2 (wr (x3 + 1)))) else (some (x1, x2, x3))
def F_V_longestKept (h : MH) : Option Int :=
  ob3 (F_V_longestKept_L6 h FUEL 0 0 0) (fun (x1_1 : Int) (x2_2 : Int) (x3_3 : Int) => some x1_1)
def F_X_shownNumber (p1 : Int) (h : MH) : Option Int :=
  if p1 = 3 then (some (F_V_size h)) else (if p1 = 4 then (ob1 (F_V_linesOfKind 0 h) (fun (r3 : Int) => some r3)) else (if p1 = 5 then (ob1 (F_V_linesOfKind 1 h) (fun (r6 : Int) => some r6)) else (if p1 = 6 then (ob1 (F_V_linesOfKind 2 h) (fun (r9 : Int) => some r9)) else (if p1 = 7 then (some (F_V_hunks h)) else (if p1 = 8 then (ob1 (F_V_plainHunks h) (fun (r13 : Int) => some r13)) else (if p1 = 9 then (ob1 (F_V_slidingHunks h) (fun (r16 : Int) => some r16)) else (if p1 = 10 then (ob1 (F_V_worthOfAll h) (fun (r19 : Int) => some r19)) else (ob1 (F_V_longestKept h) (fun (r21 : Int) => some r21)))))))))
def F_X_count (p1 : Int) (h : MH) : Option (Int × MH) :=
  if p1 < 0 then (some ((-1), h)) else (if p1 ≤ 17 then (if F_X_isText p1 = 0 then (if p1 ≤ 11 then (ob1 (F_X_show h) (fun (h5 : MH) => ob1 (F_X_shownNumber p1 h5) (fun (r7 : Int) => some (r7, h5)))) else (some (F_X_heldNumber p1 h, h))) else (some (F_Ro_size (F_St_text 3 p1) h, h))) else (some ((-1), h)))
def F_X_alike (h : MH) : Option (UInt64 × MH) :=
  if wr ((F_Ro_size (F_St_text 3 0) h) + (F_Ro_size (F_St_text 3 1) h)) = 0 then (some (FP.dconst1, h)) else (ob2 (F_C_keptOf (F_St_text 3 0) (F_St_text 3 1) h) (fun (r2 : Int) (h3 : MH) => gd (FP.ddiv (FP.i2d (Int32.ofInt (wr (2 * r2)))) (FP.i2d (Int32.ofInt (wr ((F_Ro_size (F_St_text 3 0) h) + (F_Ro_size (F_St_text 3 1) h))))) &&& 0x7fffffffffffffff ≤ 0x7ff0000000000000) (some (FP.ddiv (FP.i2d (Int32.ofInt (wr (2 * r2)))) (FP.i2d (Int32.ofInt (wr ((F_Ro_size (F_St_text 3 0) h) + (F_Ro_size (F_St_text 3 1) h))))), h3))))
def F_La_placeOf (p1 : Int) (h : MH) : Int :=
  F_Ro_at 72 p1 h
def F_La_lowerOf (p1 : Int) (h : MH) : Int :=
  F_Ro_at 74 p1 h
def F_X_ifLaid (p1 : Int) (p2 : Int) (p3 : Int) (h : MH) : Option (Int × MH) :=
  jk1 (fun (u1 : Unit) => ob1 (F_X_show h) (fun (h3 : MH) => if F_V_has p1 h3 = 0 then (some ((-1), h3)) else (ob1 (F_La_layAll (F_St_text 3 2) (F_St_setting 3 0 h3) p2 h3) (fun (h6 : MH) => if F_La_placeOf p1 h6 = (-4) then (some ((-4), h6)) else (if p3 = 0 then (some (F_La_placeOf p1 h6, h6)) else (some (wr ((F_La_lowerOf p1 h6) + 100), h6))))))) (fun kj2 => if p3 = 0 then (kj2 ()) else (if p3 = 1 then (kj2 ()) else (some ((-1), h))))
def F_Ro_isEmpty (o : Nat) (h : MH) : Int :=
  if h o 1 = 0 then (1) else (0)
def F_X_least_L27 (x1 : Nat) : Nat → Int → Int → Int → MH → Option (Int × Int × Int × MH)
  | 0, _, _, _, _ => none
  | n + 1, x2, x3, x4, h => if x4 < F_Ro_size x1 h then (ob1 (F_Ro_become 47 x1 h) (fun (h2 : MH) => ob1 (F_Ro_putOut 47 x4 h2) (fun (h4 : MH) => ob2 (F_C_apart 47 (F_St_text 3 1) h4) (fun (r6 : Int) (h7 : MH) => jn2 (if r6 < x3 then ((x4, r6)) else ((x2, x3))) (fun (x2_9 : Int) (x3_10 : Int) => F_X_least_L27 x1 n x2_9 x3_10 (wr (x4 + 1)) h7))))) else (some (x2, x3, x4, h))
def F_X_least (h : MH) : Option (Int × MH) :=
  if F_Ro_isEmpty (F_St_text 3 0) h = 0 then (ob4 (F_X_least_L27 (F_St_text 3 0) FUEL 0 29 0 h) (fun (x2_2 : Int) (x3_3 : Int) (x4_4 : Int) (h5 : MH) => some (x2_2, h5))) else (some ((-2), h))
def F_Hi_isEmpty (h : MH) : Int :=
  if h 17 1 = 0 then (1) else (0)
def F_Hi_takeBack (p1 : Nat) (h : MH) : Option MH :=
  if h 17 1 ≤ 0 then (some h) else (ob1 (F_Hi_copy (F_Hi_slot ((up h 17 1 (wr ((h 17 1) - 1))) 17 1)) (some p1) (up h 17 1 (wr ((h 17 1) - 1)))) (fun (h2 : MH) => some h2))
def F_X_undo (h : MH) : Option (Int × MH) :=
  if F_Hi_isEmpty h = 0 then (ob1 (F_Hi_takeBack 3 h) (fun (h2 : MH) => some (F_Hi_size h2, h2))) else (some ((-2), h))
def F_X_save (h : MH) : Option (Int × MH) :=
  ob1 (F_St_become 10 3 h) (fun (h1 : MH) => ob2 (F_X_distanceNow (up h1 0 3 1)) (fun (r3 : Int) (h4 : MH) => some (r3, h4)))
def F_X_restore (h : MH) : Option (Int × MH) :=
  if h 0 3 = 0 then (some ((-2), h)) else (ob1 (F_Hi_record 3 h) (fun (h2 : MH) => ob1 (F_St_become 3 10 h2) (fun (h4 : MH) => ob2 (F_X_distanceNow h4) (fun (r6 : Int) (h7 : MH) => some (r6, h7)))))
def F_L_low (p1 : Int) (p2 : Int) : Option Int :=
  gd (¬ p2 = 0) (some (remv (andv p1 2147483647) p2))
def F_L_isView_L25 (x7 : Int) : Nat → Int → Int → Int → Int → Int → Int → Int → MH → Option (Sum (Int × MH) (Int × Int × Int × Int × Int × Int × Int × MH))
  | 0, _, _, _, _, _, _, _, _ => none
  | n + 1, x1, x2, x3, x4, x5, x6, x8, h => if x8 < x7 then (if x8 < 28 then (ob2 (F_X_view x8 0 h) (fun (r3 : Int) (h4 : MH) => ob2 (F_X_view x8 1 h4) (fun (r6 : Int) (h7 : MH) => jk2 (fun (s11 : Int) (h12 : MH) => jn1 (if s11 = 0 then (0) else (1)) (fun (s14 : Int) => jk2 (fun (s19 : Int) (h20 : MH) => if s19 = 0 then (some (Sum.inl (0, h20))) else (jk1 (fun (h23 : MH) => jn1 (if r3 = 2 then (0) else (1)) (fun (s25 : Int) => jn1 (if r3 = 1 then (0) else (1)) (fun (s28 : Int) => jn1 (if r3 = 0 then (1) else (0)) (fun (s31 : Int) => jn1 (if r3 = 0 then ((wr (x4 + 1))) else (0)) (fun (s34 : Int) => jn1 (if s34 ≤ x5 then (x5) else (s34)) (fun (s37 : Int) => F_L_isView_L25 x7 n (wr (x1 + s25)) (wr (x2 + s28)) (wr (x3 + s31)) s34 s37 (wr (x6 + s14)) (wr (x8 + 1)) h23)))))) (fun kj24 => if s11 = 0 then (kj24 h20) else (ob2 (F_X_hunk (wr (x6 + s14)) 0 h20) (fun (r47 : Int) (h48 : MH) => if r47 = x8 then (kj24 h48) else (some (Sum.inl (0, h48)))))))) (fun kj21 => jk1 (fun (h17 : MH) => kj21 0 h17) (fun kj18 => if r3 < 0 then (kj18 h12) else (if r3 < 3 then (ob2 (F_X_view x8 2 h12) (fun (r55 : Int) (h56 : MH) => jn1 (if r3 = 2 then ((-4)) else (x1)) (fun (s58 : Int) => if r55 = s58 then (ob2 (F_X_view x8 3 h56) (fun (r62 : Int) (h63 : MH) => jn1 (if r3 = 1 then ((-4)) else (x2)) (fun (s65 : Int) => if r62 = s65 then (ob2 (F_X_view x8 4 h63) (fun (r69 : Int) (h70 : MH) => jn1 (if r3 = 0 then ((-4)) else ((wr (x6 + s14)))) (fun (s72 : Int) => if r69 = s72 then (jk1 (fun (u76 : Unit) => jk1 (fun (u78 : Unit) => kj21 1 h70) (fun kj79 => if r3 = 1 then (kj79 ()) else (if F_X_line 1 x2 h70 = r6 then (kj79 ()) else (kj18 h70)))) (fun kj77 => if r3 = 2 then (kj77 ()) else (if F_X_line 0 x1 h70 = r6 then (kj77 ()) else (kj18 h70)))) else (kj18 h70)))) else (kj18 h63)))) else (kj18 h56)))) else (kj18 h12)))))) (fun kj13 => jk1 (fun (h9 : MH) => kj13 0 h9) (fun kj10 => if r3 ≤ 0 then (kj10 h7) else (jk1 (fun (h93 : MH) => kj13 1 h93) (fun kj94 => if x8 = 0 then (kj94 h7) else (ob2 (F_X_view (wr (x8 - 1)) 0 h7) (fun (r97 : Int) (h98 : MH) => if r97 = 0 then (kj94 h98) else (kj10 h98)))))))))) else (some (Sum.inr (x1, x2, x3, x4, x5, x6, x8, h)))) else (some (Sum.inr (x1, x2, x3, x4, x5, x6, x8, h)))
def F_L_isView (h : MH) : Option (Int × MH) :=
  ob2 (F_X_count 3 h) (fun (r1 : Int) (h2 : MH) => os (F_L_isView_L25 r1 FUEL 0 0 0 0 0 (-1) 0 h2) (fun (a : Int × MH) => some a) (fun (q13 : Int × Int × Int × Int × Int × Int × Int × MH) => ob2 (F_X_count 0 q13.2.2.2.2.2.2.2) (fun (r17 : Int) (h18 : MH) => jk2 (fun (s22 : Int) (h23 : MH) => if s22 = 0 then (some (0, h23)) else (ob2 (F_X_distance 0 h23) (fun (r26 : Int) (h27 : MH) => if r26 = wr (r1 - q13.2.2.1) then (ob2 (F_X_distance 1 h27) (fun (r30 : Int) (h31 : MH) => if r30 = wr (r1 - q13.2.2.1) then (ob2 (F_X_view r1 0 h31) (fun (r34 : Int) (h35 : MH) => if r34 = (-4) then (ob2 (F_X_alike h35) (fun (r38 : UInt64) (h39 : MH) => jk1 (fun (s41 : UInt64) => if (Op.cmpValue (FP.dcmp r38 s41) .l).toInt = 0 then (some (1, h39)) else (some (0, h39))) (fun kj42 => if wr (q13.1 + q13.2.1) = 0 then (kj42 FP.dconst1) else (gd (FP.dmul (FP.i2d (Int32.ofInt (wr (2 * q13.2.2.1)))) FP.dconst1 &&& 0x7fffffffffffffff ≤ 0x7ff0000000000000) (gd (FP.ddiv (FP.dmul (FP.i2d (Int32.ofInt (wr (2 * q13.2.2.1)))) FP.dconst1) (FP.i2d (Int32.ofInt (wr (q13.1 + q13.2.1)))) &&& 0x7fffffffffffffff ≤ 0x7ff0000000000000) (kj42 (FP.ddiv (FP.dmul (FP.i2d (Int32.ofInt (wr (2 * q13.2.2.1)))) FP.dconst1) (FP.i2d (Int32.ofInt (wr (q13.1 + q13.2.1))))))))))) else (some (0, h35)))) else (some (0, h31)))) else (some (0, h27))))) (fun kj24 => jk1 (fun (h20 : MH) => kj24 0 h20) (fun kj21 => if q13.1 = r17 then (ob2 (F_X_count 1 h18) (fun (r51 : Int) (h52 : MH) => if q13.2.1 = r51 then (ob2 (F_X_count 4 h52) (fun (r55 : Int) (h56 : MH) => if q13.2.2.1 = r55 then (ob2 (F_X_count 5 h56) (fun (r59 : Int) (h60 : MH) => if wr (r1 - q13.2.1) = r59 then (ob2 (F_X_count 6 h60) (fun (r63 : Int) (h64 : MH) => if wr (r1 - q13.1) = r63 then (ob2 (F_X_count 7 h64) (fun (r67 : Int) (h68 : MH) => if wr (q13.2.2.2.2.2.1 + 1) = r67 then (ob2 (F_X_count 11 h68) (fun (r71 : Int) (h72 : MH) => if q13.2.2.2.2.1 = r71 then (kj24 1 h72) else (kj21 h72))) else (kj21 h68))) else (kj21 h64))) else (kj21 h60))) else (kj21 h56))) else (kj21 h52))) else (kj21 h18))))))
def F_L_isHunk_L184 (x1 : Int) (x2 : Int) (x5 : Int) (x8 : Int) : Nat → Int → Int → MH → Option (Sum (Int × MH) (Int × Int × MH))
  | 0, _, _, _ => none
  | n + 1, x9, x10, h => if x10 ≤ wr (x2 + x8) then (if x10 < 28 then (jk2 (fun (s3 : Int) (h4 : MH) => ob2 (F_X_view (wr ((wr (x10 + x5)) - 1)) 1 h4) (fun (r6 : Int) (h7 : MH) => jk2 (fun (s11 : Int) (h12 : MH) => jn1 (if r6 = 6 then (2) else (0)) (fun (s14 : Int) => ob2 (F_X_view x10 1 h12) (fun (r17 : Int) (h18 : MH) => jn1 (if r17 = 7 then (1) else (0)) (fun (s20 : Int) => jn1 (if r6 = 8 then (3) else (0)) (fun (s23 : Int) => jn1 (if wr ((wr ((wr (s11 + s14)) + s20)) + s23) ≤ x9 then (x9) else ((wr ((wr ((wr (s11 + s14)) + s20)) + s23)))) (fun (s26 : Int) => if s3 = 0 then (some (Sum.inl (0, h18))) else (jk1 (fun (h30 : MH) => F_L_isHunk_L184 x1 x2 x5 x8 n s26 (wr (x10 + 1)) h30) (fun kj31 => if x10 = x2 then (ob2 (F_X_hunk x1 6 h18) (fun (r34 : Int) (h35 : MH) => if r34 = wr ((wr ((wr (s11 + s14)) + s20)) + s23) then (kj31 h35) else (some (Sum.inl (0, h35))))) else (kj31 h18))))))))) (fun kj13 => jk1 (fun (h9 : MH) => kj13 4 h9) (fun kj10 => if x10 = 0 then (kj10 h7) else (ob2 (F_X_view (wr (x10 - 1)) 1 h7) (fun (r45 : Int) (h46 : MH) => if r45 = 6 then (kj10 h46) else (kj13 0 h46))))))) (fun kj5 => if x10 < x2 then (ob2 (F_X_view x10 0 h) (fun (r51 : Int) (h52 : MH) => jk1 (fun (h54 : MH) => kj5 0 h54) (fun kj55 => if r51 = 0 then (ob2 (F_X_view x10 1 h52) (fun (r58 : Int) (h59 : MH) => ob2 (F_X_view (wr (x10 + x5)) 1 h59) (fun (r61 : Int) (h62 : MH) => if r58 = r61 then (kj5 1 h62) else (kj55 h62)))) else (kj55 h52)))) else (jk1 (fun (h65 : MH) => kj5 1 h65) (fun kj66 => if x10 = x2 then (kj66 h) else (ob2 (F_X_view (wr ((wr (x10 + x5)) - 1)) 0 h) (fun (r69 : Int) (h70 : MH) => jk1 (fun (h72 : MH) => kj5 0 h72) (fun kj73 => if r69 = 0 then (ob2 (F_X_view (wr ((wr (x10 + x5)) - 1)) 1 h70) (fun (r76 : Int) (h77 : MH) => ob2 (F_X_view (wr (x10 - 1)) 1 h77) (fun (r79 : Int) (h80 : MH) => if r76 = r79 then (kj66 h80) else (kj73 h80)))) else (kj73 h70)))))))) else (some (Sum.inr (x9, x10, h)))) else (some (Sum.inr (x9, x10, h)))
def F_L_isHunk_L495 (x2 : Int) (x10 : Int) : Nat → Int → Int → MH → Option (Int × Int × MH)
  | 0, _, _, _ => none
  | n + 1, x12, x13, h => if x13 ≤ 3 then (if x12 = 0 then (some (x12, x13, h)) else (jn1 (if x13 ≤ x10 then (1) else (0)) (fun (s3 : Int) => ob2 (F_X_count 14 h) (fun (r6 : Int) (h7 : MH) => jk2 (fun (s11 : Int) (h12 : MH) => jn1 (if s3 = s11 then (1) else (0)) (fun (s14 : Int) => F_L_isHunk_L495 x2 x10 n s14 (wr (x13 + 1)) h12)) (fun kj13 => jk1 (fun (h9 : MH) => kj13 0 h9) (fun kj10 => if x13 ≤ r6 then (if x13 ≤ x2 then (ob2 (F_X_view (wr (x2 - x13)) 0 h7) (fun (r22 : Int) (h23 : MH) => if r22 = 0 then (jk1 (fun (u26 : Unit) => kj13 1 h23) (fun kj27 => if x13 = 1 then (kj27 ()) else (if wr (x13 - 1) ≤ x10 then (kj27 ()) else (kj10 h23)))) else (kj10 h23))) else (kj10 h7)) else (kj10 h7))))))) else (some (x12, x13, h))
def F_L_isHunk (p2 : Int) (h : MH) : Option (Int × MH) :=
  ob2 (F_X_hunk p2 0 h) (fun (r1 : Int) (h2 : MH) => ob2 (F_X_hunk p2 1 h2) (fun (r4 : Int) (h5 : MH) => ob2 (F_X_hunk p2 2 h5) (fun (r7 : Int) (h8 : MH) => jk1 (fun (s12 : Int) => ob2 (F_X_hunk p2 4 h8) (fun (r14 : Int) (h15 : MH) => ob2 (F_X_hunk p2 5 h15) (fun (r17 : Int) (h18 : MH) => if wr (r4 + r7) < 1 then (some (0, h18)) else (ob2 (F_X_hunk p2 3 h18) (fun (r21 : Int) (h22 : MH) => jn1 (if r21 = 1 then (1) else (0)) (fun (s24 : Int) => if s24 = s12 then (if r14 < 0 then (some (0, h22)) else (if r17 < 0 then (some (0, h22)) else (ob2 (F_X_whyNot p2 0 h22) (fun (r30 : Int) (h31 : MH) => jn1 (if r30 = 0 then (1) else (0)) (fun (s33 : Int) => jn1 (if r14 ≤ 0 then (0) else (1)) (fun (s36 : Int) => if s33 = s36 then (ob2 (F_X_whyNot p2 1 h31) (fun (r40 : Int) (h41 : MH) => jn1 (if r40 = 0 then (1) else (0)) (fun (s43 : Int) => jn1 (if r17 ≤ 0 then (0) else (1)) (fun (s46 : Int) => if s43 = s46 then (jk1 (fun (h50 : MH) => os (F_L_isHunk_L184 p2 r1 (wr (r4 + r7)) r17 FUEL (-1) (wr (r1 - r14)) h50) (fun (a : Int × MH) => some a) (fun (q56 : Int × Int × MH) => ob2 (F_X_hunk p2 8 q56.2.2) (fun (r60 : Int) (h61 : MH) => ob2 (F_X_hunk p2 9 h61) (fun (r63 : Int) (h64 : MH) => ob2 (F_X_hunk p2 7 h64) (fun (r66 : Int) (h67 : MH) => jk2 (fun (s71 : Int) (h72 : MH) => ob3 (F_L_isHunk_L495 r1 r60 FUEL s71 1 h72) (fun (x12_74 : Int) (x13_75 : Int) (h76 : MH) => gd (x12_74 = 0 ∨ x12_74 = 1) (some (x12_74, h76)))) (fun kj73 => jk1 (fun (h69 : MH) => kj73 0 h69) (fun kj70 => if r66 = q56.1 then (ob2 (F_X_count 14 h67) (fun (r82 : Int) (h83 : MH) => if r60 ≤ r82 then (ob2 (F_X_count 14 h83) (fun (r86 : Int) (h87 : MH) => if r63 ≤ r86 then (if r60 ≤ r1 then (kj73 1 h87) else (kj70 h87)) else (kj70 h87))) else (kj70 h83))) else (kj70 h67)))))))) (fun kj51 => if s12 = 0 then (if wr (r14 + r17) ≤ 0 then (ob2 (F_X_whyNot p2 1 h41) (fun (r94 : Int) (h95 : MH) => if r94 = 1 then (kj51 h95) else (some (0, h95)))) else (some (0, h41))) else (kj51 h41))) else (some (0, h41)))))) else (some (0, h31)))))))) else (some (0, h22)))))))) (fun kj13 => jk1 (fun (u10 : Unit) => kj13 1) (fun kj11 => if r4 = 0 then (kj11 ()) else (if r7 = 0 then (kj11 ()) else (kj13 0)))))))
def F_L_isLaid_L58 (x1 : Int) (x2 : Int) (x3 : Int) (x4 : Int) (x5 : Int) (x6 : Int) (x7 : Int) (x8 : Int) : Nat → Int → MH → Option (Int × MH)
  | 0, _, _ => none
  | n + 1, x9, h => if x9 < 14 then (ob2 (F_X_count 2 h) (fun (r2 : Int) (h3 : MH) => if r2 ≤ 0 then (some (x9, h3)) else (ob2 (F_X_edit 2 0 20 h3) (fun (r6 : Int) (h7 : MH) => F_L_isLaid_L58 x1 x2 x3 x4 x5 x6 x7 x8 n (wr (x9 + 1)) h7)))) else (some (x9, h))
def F_L_isLaid_L92 (x1 : Int) (x2 : Int) (x3 : Int) (x4 : Int) (x5 : Int) (x6 : Int) (x7 : Int) (x8 : Int) : Nat → Int → MH → Option (Int × MH)
  | 0, _, _ => none
  | n + 1, x9, h => if x9 < x4 then (ob2 (F_X_edit 2 x9 (F_X_line x3 x9 h) h) (fun (r2 : Int) (h3 : MH) => F_L_isLaid_L92 x1 x2 x3 x4 x5 x6 x7 x8 n (wr (x9 + 1)) h3)) else (some (x9, h))
def F_L_isLaid_L141 (x1 : Int) (x2 : Int) (x3 : Int) (x5 : Int) (x6 : Int) (x7 : Int) (x8 : Int) : Nat → Int → Int → MH → Option (Int × Int × MH)
  | 0, _, _, _ => none
  | n + 1, x9, x10, h => if x10 < x2 then (if x10 < 28 then (jk2 (fun (s5 : Int) (h6 : MH) => F_L_isLaid_L141 x1 x2 x3 x5 x6 x7 x8 n s5 (wr (x10 + 1)) h6) (fun kj7 => jk1 (fun (h3 : MH) => kj7 0 h3) (fun kj4 => if x9 = 0 then (kj4 h) else (ob2 (F_X_ifLaid x10 x1 1 h) (fun (r11 : Int) (h12 : MH) => if r11 = 100 then (kj7 1 h12) else (kj4 h12)))))) else (some (x9, x10, h))) else (some (x9, x10, h))
def F_L_isLaid_L285 (x3 : Int) (x5 : Int) (x6 : Int) (x8 : Int) (h : MH) : Nat → Int → Int → Option (Int × Int)
  | 0, _, _ => none
  | n + 1, x9, x11 => if x11 < x5 then (if x9 = 0 then (some (x9, x11)) else (jn1 (if F_X_line 2 x11 h = F_X_line (wr (1 - x3)) x11 h then (1) else (0)) (fun (s3 : Int) => F_L_isLaid_L285 x3 x5 x6 x8 h n s3 (wr (x11 + 1))))) else (some (x9, x11))
def F_L_isLaid (p2 : Int) (h : MH) : Option (Int × MH) :=
  ob2 (F_X_count 7 h) (fun (r1 : Int) (h2 : MH) => jn1 (if p2 = 0 then (0) else (1)) (fun (s4 : Int) => ob2 (F_X_count s4 h2) (fun (r7 : Int) (h8 : MH) => ob2 (F_X_count (wr (1 - s4)) h8) (fun (r10 : Int) (h11 : MH) => ob2 (F_X_count 12 h11) (fun (r13 : Int) (h14 : MH) => ob2 (F_X_count 13 h14) (fun (r16 : Int) (h17 : MH) => ob2 (F_X_save h17) (fun (r19 : Int) (h20 : MH) => ob2 (F_L_isLaid_L58 p2 r1 s4 r7 r10 r13 r16 r19 FUEL 0 h20) (fun (x9_22 : Int) (h23 : MH) => ob2 (F_L_isLaid_L92 p2 r1 s4 r7 r10 r13 r16 r19 FUEL 0 h23) (fun (x9_25 : Int) (h26 : MH) => ob2 (F_X_count 2 h26) (fun (r28 : Int) (h29 : MH) => jn1 (if r28 = r7 then (1) else (0)) (fun (s31 : Int) => ob3 (F_L_isLaid_L141 p2 r1 s4 r10 r13 r16 r19 FUEL s31 0 h29) (fun (x9_34 : Int) (x10_35 : Int) (h36 : MH) => ob2 (F_X_lay p2 h36) (fun (r38 : Int) (h39 : MH) => if r38 = (-3) then (if x9_34 = 0 then (some (0, h39)) else (ob2 (F_X_restore h39) (fun (r43 : Int) (h44 : MH) => if r43 = r19 then (ob2 (F_X_count 12 h44) (fun (r47 : Int) (h48 : MH) => if r47 = r13 then (some (1, h48)) else (some (0, h48)))) else (some (0, h44))))) else (jk2 (fun (s53 : Int) (h54 : MH) => ob2 (F_L_isLaid_L285 s4 r10 r13 r19 h54 FUEL s53 0) (fun (x9_56 : Int) (x11_57 : Int) => if x9_56 = 0 then (some (0, h54)) else (ob2 (F_X_restore h54) (fun (r60 : Int) (h61 : MH) => if r60 = r19 then (ob2 (F_X_count 12 h61) (fun (r64 : Int) (h65 : MH) => if r64 = r13 then (some (1, h65)) else (some (0, h65)))) else (some (0, h61)))))) (fun kj55 => jk1 (fun (h51 : MH) => kj55 0 h51) (fun kj52 => if x9_34 = 0 then (kj52 h39) else (if r38 = r1 then (ob2 (F_X_count 12 h39) (fun (r72 : Int) (h73 : MH) => if r72 = wr (r13 + r1) then (ob2 (F_X_count 13 h73) (fun (r76 : Int) (h77 : MH) => if r76 = r16 then (ob2 (F_X_count 2 h77) (fun (r80 : Int) (h81 : MH) => if r80 = r10 then (kj55 1 h81) else (kj52 h81))) else (kj52 h77))) else (kj52 h73))) else (kj52 h39))))))))))))))))))
def F_L_isLeast_L36 (x1 : Int) (x2 : Int) : Nat → Int → Int → Int → MH → Option (Sum (Int × MH) (Int × Int × Int × MH))
  | 0, _, _, _, _ => none
  | n + 1, x3, x4, x5, h => if x5 < x1 then (if x5 < 14 then (ob2 (F_X_edit 0 x5 20 h) (fun (r3 : Int) (h4 : MH) => ob2 (F_X_distance 0 h4) (fun (r6 : Int) (h7 : MH) => jn1 (if r6 < x4 then (x5) else (x3)) (fun (s9 : Int) => jn1 (if r6 < x4 then (r6) else (x4)) (fun (s12 : Int) => if r3 = wr (x1 - 1) then (ob2 (F_X_undo h7) (fun (r16 : Int) (h17 : MH) => if r16 < 0 then (some (Sum.inl (0, h17))) else (F_L_isLeast_L36 x1 x2 n s9 s12 (wr (x5 + 1)) h17))) else (some (Sum.inl (0, h7)))))))) else (some (Sum.inr (x3, x4, x5, h)))) else (some (Sum.inr (x3, x4, x5, h)))
def F_L_isLeast (h : MH) : Option (Int × MH) :=
  ob2 (F_X_count 0 h) (fun (r1 : Int) (h2 : MH) => ob2 (F_X_least h2) (fun (r4 : Int) (h5 : MH) => if r1 = 0 then (if r4 = (-2) then (some (1, h5)) else (some (0, h5))) else (os (F_L_isLeast_L36 r1 r4 FUEL (-1) 99 0 h5) (fun (a : Int × MH) => some a) (fun (q14 : Int × Int × Int × MH) => if r4 = q14.1 then (ob2 (F_X_count 0 q14.2.2.2) (fun (r19 : Int) (h20 : MH) => if r19 = r1 then (some (1, h20)) else (some (0, h20)))) else (some (0, q14.2.2.2))))))
def F_L_does (p2 : Int) (h : MH) : Option (Int × MH) :=
  ob1 (F_L_low (shrv p2 4) 3) (fun (r1 : Int) => ob2 (F_X_count r1 h) (fun (r3 : Int) (h4 : MH) => ob1 (F_L_low p2 12) (fun (r6 : Int) => if r6 = 0 then (jn1 (if andv (shrv p2 4) 1 = 0 then ((andv (shrv p2 5) 3)) else ((andv (shrv p2 5) 1))) (fun (s9 : Int) => ob2 (F_X_count (wr (14 + (andv (shrv p2 4) 1))) h4) (fun (r12 : Int) (h13 : MH) => ob2 (F_X_set (andv (shrv p2 4) 1) s9 h13) (fun (r15 : Int) (h16 : MH) => if r15 = r12 then (ob2 (F_X_count (wr (14 + (andv (shrv p2 4) 1))) h16) (fun (r19 : Int) (h20 : MH) => if r19 = s9 then (some (1, h20)) else (some (0, h20)))) else (some (0, h16)))))) else (if r6 = 1 then (ob2 (F_X_count (remv (wr ((wr (r1 + 1)) + (andv (shrv p2 6) 1))) 3) h4) (fun (r25 : Int) (h26 : MH) => ob2 (F_X_swap r1 (remv (wr ((wr (r1 + 1)) + (andv (shrv p2 6) 1))) 3) h26) (fun (r28 : Int) (h29 : MH) => ob2 (F_X_distance 0 h29) (fun (r31 : Int) (h32 : MH) => if r28 = r31 then (ob2 (F_X_count r1 h32) (fun (r35 : Int) (h36 : MH) => if r35 = r25 then (ob2 (F_X_count (remv (wr ((wr (r1 + 1)) + (andv (shrv p2 6) 1))) 3) h36) (fun (r39 : Int) (h40 : MH) => if r39 = r3 then (some (1, h40)) else (some (0, h40)))) else (some (0, h36)))) else (some (0, h32)))))) else (if r6 = 2 then (ob1 (F_L_low (shrv p2 6) (wr (r3 + 1))) (fun (r44 : Int) => ob2 (F_X_edit r1 r44 20 h4) (fun (r46 : Int) (h47 : MH) => jn1 (if r44 = r3 then ((-1)) else ((wr (r3 - 1)))) (fun (s49 : Int) => if r46 = s49 then (some (1, h47)) else (some (0, h47)))))) else (if r6 = 3 then (ob1 (F_L_low (shrv p2 6) (wr (r3 + 1))) (fun (r55 : Int) => jn1 (if andv (shrv p2 14) 1 = 0 then (9) else (3)) (fun (s57 : Int) => ob1 (F_L_low (shrv p2 10) s57) (fun (r60 : Int) => ob2 (F_X_edit r1 r55 (wr (10 + r60)) h4) (fun (r62 : Int) (h63 : MH) => jn1 (if r55 = r3 then ((-1)) else (r3)) (fun (s65 : Int) => if r62 = s65 then (if r55 = r3 then (some (1, h63)) else (if F_X_line r1 r55 h63 = r60 then (some (1, h63)) else (some (0, h63)))) else (some (0, h63)))))))) else (if r6 = 4 then (ob1 (F_L_low (shrv p2 6) (wr (r3 + 1))) (fun (r74 : Int) => jn1 (if andv (shrv p2 14) 1 = 0 then (9) else (3)) (fun (s76 : Int) => ob1 (F_L_low (shrv p2 10) s76) (fun (r79 : Int) => ob2 (F_X_edit r1 r74 (wr (10 + r79)) h4) (fun (r81 : Int) (h82 : MH) => jn1 (if r74 = r3 then ((-1)) else (r3)) (fun (s84 : Int) => if r81 = s84 then (if r74 = r3 then (some (1, h82)) else (if F_X_line r1 r74 h82 = r79 then (some (1, h82)) else (some (0, h82)))) else (some (0, h82)))))))) else (if r6 = 5 then (ob2 (F_X_count 7 h4) (fun (r93 : Int) (h94 : MH) => ob2 (F_X_count 12 h94) (fun (r96 : Int) (h97 : MH) => ob2 (F_X_count 13 h97) (fun (r99 : Int) (h100 : MH) => jn1 (if andv (shrv p2 4) 1 = 1 then (1) else (0)) (fun (s102 : Int) => ob2 (F_X_lay s102 h100) (fun (r105 : Int) (h106 : MH) => if r105 = (-3) then (some (1, h106)) else (if r105 < 0 then (some (0, h106)) else (ob2 (F_X_count 12 h106) (fun (r110 : Int) (h111 : MH) => if r110 = wr (r96 + r105) then (ob2 (F_X_count 13 h111) (fun (r114 : Int) (h115 : MH) => if r114 = wr ((wr (r99 + r93)) - r105) then (ob2 (F_X_count 2 h115) (fun (r118 : Int) (h119 : MH) => if r118 < 15 then (some (1, h119)) else (some (0, h119)))) else (some (0, h115)))) else (some (0, h111))))))))))) else (ob1 (F_L_low (shrv p2 6) (wr (r3 + 1))) (fun (r123 : Int) => jn1 (if andv (shrv p2 14) 1 = 0 then (9) else (3)) (fun (s125 : Int) => ob1 (F_L_low (shrv p2 10) s125) (fun (r128 : Int) => jn1 (if andv (shrv p2 15) 3 = 0 then ((wr (6 + (remv r128 3)))) else (r128)) (fun (s130 : Int) => ob2 (F_X_edit r1 r123 s130 h4) (fun (r133 : Int) (h134 : MH) => jn1 (if r3 = 14 then ((-3)) else ((wr (r3 + 1)))) (fun (s136 : Int) => if r133 = s136 then (if r3 = 14 then (some (1, h134)) else (if F_X_line r1 r123 h134 = s130 then (some (1, h134)) else (some (0, h134)))) else (some (0, h134)))))))))))))))))
theorem kd_St_text {o : Nat} {p1 : Int} (ks : kd o = 6) : kd (F_St_text o p1) = 5 := by
  unfold F_St_text
  split
  · exact kt_6_0 ks
  · split
    · exact kt_6_1 ks
    · exact kt_6_2 ks
theorem kd_Hi_slot (p1 : Int) : ∀ i, F_Hi_slot p1 = some i → kd i = 6 := by
  intro i hi
  unfold F_Hi_slot at hi
  by_cases h0 : p1 < 0
  · rw [if_pos h0] at hi; cases hi
  · rw [if_neg h0] at hi
    by_cases h1 : p1 < 4
    · rw [if_pos h1] at hi
      cases hi
      have key : ∀ n, n < 4 → kd (rf 18 n) = 6 := by decide
      exact key _ (by omega)
    · rw [if_neg h1] at hi; cases hi

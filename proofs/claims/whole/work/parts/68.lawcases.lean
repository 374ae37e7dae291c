/-! ===== the law: its calls, case by case ===== -/
def sc (xs : Nat → Int32) (j : Nat) : Int := (xs j).toInt
def bo (a : Int) : Int := if a = 0 then 0 else 1
def andv (x y : Int) : Int := (Int32.ofInt x &&& Int32.ofInt y).toInt
/-- what the script and the end obey -/
def LRules (n : Nat) (xs : Nat → Int32) (K : KT) : Prop :=
  (∀ (pc : Nat) (L : ML) (st : List MV) (h : MH), dk code pc .arraylength 1 = true → K (pc + 1) L (vI (n : Int) :: st) h → K pc L (vR 100 :: st) h) ∧
  (∀ (pc : Nat) (L : ML) (st : List MV) (h : MH) (j : Int), 0 ≤ j ∧ j < (n : Int) → dk code pc .iaload 1 = true → K (pc + 1) L (vI (xs j.toNat).toInt :: st) h → K pc L (vI j :: vR 100 :: st) h) ∧
  (∀ (pc : Nat) (L : ML) (st : List MV) (h : MH) (x y : Int), dk code pc .iand 1 = true → K (pc + 1) L (vI (andv x y) :: st) h → K pc L (vI y :: vI x :: st) h) ∧
  (∀ (pc : Nat) (L : ML) (h : MH), dk code pc .ireturn 1 = true → K pc L [vI 1] h)
theorem l_bool {K : KT} (hK : Rules RL code 8 ret fl0 11 K) (p0 p1 p2 p3 : Nat) {L : ML} {st : List MV} {h : MH} {a : Int} (d1 : dk code p0 (.ifCond .eq 7) 3 = true) (s1 : sits code p1 [.iconst 1] = true) (d3 : dk code (p1 + 1) (.goto 4) 3 = true) (s2 : sits code p2 [.iconst 0] = true) (q1 : p1 = p0 + 3) (q2 : p2 = p0 + 7) (q3 : p3 = p0 + 8) (k : K p3 L (vI (bo a) :: st) h) : K p0 L (vI a :: st) h := by
  refine g_ifz hK p0 .eq 7 p2 (t1 := p2) (t2 := p1) d1 (by omega) rfl (by rw [q1]; rfl) (fun (c : a = 0) => ?_) (fun (c : ¬ a = 0) => ?_)
  · refine g_seg hK [.iconst 0] p2 p3 (L1 := L) (st1 := vI 0 :: st) (h1 := h) (P := True ∧ True) s2 rfl (by show p2 + 1 = p3; omega) ⟨trivial, trivial⟩ ?_
    unfold bo at k
    rw [if_pos c] at k
    exact k
  · refine g_seg hK [.iconst 1] p1 (p1 + 1) (L1 := L) (st1 := vI 1 :: st) (h1 := h) (P := True ∧ True) s1 rfl rfl ⟨trivial, trivial⟩ ?_
    refine g_goto hK (p1 + 1) 4 p3 d3 (by omega) ?_
    unfold bo at k
    rw [if_neg c] at k
    exact k
set_option maxRecDepth 100000 in
theorem ml_X6_append : MY yX6_append cX6_append 2 (Option.some Jvm.ClassFile.FieldType.int) 1 := ⟨(tb_in 243 (by decide +kernel) (by decide +kernel)), (tb_in 52 (by decide +kernel) (by decide +kernel)), ⟨by decide +kernel, by decide +kernel, by decide +kernel⟩, by decide⟩
set_option maxRecDepth 100000 in
theorem vl_13 : VW RL 13 yX6_append := ⟨(tb_in 240 (by decide +kernel) (by decide +kernel)), (tb_in 241 (by decide +kernel) (by decide +kernel)), (tb_in 242 (by decide +kernel) (by decide +kernel))⟩
set_option maxRecDepth 100000 in
theorem ml_X7_append : MY yX7_append cX7_append 2 (Option.some Jvm.ClassFile.FieldType.int) 1 := ⟨(tb_in 839 (by decide +kernel) (by decide +kernel)), (tb_in 59 (by decide +kernel) (by decide +kernel)), ⟨by decide +kernel, by decide +kernel, by decide +kernel⟩, by decide⟩
set_option maxRecDepth 100000 in
theorem vl_17 : VW RL 17 yX7_append := ⟨(tb_in 836 (by decide +kernel) (by decide +kernel)), (tb_in 837 (by decide +kernel) (by decide +kernel)), (tb_in 838 (by decide +kernel) (by decide +kernel))⟩
set_option maxRecDepth 100000 in
theorem ml_X6_clear : MY yX6_clear cX6_clear 2 (Option.some Jvm.ClassFile.FieldType.int) 0 := ⟨(tb_in 255 (by decide +kernel) (by decide +kernel)), (tb_in 52 (by decide +kernel) (by decide +kernel)), ⟨by decide +kernel, by decide +kernel, by decide +kernel⟩, by decide⟩
set_option maxRecDepth 100000 in
theorem vl_18 : VW RL 18 yX6_clear := ⟨(tb_in 252 (by decide +kernel) (by decide +kernel)), (tb_in 253 (by decide +kernel) (by decide +kernel)), (tb_in 254 (by decide +kernel) (by decide +kernel))⟩
set_option maxRecDepth 100000 in
theorem ml_X7_clear : MY yX7_clear cX7_clear 2 (Option.some Jvm.ClassFile.FieldType.int) 0 := ⟨(tb_in 846 (by decide +kernel) (by decide +kernel)), (tb_in 59 (by decide +kernel) (by decide +kernel)), ⟨by decide +kernel, by decide +kernel, by decide +kernel⟩, by decide⟩
set_option maxRecDepth 100000 in
theorem vl_22 : VW RL 22 yX7_clear := ⟨(tb_in 843 (by decide +kernel) (by decide +kernel)), (tb_in 844 (by decide +kernel) (by decide +kernel)), (tb_in 845 (by decide +kernel) (by decide +kernel))⟩
set_option maxRecDepth 100000 in
theorem ml_X6_fault : MY yX6_fault cX6_fault 2 (Option.some Jvm.ClassFile.FieldType.int) 0 := ⟨(tb_in 263 (by decide +kernel) (by decide +kernel)), (tb_in 52 (by decide +kernel) (by decide +kernel)), ⟨by decide +kernel, by decide +kernel, by decide +kernel⟩, by decide⟩
set_option maxRecDepth 100000 in
theorem vl_23 : VW RL 23 yX6_fault := ⟨(tb_in 260 (by decide +kernel) (by decide +kernel)), (tb_in 261 (by decide +kernel) (by decide +kernel)), (tb_in 262 (by decide +kernel) (by decide +kernel))⟩
set_option maxRecDepth 100000 in
theorem ml_X7_fault : MY yX7_fault cX7_fault 2 (Option.some Jvm.ClassFile.FieldType.int) 0 := ⟨(tb_in 850 (by decide +kernel) (by decide +kernel)), (tb_in 59 (by decide +kernel) (by decide +kernel)), ⟨by decide +kernel, by decide +kernel, by decide +kernel⟩, by decide⟩
set_option maxRecDepth 100000 in
theorem vl_26 : VW RL 26 yX7_fault := ⟨(tb_in 847 (by decide +kernel) (by decide +kernel)), (tb_in 848 (by decide +kernel) (by decide +kernel)), (tb_in 849 (by decide +kernel) (by decide +kernel))⟩
set_option maxRecDepth 100000 in
theorem ml_X6_load : MY yX6_load cX6_load 4 (Option.some Jvm.ClassFile.FieldType.int) 1 := ⟨(tb_in 363 (by decide +kernel) (by decide +kernel)), (tb_in 52 (by decide +kernel) (by decide +kernel)), ⟨by decide +kernel, by decide +kernel, by decide +kernel⟩, by decide⟩
set_option maxRecDepth 100000 in
theorem vl_27 : VW RL 27 yX6_load := ⟨(tb_in 360 (by decide +kernel) (by decide +kernel)), (tb_in 361 (by decide +kernel) (by decide +kernel)), (tb_in 362 (by decide +kernel) (by decide +kernel))⟩
set_option maxRecDepth 100000 in
theorem ml_X7_load : MY yX7_load cX7_load 3 (Option.some Jvm.ClassFile.FieldType.int) 1 := ⟨(tb_in 857 (by decide +kernel) (by decide +kernel)), (tb_in 59 (by decide +kernel) (by decide +kernel)), ⟨by decide +kernel, by decide +kernel, by decide +kernel⟩, by decide⟩
set_option maxRecDepth 100000 in
theorem vl_30 : VW RL 30 yX7_load := ⟨(tb_in 854 (by decide +kernel) (by decide +kernel)), (tb_in 855 (by decide +kernel) (by decide +kernel)), (tb_in 856 (by decide +kernel) (by decide +kernel))⟩
set_option maxRecDepth 100000 in
theorem ml_X6_edit : MY yX6_edit cX6_edit 7 (Option.some Jvm.ClassFile.FieldType.int) 3 := ⟨(tb_in 402 (by decide +kernel) (by decide +kernel)), (tb_in 52 (by decide +kernel) (by decide +kernel)), ⟨by decide +kernel, by decide +kernel, by decide +kernel⟩, by decide⟩
set_option maxRecDepth 100000 in
theorem vl_31 : VW RL 31 yX6_edit := ⟨(tb_in 399 (by decide +kernel) (by decide +kernel)), (tb_in 400 (by decide +kernel) (by decide +kernel)), (tb_in 401 (by decide +kernel) (by decide +kernel))⟩
set_option maxRecDepth 100000 in
theorem ml_X7_edit : MY yX7_edit cX7_edit 8 (Option.some Jvm.ClassFile.FieldType.int) 3 := ⟨(tb_in 870 (by decide +kernel) (by decide +kernel)), (tb_in 59 (by decide +kernel) (by decide +kernel)), ⟨by decide +kernel, by decide +kernel, by decide +kernel⟩, by decide⟩
set_option maxRecDepth 100000 in
theorem vl_35 : VW RL 35 yX7_edit := ⟨(tb_in 867 (by decide +kernel) (by decide +kernel)), (tb_in 868 (by decide +kernel) (by decide +kernel)), (tb_in 869 (by decide +kernel) (by decide +kernel))⟩
set_option maxRecDepth 100000 in
theorem ml_X6_swap : MY yX6_swap cX6_swap 3 (Option.some Jvm.ClassFile.FieldType.int) 2 := ⟨(tb_in 423 (by decide +kernel) (by decide +kernel)), (tb_in 52 (by decide +kernel) (by decide +kernel)), ⟨by decide +kernel, by decide +kernel, by decide +kernel⟩, by decide⟩
set_option maxRecDepth 100000 in
theorem vl_36 : VW RL 36 yX6_swap := ⟨(tb_in 420 (by decide +kernel) (by decide +kernel)), (tb_in 421 (by decide +kernel) (by decide +kernel)), (tb_in 422 (by decide +kernel) (by decide +kernel))⟩
set_option maxRecDepth 100000 in
theorem ml_X7_swap : MY yX7_swap cX7_swap 5 (Option.some Jvm.ClassFile.FieldType.int) 2 := ⟨(tb_in 874 (by decide +kernel) (by decide +kernel)), (tb_in 59 (by decide +kernel) (by decide +kernel)), ⟨by decide +kernel, by decide +kernel, by decide +kernel⟩, by decide⟩
set_option maxRecDepth 100000 in
theorem vl_40 : VW RL 40 yX7_swap := ⟨(tb_in 871 (by decide +kernel) (by decide +kernel)), (tb_in 872 (by decide +kernel) (by decide +kernel)), (tb_in 873 (by decide +kernel) (by decide +kernel))⟩
set_option maxRecDepth 100000 in
theorem ml_X6_set : MY yX6_set cX6_set 4 (Option.some Jvm.ClassFile.FieldType.int) 2 := ⟨(tb_in 456 (by decide +kernel) (by decide +kernel)), (tb_in 52 (by decide +kernel) (by decide +kernel)), ⟨by decide +kernel, by decide +kernel, by decide +kernel⟩, by decide⟩
set_option maxRecDepth 100000 in
theorem vl_41 : VW RL 41 yX6_set := ⟨(tb_in 453 (by decide +kernel) (by decide +kernel)), (tb_in 454 (by decide +kernel) (by decide +kernel)), (tb_in 455 (by decide +kernel) (by decide +kernel))⟩
set_option maxRecDepth 100000 in
theorem ml_X7_set : MY yX7_set cX7_set 4 (Option.some Jvm.ClassFile.FieldType.int) 2 := ⟨(tb_in 894 (by decide +kernel) (by decide +kernel)), (tb_in 59 (by decide +kernel) (by decide +kernel)), ⟨by decide +kernel, by decide +kernel, by decide +kernel⟩, by decide⟩
set_option maxRecDepth 100000 in
theorem vl_44 : VW RL 44 yX7_set := ⟨(tb_in 891 (by decide +kernel) (by decide +kernel)), (tb_in 892 (by decide +kernel) (by decide +kernel)), (tb_in 893 (by decide +kernel) (by decide +kernel))⟩
set_option maxRecDepth 100000 in
theorem ml_X6_lay : MY yX6_lay cX6_lay 2 (Option.some Jvm.ClassFile.FieldType.int) 1 := ⟨(tb_in 468 (by decide +kernel) (by decide +kernel)), (tb_in 52 (by decide +kernel) (by decide +kernel)), ⟨by decide +kernel, by decide +kernel, by decide +kernel⟩, by decide⟩
set_option maxRecDepth 100000 in
theorem vl_45 : VW RL 45 yX6_lay := ⟨(tb_in 465 (by decide +kernel) (by decide +kernel)), (tb_in 466 (by decide +kernel) (by decide +kernel)), (tb_in 467 (by decide +kernel) (by decide +kernel))⟩
set_option maxRecDepth 100000 in
theorem ml_X7_lay : MY yX7_lay cX7_lay 4 (Option.some Jvm.ClassFile.FieldType.int) 1 := ⟨(tb_in 898 (by decide +kernel) (by decide +kernel)), (tb_in 59 (by decide +kernel) (by decide +kernel)), ⟨by decide +kernel, by decide +kernel, by decide +kernel⟩, by decide⟩
set_option maxRecDepth 100000 in
theorem vl_49 : VW RL 49 yX7_lay := ⟨(tb_in 895 (by decide +kernel) (by decide +kernel)), (tb_in 896 (by decide +kernel) (by decide +kernel)), (tb_in 897 (by decide +kernel) (by decide +kernel))⟩
set_option maxRecDepth 100000 in
theorem ml_X6_line : MY yX6_line cX6_line 4 (Option.some Jvm.ClassFile.FieldType.int) 2 := ⟨(tb_in 627 (by decide +kernel) (by decide +kernel)), (tb_in 52 (by decide +kernel) (by decide +kernel)), ⟨by decide +kernel, by decide +kernel, by decide +kernel⟩, by decide⟩
set_option maxRecDepth 100000 in
theorem vl_50 : VW RL 50 yX6_line := ⟨(tb_in 624 (by decide +kernel) (by decide +kernel)), (tb_in 625 (by decide +kernel) (by decide +kernel)), (tb_in 626 (by decide +kernel) (by decide +kernel))⟩
set_option maxRecDepth 100000 in
theorem ml_X7_line : MY yX7_line cX7_line 3 (Option.some Jvm.ClassFile.FieldType.int) 2 := ⟨(tb_in 978 (by decide +kernel) (by decide +kernel)), (tb_in 59 (by decide +kernel) (by decide +kernel)), ⟨by decide +kernel, by decide +kernel, by decide +kernel⟩, by decide⟩
set_option maxRecDepth 100000 in
theorem vl_53 : VW RL 53 yX7_line := ⟨(tb_in 975 (by decide +kernel) (by decide +kernel)), (tb_in 976 (by decide +kernel) (by decide +kernel)), (tb_in 977 (by decide +kernel) (by decide +kernel))⟩
set_option maxRecDepth 100000 in
theorem ml_X6_distance : MY yX6_distance cX6_distance 2 (Option.some Jvm.ClassFile.FieldType.int) 1 := ⟨(tb_in 631 (by decide +kernel) (by decide +kernel)), (tb_in 52 (by decide +kernel) (by decide +kernel)), ⟨by decide +kernel, by decide +kernel, by decide +kernel⟩, by decide⟩
set_option maxRecDepth 100000 in
theorem vl_54 : VW RL 54 yX6_distance := ⟨(tb_in 628 (by decide +kernel) (by decide +kernel)), (tb_in 629 (by decide +kernel) (by decide +kernel)), (tb_in 630 (by decide +kernel) (by decide +kernel))⟩
set_option maxRecDepth 100000 in
theorem ml_X7_distance : MY yX7_distance cX7_distance 2 (Option.some Jvm.ClassFile.FieldType.int) 1 := ⟨(tb_in 982 (by decide +kernel) (by decide +kernel)), (tb_in 59 (by decide +kernel) (by decide +kernel)), ⟨by decide +kernel, by decide +kernel, by decide +kernel⟩, by decide⟩
set_option maxRecDepth 100000 in
theorem vl_57 : VW RL 57 yX7_distance := ⟨(tb_in 979 (by decide +kernel) (by decide +kernel)), (tb_in 980 (by decide +kernel) (by decide +kernel)), (tb_in 981 (by decide +kernel) (by decide +kernel))⟩
set_option maxRecDepth 100000 in
theorem ml_X6_view : MY yX6_view cX6_view 3 (Option.some Jvm.ClassFile.FieldType.int) 2 := ⟨(tb_in 646 (by decide +kernel) (by decide +kernel)), (tb_in 52 (by decide +kernel) (by decide +kernel)), ⟨by decide +kernel, by decide +kernel, by decide +kernel⟩, by decide⟩
set_option maxRecDepth 100000 in
theorem vl_58 : VW RL 58 yX6_view := ⟨(tb_in 643 (by decide +kernel) (by decide +kernel)), (tb_in 644 (by decide +kernel) (by decide +kernel)), (tb_in 645 (by decide +kernel) (by decide +kernel))⟩
set_option maxRecDepth 100000 in
theorem ml_X7_view : MY yX7_view cX7_view 3 (Option.some Jvm.ClassFile.FieldType.int) 2 := ⟨(tb_in 990 (by decide +kernel) (by decide +kernel)), (tb_in 59 (by decide +kernel) (by decide +kernel)), ⟨by decide +kernel, by decide +kernel, by decide +kernel⟩, by decide⟩
set_option maxRecDepth 100000 in
theorem vl_61 : VW RL 61 yX7_view := ⟨(tb_in 987 (by decide +kernel) (by decide +kernel)), (tb_in 988 (by decide +kernel) (by decide +kernel)), (tb_in 989 (by decide +kernel) (by decide +kernel))⟩
set_option maxRecDepth 100000 in
theorem ml_X6_hunk : MY yX6_hunk cX6_hunk 3 (Option.some Jvm.ClassFile.FieldType.int) 2 := ⟨(tb_in 659 (by decide +kernel) (by decide +kernel)), (tb_in 52 (by decide +kernel) (by decide +kernel)), ⟨by decide +kernel, by decide +kernel, by decide +kernel⟩, by decide⟩
set_option maxRecDepth 100000 in
theorem vl_62 : VW RL 62 yX6_hunk := ⟨(tb_in 656 (by decide +kernel) (by decide +kernel)), (tb_in 657 (by decide +kernel) (by decide +kernel)), (tb_in 658 (by decide +kernel) (by decide +kernel))⟩
set_option maxRecDepth 100000 in
theorem ml_X7_hunk : MY yX7_hunk cX7_hunk 4 (Option.some Jvm.ClassFile.FieldType.int) 2 := ⟨(tb_in 998 (by decide +kernel) (by decide +kernel)), (tb_in 59 (by decide +kernel) (by decide +kernel)), ⟨by decide +kernel, by decide +kernel, by decide +kernel⟩, by decide⟩
set_option maxRecDepth 100000 in
theorem vl_65 : VW RL 65 yX7_hunk := ⟨(tb_in 995 (by decide +kernel) (by decide +kernel)), (tb_in 996 (by decide +kernel) (by decide +kernel)), (tb_in 997 (by decide +kernel) (by decide +kernel))⟩
set_option maxRecDepth 100000 in
theorem ml_X6_whyNot : MY yX6_whyNot cX6_whyNot 3 (Option.some Jvm.ClassFile.FieldType.int) 2 := ⟨(tb_in 677 (by decide +kernel) (by decide +kernel)), (tb_in 52 (by decide +kernel) (by decide +kernel)), ⟨by decide +kernel, by decide +kernel, by decide +kernel⟩, by decide⟩
set_option maxRecDepth 100000 in
theorem vl_66 : VW RL 66 yX6_whyNot := ⟨(tb_in 674 (by decide +kernel) (by decide +kernel)), (tb_in 675 (by decide +kernel) (by decide +kernel)), (tb_in 676 (by decide +kernel) (by decide +kernel))⟩
set_option maxRecDepth 100000 in
theorem ml_X7_whyNot : MY yX7_whyNot cX7_whyNot 4 (Option.some Jvm.ClassFile.FieldType.int) 2 := ⟨(tb_in 1002 (by decide +kernel) (by decide +kernel)), (tb_in 59 (by decide +kernel) (by decide +kernel)), ⟨by decide +kernel, by decide +kernel, by decide +kernel⟩, by decide⟩
set_option maxRecDepth 100000 in
theorem vl_70 : VW RL 70 yX7_whyNot := ⟨(tb_in 999 (by decide +kernel) (by decide +kernel)), (tb_in 1000 (by decide +kernel) (by decide +kernel)), (tb_in 1001 (by decide +kernel) (by decide +kernel))⟩
set_option maxRecDepth 100000 in
theorem ml_X6_count : MY yX6_count cX6_count 2 (Option.some Jvm.ClassFile.FieldType.int) 1 := ⟨(tb_in 685 (by decide +kernel) (by decide +kernel)), (tb_in 52 (by decide +kernel) (by decide +kernel)), ⟨by decide +kernel, by decide +kernel, by decide +kernel⟩, by decide⟩
set_option maxRecDepth 100000 in
theorem vl_71 : VW RL 71 yX6_count := ⟨(tb_in 682 (by decide +kernel) (by decide +kernel)), (tb_in 683 (by decide +kernel) (by decide +kernel)), (tb_in 684 (by decide +kernel) (by decide +kernel))⟩
set_option maxRecDepth 100000 in
theorem ml_X7_count : MY yX7_count cX7_count 2 (Option.some Jvm.ClassFile.FieldType.int) 1 := ⟨(tb_in 1006 (by decide +kernel) (by decide +kernel)), (tb_in 59 (by decide +kernel) (by decide +kernel)), ⟨by decide +kernel, by decide +kernel, by decide +kernel⟩, by decide⟩
set_option maxRecDepth 100000 in
theorem vl_74 : VW RL 74 yX7_count := ⟨(tb_in 1003 (by decide +kernel) (by decide +kernel)), (tb_in 1004 (by decide +kernel) (by decide +kernel)), (tb_in 1005 (by decide +kernel) (by decide +kernel))⟩
set_option maxRecDepth 100000 in
theorem ml_X6_ifLaid : MY yX6_ifLaid cX6_ifLaid 5 (Option.some Jvm.ClassFile.FieldType.int) 3 := ⟨(tb_in 736 (by decide +kernel) (by decide +kernel)), (tb_in 52 (by decide +kernel) (by decide +kernel)), ⟨by decide +kernel, by decide +kernel, by decide +kernel⟩, by decide⟩
set_option maxRecDepth 100000 in
theorem vl_80 : VW RL 80 yX6_ifLaid := ⟨(tb_in 733 (by decide +kernel) (by decide +kernel)), (tb_in 734 (by decide +kernel) (by decide +kernel)), (tb_in 735 (by decide +kernel) (by decide +kernel))⟩
set_option maxRecDepth 100000 in
theorem ml_X7_ifLaid : MY yX7_ifLaid cX7_ifLaid 5 (Option.some Jvm.ClassFile.FieldType.int) 3 := ⟨(tb_in 1026 (by decide +kernel) (by decide +kernel)), (tb_in 59 (by decide +kernel) (by decide +kernel)), ⟨by decide +kernel, by decide +kernel, by decide +kernel⟩, by decide⟩
set_option maxRecDepth 100000 in
theorem vl_84 : VW RL 84 yX7_ifLaid := ⟨(tb_in 1023 (by decide +kernel) (by decide +kernel)), (tb_in 1024 (by decide +kernel) (by decide +kernel)), (tb_in 1025 (by decide +kernel) (by decide +kernel))⟩
set_option maxRecDepth 100000 in
theorem ml_X6_ifAround : MY yX6_ifAround cX6_ifAround 2 (Option.some Jvm.ClassFile.FieldType.int) 1 := ⟨(tb_in 748 (by decide +kernel) (by decide +kernel)), (tb_in 52 (by decide +kernel) (by decide +kernel)), ⟨by decide +kernel, by decide +kernel, by decide +kernel⟩, by decide⟩
set_option maxRecDepth 100000 in
theorem vl_85 : VW RL 85 yX6_ifAround := ⟨(tb_in 745 (by decide +kernel) (by decide +kernel)), (tb_in 746 (by decide +kernel) (by decide +kernel)), (tb_in 747 (by decide +kernel) (by decide +kernel))⟩
set_option maxRecDepth 100000 in
theorem ml_X7_ifAround : MY yX7_ifAround cX7_ifAround 2 (Option.some Jvm.ClassFile.FieldType.int) 1 := ⟨(tb_in 1030 (by decide +kernel) (by decide +kernel)), (tb_in 59 (by decide +kernel) (by decide +kernel)), ⟨by decide +kernel, by decide +kernel, by decide +kernel⟩, by decide⟩
set_option maxRecDepth 100000 in
theorem vl_88 : VW RL 88 yX7_ifAround := ⟨(tb_in 1027 (by decide +kernel) (by decide +kernel)), (tb_in 1028 (by decide +kernel) (by decide +kernel)), (tb_in 1029 (by decide +kernel) (by decide +kernel))⟩
set_option maxRecDepth 100000 in
theorem ml_X6_least : MY yX6_least cX6_least 6 (Option.some Jvm.ClassFile.FieldType.int) 0 := ⟨(tb_in 752 (by decide +kernel) (by decide +kernel)), (tb_in 52 (by decide +kernel) (by decide +kernel)), ⟨by decide +kernel, by decide +kernel, by decide +kernel⟩, by decide⟩
set_option maxRecDepth 100000 in
theorem vl_89 : VW RL 89 yX6_least := ⟨(tb_in 749 (by decide +kernel) (by decide +kernel)), (tb_in 750 (by decide +kernel) (by decide +kernel)), (tb_in 751 (by decide +kernel) (by decide +kernel))⟩
set_option maxRecDepth 100000 in
theorem ml_X7_least : MY yX7_least cX7_least 6 (Option.some Jvm.ClassFile.FieldType.int) 0 := ⟨(tb_in 1034 (by decide +kernel) (by decide +kernel)), (tb_in 59 (by decide +kernel) (by decide +kernel)), ⟨by decide +kernel, by decide +kernel, by decide +kernel⟩, by decide⟩
set_option maxRecDepth 100000 in
theorem vl_92 : VW RL 92 yX7_least := ⟨(tb_in 1031 (by decide +kernel) (by decide +kernel)), (tb_in 1032 (by decide +kernel) (by decide +kernel)), (tb_in 1033 (by decide +kernel) (by decide +kernel))⟩
set_option maxRecDepth 100000 in
theorem ml_X6_undo : MY yX6_undo cX6_undo 1 (Option.some Jvm.ClassFile.FieldType.int) 0 := ⟨(tb_in 760 (by decide +kernel) (by decide +kernel)), (tb_in 52 (by decide +kernel) (by decide +kernel)), ⟨by decide +kernel, by decide +kernel, by decide +kernel⟩, by decide⟩
set_option maxRecDepth 100000 in
theorem vl_93 : VW RL 93 yX6_undo := ⟨(tb_in 757 (by decide +kernel) (by decide +kernel)), (tb_in 758 (by decide +kernel) (by decide +kernel)), (tb_in 759 (by decide +kernel) (by decide +kernel))⟩
set_option maxRecDepth 100000 in
theorem ml_X7_undo : MY yX7_undo cX7_undo 2 (Option.some Jvm.ClassFile.FieldType.int) 0 := ⟨(tb_in 1038 (by decide +kernel) (by decide +kernel)), (tb_in 59 (by decide +kernel) (by decide +kernel)), ⟨by decide +kernel, by decide +kernel, by decide +kernel⟩, by decide⟩
set_option maxRecDepth 100000 in
theorem vl_96 : VW RL 96 yX7_undo := ⟨(tb_in 1035 (by decide +kernel) (by decide +kernel)), (tb_in 1036 (by decide +kernel) (by decide +kernel)), (tb_in 1037 (by decide +kernel) (by decide +kernel))⟩
set_option maxRecDepth 100000 in
theorem ml_X6_save : MY yX6_save cX6_save 1 (Option.some Jvm.ClassFile.FieldType.int) 0 := ⟨(tb_in 772 (by decide +kernel) (by decide +kernel)), (tb_in 52 (by decide +kernel) (by decide +kernel)), ⟨by decide +kernel, by decide +kernel, by decide +kernel⟩, by decide⟩
set_option maxRecDepth 100000 in
theorem vl_97 : VW RL 97 yX6_save := ⟨(tb_in 769 (by decide +kernel) (by decide +kernel)), (tb_in 770 (by decide +kernel) (by decide +kernel)), (tb_in 771 (by decide +kernel) (by decide +kernel))⟩
set_option maxRecDepth 100000 in
theorem ml_X7_save : MY yX7_save cX7_save 2 (Option.some Jvm.ClassFile.FieldType.int) 0 := ⟨(tb_in 1042 (by decide +kernel) (by decide +kernel)), (tb_in 59 (by decide +kernel) (by decide +kernel)), ⟨by decide +kernel, by decide +kernel, by decide +kernel⟩, by decide⟩
set_option maxRecDepth 100000 in
theorem vl_100 : VW RL 100 yX7_save := ⟨(tb_in 1039 (by decide +kernel) (by decide +kernel)), (tb_in 1040 (by decide +kernel) (by decide +kernel)), (tb_in 1041 (by decide +kernel) (by decide +kernel))⟩
set_option maxRecDepth 100000 in
theorem ml_X6_restore : MY yX6_restore cX6_restore 1 (Option.some Jvm.ClassFile.FieldType.int) 0 := ⟨(tb_in 777 (by decide +kernel) (by decide +kernel)), (tb_in 52 (by decide +kernel) (by decide +kernel)), ⟨by decide +kernel, by decide +kernel, by decide +kernel⟩, by decide⟩
set_option maxRecDepth 100000 in
theorem vl_101 : VW RL 101 yX6_restore := ⟨(tb_in 774 (by decide +kernel) (by decide +kernel)), (tb_in 775 (by decide +kernel) (by decide +kernel)), (tb_in 776 (by decide +kernel) (by decide +kernel))⟩
set_option maxRecDepth 100000 in
theorem ml_X7_restore : MY yX7_restore cX7_restore 2 (Option.some Jvm.ClassFile.FieldType.int) 0 := ⟨(tb_in 1046 (by decide +kernel) (by decide +kernel)), (tb_in 59 (by decide +kernel) (by decide +kernel)), ⟨by decide +kernel, by decide +kernel, by decide +kernel⟩, by decide⟩
set_option maxRecDepth 100000 in
theorem vl_104 : VW RL 104 yX7_restore := ⟨(tb_in 1043 (by decide +kernel) (by decide +kernel)), (tb_in 1044 (by decide +kernel) (by decide +kernel)), (tb_in 1045 (by decide +kernel) (by decide +kernel))⟩
set_option maxRecDepth 100000 in
theorem ml_X6_alike : MY yX6_alike cX6_alike 3 (Option.some Jvm.ClassFile.FieldType.double) 0 := ⟨(tb_in 731 (by decide +kernel) (by decide +kernel)), (tb_in 52 (by decide +kernel) (by decide +kernel)), ⟨by decide +kernel, by decide +kernel, by decide +kernel⟩, by decide⟩
set_option maxRecDepth 100000 in
theorem vl_75 : VW RL 75 yX6_alike := ⟨(tb_in 728 (by decide +kernel) (by decide +kernel)), (tb_in 729 (by decide +kernel) (by decide +kernel)), (tb_in 730 (by decide +kernel) (by decide +kernel))⟩
set_option maxRecDepth 100000 in
theorem ml_X7_alike : MY yX7_alike cX7_alike 3 (Option.some Jvm.ClassFile.FieldType.double) 0 := ⟨(tb_in 1022 (by decide +kernel) (by decide +kernel)), (tb_in 59 (by decide +kernel) (by decide +kernel)), ⟨by decide +kernel, by decide +kernel, by decide +kernel⟩, by decide⟩
set_option maxRecDepth 100000 in
theorem vl_79 : VW RL 79 yX7_alike := ⟨(tb_in 1019 (by decide +kernel) (by decide +kernel)), (tb_in 1020 (by decide +kernel) (by decide +kernel)), (tb_in 1021 (by decide +kernel) (by decide +kernel))⟩
set_option maxHeartbeats 4000000 in
set_option maxRecDepth 100000 in
theorem LC_append {K : KT} (hK : Rules RL code 8 ret fl0 11 K) {n : Nat} {xs : Nat → Int32} (hL : LRules n xs K) {i : Nat} (hi : i + 4 ≤ n) (hn : n ≤ 2048) {h : MH} (I : LINV h) (hE : ∀ h, LINV h → K 721 [(0, vR 100), (1, vR 0), (2, vR 76), (3, vI (i : Int))] [] h) : K 132 [(0, vR 100), (1, vR 0), (2, vR 76), (3, vI (i : Int))] [] h := by
  have w1 : wr ((i : Int) + 1) = ((i + 1 : Nat) : Int) := by rw [wr_id (by omega)]; omega
  have w2 : wr ((i : Int) + 2) = ((i + 2 : Nat) : Int) := by rw [wr_id (by omega)]; omega
  have w3 : wr ((i : Int) + 3) = ((i + 3 : Nat) : Int) := by rw [wr_id (by omega)]; omega
  have b1 : 0 ≤ ((i + 1 : Nat) : Int) ∧ ((i + 1 : Nat) : Int) < (n : Int) := by omega
  have b2 : 0 ≤ ((i + 2 : Nat) : Int) ∧ ((i + 2 : Nat) : Int) < (n : Int) := by omega
  have b3 : 0 ≤ ((i + 3 : Nat) : Int) ∧ ((i + 3 : Nat) : Int) < (n : Int) := by omega
  have n1 : (xs (((i + 1 : Nat) : Int)).toNat).toInt = sc xs (i + 1) := rfl
  have n2 : (xs (((i + 2 : Nat) : Int)).toNat).toInt = sc xs (i + 2) := rfl
  have n3 : (xs (((i + 3 : Nat) : Int)).toNat).toInt = sc xs (i + 3) := rfl
  obtain ⟨r, h1, h2, e1, e2, I2⟩ := both_append I ((sc xs (i + 1)))
  have e1 := Option.some.inj e1
  refine g_seg hK [.aload_n 1, .aload_n 0, .iload_n 3, .iconst 1, .iadd] 132 137 (L1 := [(0, vR 100), (1, vR 0), (2, vR 76), (3, vI (i : Int))]) (st1 := [vI (wr ((i : Int) + 1)), vR 100, vR 0]) (h1 := _) (P := True ∧ True ∧ True ∧ True ∧ True ∧ True) (by decide +kernel) rfl rfl ⟨trivial, trivial, trivial, trivial, trivial, trivial⟩ ?_
  rw [w1]
  refine hL.2.1 137 _ _ _ _ b1 (by decide +kernel) ?_
  rw [n1]
  refine g_callV1 hK 138 13 (d1 := 1) (ci := 6) (i := 0) (vs := [vI (sc xs (i + 1))]) (rest := []) (h1 := h1) (r := vI r) ml_X6_append vl_13 (by decide) (T_X_append (hF := e1)) rfl rfl rfl (Nat.le_of_ble_eq_true rfl) (by decide +kernel) ?_
  refine g_seg hK [.aload_n 2, .aload_n 0, .iload_n 3, .iconst 1, .iadd] 141 146 (L1 := [(0, vR 100), (1, vR 0), (2, vR 76), (3, vI (i : Int))]) (st1 := [vI (wr ((i : Int) + 1)), vR 100, vR 76, vI r]) (h1 := _) (P := True ∧ True ∧ True ∧ True ∧ True ∧ True) (by decide +kernel) rfl rfl ⟨trivial, trivial, trivial, trivial, trivial, trivial⟩ ?_
  rw [w1]
  refine hL.2.1 146 _ _ _ _ b1 (by decide +kernel) ?_
  rw [n1]
  refine g_callV1 hK 147 17 (d1 := 1) (ci := 7) (i := 76) (vs := [vI (sc xs (i + 1))]) (rest := [vI r]) (h1 := h2) (r := vI r) ml_X7_append vl_17 (by decide) (T_M_append (hF := e2)) rfl rfl rfl (Nat.le_of_ble_eq_true rfl) (by decide +kernel) ?_
  refine g_icmp hK 150 .eq (571) 721 (t1 := 721) (t2 := 153) (by decide +kernel) (by decide) rfl rfl (fun _ => ?_) (fun (q : ¬ r = r) => absurd rfl q)
  exact hE h2 I2
set_option maxHeartbeats 4000000 in
set_option maxRecDepth 100000 in
theorem LC_clear {K : KT} (hK : Rules RL code 8 ret fl0 11 K) {n : Nat} {xs : Nat → Int32} (hL : LRules n xs K) {i : Nat} (hi : i + 4 ≤ n) (hn : n ≤ 2048) {h : MH} (I : LINV h) (hE : ∀ h, LINV h → K 721 [(0, vR 100), (1, vR 0), (2, vR 76), (3, vI (i : Int))] [] h) : K 155 [(0, vR 100), (1, vR 0), (2, vR 76), (3, vI (i : Int))] [] h := by
  have w1 : wr ((i : Int) + 1) = ((i + 1 : Nat) : Int) := by rw [wr_id (by omega)]; omega
  have w2 : wr ((i : Int) + 2) = ((i + 2 : Nat) : Int) := by rw [wr_id (by omega)]; omega
  have w3 : wr ((i : Int) + 3) = ((i + 3 : Nat) : Int) := by rw [wr_id (by omega)]; omega
  have b1 : 0 ≤ ((i + 1 : Nat) : Int) ∧ ((i + 1 : Nat) : Int) < (n : Int) := by omega
  have b2 : 0 ≤ ((i + 2 : Nat) : Int) ∧ ((i + 2 : Nat) : Int) < (n : Int) := by omega
  have b3 : 0 ≤ ((i + 3 : Nat) : Int) ∧ ((i + 3 : Nat) : Int) < (n : Int) := by omega
  have n1 : (xs (((i + 1 : Nat) : Int)).toNat).toInt = sc xs (i + 1) := rfl
  have n2 : (xs (((i + 2 : Nat) : Int)).toNat).toInt = sc xs (i + 2) := rfl
  have n3 : (xs (((i + 3 : Nat) : Int)).toNat).toInt = sc xs (i + 3) := rfl
  obtain ⟨r, h1, h2, e1, e2, I2⟩ := both_clear I 
  have e1 := Option.some.inj e1
  have e2 := Option.some.inj e2
  refine g_seg hK [.aload_n 1] 155 156 (L1 := [(0, vR 100), (1, vR 0), (2, vR 76), (3, vI (i : Int))]) (st1 := [vR 0]) (h1 := _) (P := True ∧ True) (by decide +kernel) rfl rfl ⟨trivial, trivial⟩ ?_
  refine g_callV1 hK 156 18 (d1 := 1) (ci := 6) (i := 0) (vs := []) (rest := []) (h1 := h1) (r := vI r) ml_X6_clear vl_18 (by decide) (T_X_clear (hF := e1)) rfl rfl rfl (Nat.le_of_ble_eq_true rfl) (by decide +kernel) ?_
  refine g_seg hK [.aload_n 2] 159 160 (L1 := [(0, vR 100), (1, vR 0), (2, vR 76), (3, vI (i : Int))]) (st1 := [vR 76, vI r]) (h1 := _) (P := True ∧ True) (by decide +kernel) rfl rfl ⟨trivial, trivial⟩ ?_
  refine g_callV1 hK 160 22 (d1 := 0) (ci := 7) (i := 76) (vs := []) (rest := [vI r]) (h1 := h2) (r := vI r) ml_X7_clear vl_22 (by decide) (T_M_clear (hF := e2)) rfl rfl rfl (Nat.le_of_ble_eq_true rfl) (by decide +kernel) ?_
  refine g_icmp hK 163 .eq (558) 721 (t1 := 721) (t2 := 166) (by decide +kernel) (by decide) rfl rfl (fun _ => ?_) (fun (q : ¬ r = r) => absurd rfl q)
  exact hE h2 I2
set_option maxHeartbeats 4000000 in
set_option maxRecDepth 100000 in
theorem LC_fault {K : KT} (hK : Rules RL code 8 ret fl0 11 K) {n : Nat} {xs : Nat → Int32} (hL : LRules n xs K) {i : Nat} (hi : i + 4 ≤ n) (hn : n ≤ 2048) {h : MH} (I : LINV h) (hE : ∀ h, LINV h → K 721 [(0, vR 100), (1, vR 0), (2, vR 76), (3, vI (i : Int))] [] h) : K 168 [(0, vR 100), (1, vR 0), (2, vR 76), (3, vI (i : Int))] [] h := by
  have w1 : wr ((i : Int) + 1) = ((i + 1 : Nat) : Int) := by rw [wr_id (by omega)]; omega
  have w2 : wr ((i : Int) + 2) = ((i + 2 : Nat) : Int) := by rw [wr_id (by omega)]; omega
  have w3 : wr ((i : Int) + 3) = ((i + 3 : Nat) : Int) := by rw [wr_id (by omega)]; omega
  have b1 : 0 ≤ ((i + 1 : Nat) : Int) ∧ ((i + 1 : Nat) : Int) < (n : Int) := by omega
  have b2 : 0 ≤ ((i + 2 : Nat) : Int) ∧ ((i + 2 : Nat) : Int) < (n : Int) := by omega
  have b3 : 0 ≤ ((i + 3 : Nat) : Int) ∧ ((i + 3 : Nat) : Int) < (n : Int) := by omega
  have n1 : (xs (((i + 1 : Nat) : Int)).toNat).toInt = sc xs (i + 1) := rfl
  have n2 : (xs (((i + 2 : Nat) : Int)).toNat).toInt = sc xs (i + 2) := rfl
  have n3 : (xs (((i + 3 : Nat) : Int)).toNat).toInt = sc xs (i + 3) := rfl
  obtain ⟨r, e1, e2⟩ := both_fault I
  refine g_seg hK [.aload_n 1] 168 169 (L1 := [(0, vR 100), (1, vR 0), (2, vR 76), (3, vI (i : Int))]) (st1 := [vR 0]) (h1 := _) (P := True ∧ True) (by decide +kernel) rfl rfl ⟨trivial, trivial⟩ ?_
  refine g_callV1 hK 169 23 (d1 := 5) (ci := 6) (i := 0) (vs := []) (rest := []) (h1 := h) (r := vI r) ml_X6_fault vl_23 (by decide) (T_X_fault (hF := e1)) rfl rfl rfl (Nat.le_of_ble_eq_true rfl) (by decide +kernel) ?_
  refine g_seg hK [.aload_n 2] 172 173 (L1 := [(0, vR 100), (1, vR 0), (2, vR 76), (3, vI (i : Int))]) (st1 := [vR 76, vI r]) (h1 := _) (P := True ∧ True) (by decide +kernel) rfl rfl ⟨trivial, trivial⟩ ?_
  refine g_callV1 hK 173 26 (d1 := 2) (ci := 7) (i := 76) (vs := []) (rest := [vI r]) (h1 := h) (r := vI r) ml_X7_fault vl_26 (by decide) (T_M_fault (hF := e2)) rfl rfl rfl (Nat.le_of_ble_eq_true rfl) (by decide +kernel) ?_
  refine g_icmp hK 176 .eq (545) 721 (t1 := 721) (t2 := 179) (by decide +kernel) (by decide) rfl rfl (fun _ => ?_) (fun (q : ¬ r = r) => absurd rfl q)
  exact hE h I
set_option maxHeartbeats 4000000 in
set_option maxRecDepth 100000 in
theorem LC_load {K : KT} (hK : Rules RL code 8 ret fl0 11 K) {n : Nat} {xs : Nat → Int32} (hL : LRules n xs K) {i : Nat} (hi : i + 4 ≤ n) (hn : n ≤ 2048) {h : MH} (I : LINV h) (hE : ∀ h, LINV h → K 721 [(0, vR 100), (1, vR 0), (2, vR 76), (3, vI (i : Int))] [] h) : K 181 [(0, vR 100), (1, vR 0), (2, vR 76), (3, vI (i : Int))] [] h := by
  have w1 : wr ((i : Int) + 1) = ((i + 1 : Nat) : Int) := by rw [wr_id (by omega)]; omega
  have w2 : wr ((i : Int) + 2) = ((i + 2 : Nat) : Int) := by rw [wr_id (by omega)]; omega
  have w3 : wr ((i : Int) + 3) = ((i + 3 : Nat) : Int) := by rw [wr_id (by omega)]; omega
  have b1 : 0 ≤ ((i + 1 : Nat) : Int) ∧ ((i + 1 : Nat) : Int) < (n : Int) := by omega
  have b2 : 0 ≤ ((i + 2 : Nat) : Int) ∧ ((i + 2 : Nat) : Int) < (n : Int) := by omega
  have b3 : 0 ≤ ((i + 3 : Nat) : Int) ∧ ((i + 3 : Nat) : Int) < (n : Int) := by omega
  have n1 : (xs (((i + 1 : Nat) : Int)).toNat).toInt = sc xs (i + 1) := rfl
  have n2 : (xs (((i + 2 : Nat) : Int)).toNat).toInt = sc xs (i + 2) := rfl
  have n3 : (xs (((i + 3 : Nat) : Int)).toNat).toInt = sc xs (i + 3) := rfl
  obtain ⟨r, h1, h2, e1, e2, I2⟩ := both_load I ((sc xs (i + 1)))
  refine g_seg hK [.aload_n 1, .aload_n 0, .iload_n 3, .iconst 1, .iadd] 181 186 (L1 := [(0, vR 100), (1, vR 0), (2, vR 76), (3, vI (i : Int))]) (st1 := [vI (wr ((i : Int) + 1)), vR 100, vR 0]) (h1 := _) (P := True ∧ True ∧ True ∧ True ∧ True ∧ True) (by decide +kernel) rfl rfl ⟨trivial, trivial, trivial, trivial, trivial, trivial⟩ ?_
  rw [w1]
  refine hL.2.1 186 _ _ _ _ b1 (by decide +kernel) ?_
  rw [n1]
  refine g_callV1 hK 187 27 (d1 := 6) (ci := 6) (i := 0) (vs := [vI (sc xs (i + 1))]) (rest := []) (h1 := h1) (r := vI r) ml_X6_load vl_27 (by decide) (T_X_load (hF := e1)) rfl rfl rfl (Nat.le_of_ble_eq_true rfl) (by decide +kernel) ?_
  refine g_seg hK [.aload_n 2, .aload_n 0, .iload_n 3, .iconst 1, .iadd] 190 195 (L1 := [(0, vR 100), (1, vR 0), (2, vR 76), (3, vI (i : Int))]) (st1 := [vI (wr ((i : Int) + 1)), vR 100, vR 76, vI r]) (h1 := _) (P := True ∧ True ∧ True ∧ True ∧ True ∧ True) (by decide +kernel) rfl rfl ⟨trivial, trivial, trivial, trivial, trivial, trivial⟩ ?_
  rw [w1]
  refine hL.2.1 195 _ _ _ _ b1 (by decide +kernel) ?_
  rw [n1]
  refine g_callV1 hK 196 30 (d1 := 3) (ci := 7) (i := 76) (vs := [vI (sc xs (i + 1))]) (rest := [vI r]) (h1 := h2) (r := vI r) ml_X7_load vl_30 (by decide) (T_M_load (hF := e2)) rfl rfl rfl (Nat.le_of_ble_eq_true rfl) (by decide +kernel) ?_
  refine g_icmp hK 199 .eq (522) 721 (t1 := 721) (t2 := 202) (by decide +kernel) (by decide) rfl rfl (fun _ => ?_) (fun (q : ¬ r = r) => absurd rfl q)
  exact hE h2 I2
set_option maxHeartbeats 4000000 in
set_option maxRecDepth 100000 in
theorem LC_edit {K : KT} (hK : Rules RL code 8 ret fl0 11 K) {n : Nat} {xs : Nat → Int32} (hL : LRules n xs K) {i : Nat} (hi : i + 4 ≤ n) (hn : n ≤ 2048) {h : MH} (I : LINV h) (hE : ∀ h, LINV h → K 721 [(0, vR 100), (1, vR 0), (2, vR 76), (3, vI (i : Int))] [] h) : K 204 [(0, vR 100), (1, vR 0), (2, vR 76), (3, vI (i : Int))] [] h := by
  have w1 : wr ((i : Int) + 1) = ((i + 1 : Nat) : Int) := by rw [wr_id (by omega)]; omega
  have w2 : wr ((i : Int) + 2) = ((i + 2 : Nat) : Int) := by rw [wr_id (by omega)]; omega
  have w3 : wr ((i : Int) + 3) = ((i + 3 : Nat) : Int) := by rw [wr_id (by omega)]; omega
  have b1 : 0 ≤ ((i + 1 : Nat) : Int) ∧ ((i + 1 : Nat) : Int) < (n : Int) := by omega
  have b2 : 0 ≤ ((i + 2 : Nat) : Int) ∧ ((i + 2 : Nat) : Int) < (n : Int) := by omega
  have b3 : 0 ≤ ((i + 3 : Nat) : Int) ∧ ((i + 3 : Nat) : Int) < (n : Int) := by omega
  have n1 : (xs (((i + 1 : Nat) : Int)).toNat).toInt = sc xs (i + 1) := rfl
  have n2 : (xs (((i + 2 : Nat) : Int)).toNat).toInt = sc xs (i + 2) := rfl
  have n3 : (xs (((i + 3 : Nat) : Int)).toNat).toInt = sc xs (i + 3) := rfl
  obtain ⟨r, h1, h2, e1, e2, I2⟩ := both_edit I ((sc xs (i + 1))) ((sc xs (i + 2))) ((sc xs (i + 3))) (inR_toInt _)
  refine g_seg hK [.aload_n 1, .aload_n 0, .iload_n 3, .iconst 1, .iadd] 204 209 (L1 := [(0, vR 100), (1, vR 0), (2, vR 76), (3, vI (i : Int))]) (st1 := [vI (wr ((i : Int) + 1)), vR 100, vR 0]) (h1 := _) (P := True ∧ True ∧ True ∧ True ∧ True ∧ True) (by decide +kernel) rfl rfl ⟨trivial, trivial, trivial, trivial, trivial, trivial⟩ ?_
  rw [w1]
  refine hL.2.1 209 _ _ _ _ b1 (by decide +kernel) ?_
  rw [n1]
  refine g_seg hK [.aload_n 0, .iload_n 3, .iconst 2, .iadd] 210 214 (L1 := [(0, vR 100), (1, vR 0), (2, vR 76), (3, vI (i : Int))]) (st1 := [vI (wr ((i : Int) + 2)), vR 100, vI (sc xs (i + 1)), vR 0]) (h1 := _) (P := True ∧ True ∧ True ∧ True ∧ True) (by decide +kernel) rfl rfl ⟨trivial, trivial, trivial, trivial, trivial⟩ ?_
  rw [w2]
  refine hL.2.1 214 _ _ _ _ b2 (by decide +kernel) ?_
  rw [n2]
  refine g_seg hK [.aload_n 0, .iload_n 3, .iconst 3, .iadd] 215 219 (L1 := [(0, vR 100), (1, vR 0), (2, vR 76), (3, vI (i : Int))]) (st1 := [vI (wr ((i : Int) + 3)), vR 100, vI (sc xs (i + 2)), vI (sc xs (i + 1)), vR 0]) (h1 := _) (P := True ∧ True ∧ True ∧ True ∧ True) (by decide +kernel) rfl rfl ⟨trivial, trivial, trivial, trivial, trivial⟩ ?_
  rw [w3]
  refine hL.2.1 219 _ _ _ _ b3 (by decide +kernel) ?_
  rw [n3]
  refine g_callV1 hK 220 31 (d1 := 6) (ci := 6) (i := 0) (vs := [vI (sc xs (i + 1)), vI (sc xs (i + 2)), vI (sc xs (i + 3))]) (rest := []) (h1 := h1) (r := vI r) ml_X6_edit vl_31 (by decide) (T_X_edit (hF := e1)) rfl rfl rfl (Nat.le_of_ble_eq_true rfl) (by decide +kernel) ?_
  refine g_seg hK [.aload_n 2, .aload_n 0, .iload_n 3, .iconst 1, .iadd] 223 228 (L1 := [(0, vR 100), (1, vR 0), (2, vR 76), (3, vI (i : Int))]) (st1 := [vI (wr ((i : Int) + 1)), vR 100, vR 76, vI r]) (h1 := _) (P := True ∧ True ∧ True ∧ True ∧ True ∧ True) (by decide +kernel) rfl rfl ⟨trivial, trivial, trivial, trivial, trivial, trivial⟩ ?_
  rw [w1]
  refine hL.2.1 228 _ _ _ _ b1 (by decide +kernel) ?_
  rw [n1]
  refine g_seg hK [.aload_n 0, .iload_n 3, .iconst 2, .iadd] 229 233 (L1 := [(0, vR 100), (1, vR 0), (2, vR 76), (3, vI (i : Int))]) (st1 := [vI (wr ((i : Int) + 2)), vR 100, vI (sc xs (i + 1)), vR 76, vI r]) (h1 := _) (P := True ∧ True ∧ True ∧ True ∧ True) (by decide +kernel) rfl rfl ⟨trivial, trivial, trivial, trivial, trivial⟩ ?_
  rw [w2]
  refine hL.2.1 233 _ _ _ _ b2 (by decide +kernel) ?_
  rw [n2]
  refine g_seg hK [.aload_n 0, .iload_n 3, .iconst 3, .iadd] 234 238 (L1 := [(0, vR 100), (1, vR 0), (2, vR 76), (3, vI (i : Int))]) (st1 := [vI (wr ((i : Int) + 3)), vR 100, vI (sc xs (i + 2)), vI (sc xs (i + 1)), vR 76, vI r]) (h1 := _) (P := True ∧ True ∧ True ∧ True ∧ True) (by decide +kernel) rfl rfl ⟨trivial, trivial, trivial, trivial, trivial⟩ ?_
  rw [w3]
  refine hL.2.1 238 _ _ _ _ b3 (by decide +kernel) ?_
  rw [n3]
  refine g_callV1 hK 239 35 (d1 := 1) (ci := 7) (i := 76) (vs := [vI (sc xs (i + 1)), vI (sc xs (i + 2)), vI (sc xs (i + 3))]) (rest := [vI r]) (h1 := h2) (r := vI r) ml_X7_edit vl_35 (by decide) (T_M_edit (hF := e2)) rfl rfl rfl (Nat.le_of_ble_eq_true rfl) (by decide +kernel) ?_
  refine g_icmp hK 242 .eq (479) 721 (t1 := 721) (t2 := 245) (by decide +kernel) (by decide) rfl rfl (fun _ => ?_) (fun (q : ¬ r = r) => absurd rfl q)
  exact hE h2 I2
set_option maxHeartbeats 4000000 in
set_option maxRecDepth 100000 in
theorem LC_swap {K : KT} (hK : Rules RL code 8 ret fl0 11 K) {n : Nat} {xs : Nat → Int32} (hL : LRules n xs K) {i : Nat} (hi : i + 4 ≤ n) (hn : n ≤ 2048) {h : MH} (I : LINV h) (hE : ∀ h, LINV h → K 721 [(0, vR 100), (1, vR 0), (2, vR 76), (3, vI (i : Int))] [] h) : K 247 [(0, vR 100), (1, vR 0), (2, vR 76), (3, vI (i : Int))] [] h := by
  have w1 : wr ((i : Int) + 1) = ((i + 1 : Nat) : Int) := by rw [wr_id (by omega)]; omega
  have w2 : wr ((i : Int) + 2) = ((i + 2 : Nat) : Int) := by rw [wr_id (by omega)]; omega
  have w3 : wr ((i : Int) + 3) = ((i + 3 : Nat) : Int) := by rw [wr_id (by omega)]; omega
  have b1 : 0 ≤ ((i + 1 : Nat) : Int) ∧ ((i + 1 : Nat) : Int) < (n : Int) := by omega
  have b2 : 0 ≤ ((i + 2 : Nat) : Int) ∧ ((i + 2 : Nat) : Int) < (n : Int) := by omega
  have b3 : 0 ≤ ((i + 3 : Nat) : Int) ∧ ((i + 3 : Nat) : Int) < (n : Int) := by omega
  have n1 : (xs (((i + 1 : Nat) : Int)).toNat).toInt = sc xs (i + 1) := rfl
  have n2 : (xs (((i + 2 : Nat) : Int)).toNat).toInt = sc xs (i + 2) := rfl
  have n3 : (xs (((i + 3 : Nat) : Int)).toNat).toInt = sc xs (i + 3) := rfl
  obtain ⟨r, h1, h2, e1, e2, I2⟩ := both_swap I ((sc xs (i + 1))) ((sc xs (i + 2)))
  refine g_seg hK [.aload_n 1, .aload_n 0, .iload_n 3, .iconst 1, .iadd] 247 252 (L1 := [(0, vR 100), (1, vR 0), (2, vR 76), (3, vI (i : Int))]) (st1 := [vI (wr ((i : Int) + 1)), vR 100, vR 0]) (h1 := _) (P := True ∧ True ∧ True ∧ True ∧ True ∧ True) (by decide +kernel) rfl rfl ⟨trivial, trivial, trivial, trivial, trivial, trivial⟩ ?_
  rw [w1]
  refine hL.2.1 252 _ _ _ _ b1 (by decide +kernel) ?_
  rw [n1]
  refine g_seg hK [.aload_n 0, .iload_n 3, .iconst 2, .iadd] 253 257 (L1 := [(0, vR 100), (1, vR 0), (2, vR 76), (3, vI (i : Int))]) (st1 := [vI (wr ((i : Int) + 2)), vR 100, vI (sc xs (i + 1)), vR 0]) (h1 := _) (P := True ∧ True ∧ True ∧ True ∧ True) (by decide +kernel) rfl rfl ⟨trivial, trivial, trivial, trivial, trivial⟩ ?_
  rw [w2]
  refine hL.2.1 257 _ _ _ _ b2 (by decide +kernel) ?_
  rw [n2]
  refine g_callV1 hK 258 36 (d1 := 6) (ci := 6) (i := 0) (vs := [vI (sc xs (i + 1)), vI (sc xs (i + 2))]) (rest := []) (h1 := h1) (r := vI r) ml_X6_swap vl_36 (by decide) (T_X_swap (hF := e1)) rfl rfl rfl (Nat.le_of_ble_eq_true rfl) (by decide +kernel) ?_
  refine g_seg hK [.aload_n 2, .aload_n 0, .iload_n 3, .iconst 1, .iadd] 261 266 (L1 := [(0, vR 100), (1, vR 0), (2, vR 76), (3, vI (i : Int))]) (st1 := [vI (wr ((i : Int) + 1)), vR 100, vR 76, vI r]) (h1 := _) (P := True ∧ True ∧ True ∧ True ∧ True ∧ True) (by decide +kernel) rfl rfl ⟨trivial, trivial, trivial, trivial, trivial, trivial⟩ ?_
  rw [w1]
  refine hL.2.1 266 _ _ _ _ b1 (by decide +kernel) ?_
  rw [n1]
  refine g_seg hK [.aload_n 0, .iload_n 3, .iconst 2, .iadd] 267 271 (L1 := [(0, vR 100), (1, vR 0), (2, vR 76), (3, vI (i : Int))]) (st1 := [vI (wr ((i : Int) + 2)), vR 100, vI (sc xs (i + 1)), vR 76, vI r]) (h1 := _) (P := True ∧ True ∧ True ∧ True ∧ True) (by decide +kernel) rfl rfl ⟨trivial, trivial, trivial, trivial, trivial⟩ ?_
  rw [w2]
  refine hL.2.1 271 _ _ _ _ b2 (by decide +kernel) ?_
  rw [n2]
  refine g_callV1 hK 272 40 (d1 := 3) (ci := 7) (i := 76) (vs := [vI (sc xs (i + 1)), vI (sc xs (i + 2))]) (rest := [vI r]) (h1 := h2) (r := vI r) ml_X7_swap vl_40 (by decide) (T_M_swap (hF := e2)) rfl rfl rfl (Nat.le_of_ble_eq_true rfl) (by decide +kernel) ?_
  refine g_icmp hK 275 .eq (446) 721 (t1 := 721) (t2 := 278) (by decide +kernel) (by decide) rfl rfl (fun _ => ?_) (fun (q : ¬ r = r) => absurd rfl q)
  exact hE h2 I2
set_option maxHeartbeats 4000000 in
set_option maxRecDepth 100000 in
theorem LC_set {K : KT} (hK : Rules RL code 8 ret fl0 11 K) {n : Nat} {xs : Nat → Int32} (hL : LRules n xs K) {i : Nat} (hi : i + 4 ≤ n) (hn : n ≤ 2048) {h : MH} (I : LINV h) (hE : ∀ h, LINV h → K 721 [(0, vR 100), (1, vR 0), (2, vR 76), (3, vI (i : Int))] [] h) : K 280 [(0, vR 100), (1, vR 0), (2, vR 76), (3, vI (i : Int))] [] h := by
  have w1 : wr ((i : Int) + 1) = ((i + 1 : Nat) : Int) := by rw [wr_id (by omega)]; omega
  have w2 : wr ((i : Int) + 2) = ((i + 2 : Nat) : Int) := by rw [wr_id (by omega)]; omega
  have w3 : wr ((i : Int) + 3) = ((i + 3 : Nat) : Int) := by rw [wr_id (by omega)]; omega
  have b1 : 0 ≤ ((i + 1 : Nat) : Int) ∧ ((i + 1 : Nat) : Int) < (n : Int) := by omega
  have b2 : 0 ≤ ((i + 2 : Nat) : Int) ∧ ((i + 2 : Nat) : Int) < (n : Int) := by omega
  have b3 : 0 ≤ ((i + 3 : Nat) : Int) ∧ ((i + 3 : Nat) : Int) < (n : Int) := by omega
  have n1 : (xs (((i + 1 : Nat) : Int)).toNat).toInt = sc xs (i + 1) := rfl
  have n2 : (xs (((i + 2 : Nat) : Int)).toNat).toInt = sc xs (i + 2) := rfl
  have n3 : (xs (((i + 3 : Nat) : Int)).toNat).toInt = sc xs (i + 3) := rfl
  obtain ⟨r, h1, h2, e1, e2, I2⟩ := both_set I ((sc xs (i + 1))) ((sc xs (i + 2)))
  refine g_seg hK [.aload_n 1, .aload_n 0, .iload_n 3, .iconst 1, .iadd] 280 285 (L1 := [(0, vR 100), (1, vR 0), (2, vR 76), (3, vI (i : Int))]) (st1 := [vI (wr ((i : Int) + 1)), vR 100, vR 0]) (h1 := _) (P := True ∧ True ∧ True ∧ True ∧ True ∧ True) (by decide +kernel) rfl rfl ⟨trivial, trivial, trivial, trivial, trivial, trivial⟩ ?_
  rw [w1]
  refine hL.2.1 285 _ _ _ _ b1 (by decide +kernel) ?_
  rw [n1]
  refine g_seg hK [.aload_n 0, .iload_n 3, .iconst 2, .iadd] 286 290 (L1 := [(0, vR 100), (1, vR 0), (2, vR 76), (3, vI (i : Int))]) (st1 := [vI (wr ((i : Int) + 2)), vR 100, vI (sc xs (i + 1)), vR 0]) (h1 := _) (P := True ∧ True ∧ True ∧ True ∧ True) (by decide +kernel) rfl rfl ⟨trivial, trivial, trivial, trivial, trivial⟩ ?_
  rw [w2]
  refine hL.2.1 290 _ _ _ _ b2 (by decide +kernel) ?_
  rw [n2]
  refine g_callV1 hK 291 41 (d1 := 6) (ci := 6) (i := 0) (vs := [vI (sc xs (i + 1)), vI (sc xs (i + 2))]) (rest := []) (h1 := h1) (r := vI r) ml_X6_set vl_41 (by decide) (T_X_set (hF := e1)) rfl rfl rfl (Nat.le_of_ble_eq_true rfl) (by decide +kernel) ?_
  refine g_seg hK [.aload_n 2, .aload_n 0, .iload_n 3, .iconst 1, .iadd] 294 299 (L1 := [(0, vR 100), (1, vR 0), (2, vR 76), (3, vI (i : Int))]) (st1 := [vI (wr ((i : Int) + 1)), vR 100, vR 76, vI r]) (h1 := _) (P := True ∧ True ∧ True ∧ True ∧ True ∧ True) (by decide +kernel) rfl rfl ⟨trivial, trivial, trivial, trivial, trivial, trivial⟩ ?_
  rw [w1]
  refine hL.2.1 299 _ _ _ _ b1 (by decide +kernel) ?_
  rw [n1]
  refine g_seg hK [.aload_n 0, .iload_n 3, .iconst 2, .iadd] 300 304 (L1 := [(0, vR 100), (1, vR 0), (2, vR 76), (3, vI (i : Int))]) (st1 := [vI (wr ((i : Int) + 2)), vR 100, vI (sc xs (i + 1)), vR 76, vI r]) (h1 := _) (P := True ∧ True ∧ True ∧ True ∧ True) (by decide +kernel) rfl rfl ⟨trivial, trivial, trivial, trivial, trivial⟩ ?_
  rw [w2]
  refine hL.2.1 304 _ _ _ _ b2 (by decide +kernel) ?_
  rw [n2]
  refine g_callV1 hK 305 44 (d1 := 1) (ci := 7) (i := 76) (vs := [vI (sc xs (i + 1)), vI (sc xs (i + 2))]) (rest := [vI r]) (h1 := h2) (r := vI r) ml_X7_set vl_44 (by decide) (T_M_set (hF := e2)) rfl rfl rfl (Nat.le_of_ble_eq_true rfl) (by decide +kernel) ?_
  refine g_icmp hK 308 .eq (413) 721 (t1 := 721) (t2 := 311) (by decide +kernel) (by decide) rfl rfl (fun _ => ?_) (fun (q : ¬ r = r) => absurd rfl q)
  exact hE h2 I2
set_option maxHeartbeats 4000000 in
set_option maxRecDepth 100000 in
theorem LC_lay {K : KT} (hK : Rules RL code 8 ret fl0 11 K) {n : Nat} {xs : Nat → Int32} (hL : LRules n xs K) {i : Nat} (hi : i + 4 ≤ n) (hn : n ≤ 2048) {h : MH} (I : LINV h) (hE : ∀ h, LINV h → K 721 [(0, vR 100), (1, vR 0), (2, vR 76), (3, vI (i : Int))] [] h) : K 313 [(0, vR 100), (1, vR 0), (2, vR 76), (3, vI (i : Int))] [] h := by
  have w1 : wr ((i : Int) + 1) = ((i + 1 : Nat) : Int) := by rw [wr_id (by omega)]; omega
  have w2 : wr ((i : Int) + 2) = ((i + 2 : Nat) : Int) := by rw [wr_id (by omega)]; omega
  have w3 : wr ((i : Int) + 3) = ((i + 3 : Nat) : Int) := by rw [wr_id (by omega)]; omega
  have b1 : 0 ≤ ((i + 1 : Nat) : Int) ∧ ((i + 1 : Nat) : Int) < (n : Int) := by omega
  have b2 : 0 ≤ ((i + 2 : Nat) : Int) ∧ ((i + 2 : Nat) : Int) < (n : Int) := by omega
  have b3 : 0 ≤ ((i + 3 : Nat) : Int) ∧ ((i + 3 : Nat) : Int) < (n : Int) := by omega
  have n1 : (xs (((i + 1 : Nat) : Int)).toNat).toInt = sc xs (i + 1) := rfl
  have n2 : (xs (((i + 2 : Nat) : Int)).toNat).toInt = sc xs (i + 2) := rfl
  have n3 : (xs (((i + 3 : Nat) : Int)).toNat).toInt = sc xs (i + 3) := rfl
  obtain ⟨r, h1, h2, e1, e2, I2⟩ := both_lay I ((bo (sc xs (i + 1))))
  refine g_seg hK [.aload_n 1, .aload_n 0, .iload_n 3, .iconst 1, .iadd] 313 318 (L1 := [(0, vR 100), (1, vR 0), (2, vR 76), (3, vI (i : Int))]) (st1 := [vI (wr ((i : Int) + 1)), vR 100, vR 0]) (h1 := _) (P := True ∧ True ∧ True ∧ True ∧ True ∧ True) (by decide +kernel) rfl rfl ⟨trivial, trivial, trivial, trivial, trivial, trivial⟩ ?_
  rw [w1]
  refine hL.2.1 318 _ _ _ _ b1 (by decide +kernel) ?_
  rw [n1]
  refine l_bool hK 319 322 326 327 (by decide +kernel) (by decide +kernel) (by decide +kernel) (by decide +kernel) rfl rfl rfl ?_
  refine g_callV1 hK 327 45 (d1 := 6) (ci := 6) (i := 0) (vs := [vI (bo (sc xs (i + 1)))]) (rest := []) (h1 := h1) (r := vI r) ml_X6_lay vl_45 (by decide) (T_X_lay (hF := e1)) rfl rfl rfl (Nat.le_of_ble_eq_true rfl) (by decide +kernel) ?_
  refine g_seg hK [.aload_n 2, .aload_n 0, .iload_n 3, .iconst 1, .iadd] 330 335 (L1 := [(0, vR 100), (1, vR 0), (2, vR 76), (3, vI (i : Int))]) (st1 := [vI (wr ((i : Int) + 1)), vR 100, vR 76, vI r]) (h1 := _) (P := True ∧ True ∧ True ∧ True ∧ True ∧ True) (by decide +kernel) rfl rfl ⟨trivial, trivial, trivial, trivial, trivial, trivial⟩ ?_
  rw [w1]
  refine hL.2.1 335 _ _ _ _ b1 (by decide +kernel) ?_
  rw [n1]
  refine l_bool hK 336 339 343 344 (by decide +kernel) (by decide +kernel) (by decide +kernel) (by decide +kernel) rfl rfl rfl ?_
  refine g_callV1 hK 344 49 (d1 := 7) (ci := 7) (i := 76) (vs := [vI (bo (sc xs (i + 1)))]) (rest := [vI r]) (h1 := h2) (r := vI r) ml_X7_lay vl_49 (by decide) (T_M_lay (hF := e2)) rfl rfl rfl (Nat.le_of_ble_eq_true rfl) (by decide +kernel) ?_
  refine g_icmp hK 347 .eq (374) 721 (t1 := 721) (t2 := 350) (by decide +kernel) (by decide) rfl rfl (fun _ => ?_) (fun (q : ¬ r = r) => absurd rfl q)
  exact hE h2 I2
set_option maxHeartbeats 4000000 in
set_option maxRecDepth 100000 in
theorem LC_line {K : KT} (hK : Rules RL code 8 ret fl0 11 K) {n : Nat} {xs : Nat → Int32} (hL : LRules n xs K) {i : Nat} (hi : i + 4 ≤ n) (hn : n ≤ 2048) {h : MH} (I : LINV h) (hE : ∀ h, LINV h → K 721 [(0, vR 100), (1, vR 0), (2, vR 76), (3, vI (i : Int))] [] h) : K 352 [(0, vR 100), (1, vR 0), (2, vR 76), (3, vI (i : Int))] [] h := by
  have w1 : wr ((i : Int) + 1) = ((i + 1 : Nat) : Int) := by rw [wr_id (by omega)]; omega
  have w2 : wr ((i : Int) + 2) = ((i + 2 : Nat) : Int) := by rw [wr_id (by omega)]; omega
  have w3 : wr ((i : Int) + 3) = ((i + 3 : Nat) : Int) := by rw [wr_id (by omega)]; omega
  have b1 : 0 ≤ ((i + 1 : Nat) : Int) ∧ ((i + 1 : Nat) : Int) < (n : Int) := by omega
  have b2 : 0 ≤ ((i + 2 : Nat) : Int) ∧ ((i + 2 : Nat) : Int) < (n : Int) := by omega
  have b3 : 0 ≤ ((i + 3 : Nat) : Int) ∧ ((i + 3 : Nat) : Int) < (n : Int) := by omega
  have n1 : (xs (((i + 1 : Nat) : Int)).toNat).toInt = sc xs (i + 1) := rfl
  have n2 : (xs (((i + 2 : Nat) : Int)).toNat).toInt = sc xs (i + 2) := rfl
  have n3 : (xs (((i + 3 : Nat) : Int)).toNat).toInt = sc xs (i + 3) := rfl
  have e2 := both_line I ((sc xs (i + 1))) ((sc xs (i + 2)))
  obtain ⟨r, e1⟩ : ∃ r, F_X_line ((sc xs (i + 1))) ((sc xs (i + 2))) h = r := ⟨_, rfl⟩
  rw [e1] at e2
  refine g_seg hK [.aload_n 1, .aload_n 0, .iload_n 3, .iconst 1, .iadd] 352 357 (L1 := [(0, vR 100), (1, vR 0), (2, vR 76), (3, vI (i : Int))]) (st1 := [vI (wr ((i : Int) + 1)), vR 100, vR 0]) (h1 := _) (P := True ∧ True ∧ True ∧ True ∧ True ∧ True) (by decide +kernel) rfl rfl ⟨trivial, trivial, trivial, trivial, trivial, trivial⟩ ?_
  rw [w1]
  refine hL.2.1 357 _ _ _ _ b1 (by decide +kernel) ?_
  rw [n1]
  refine g_seg hK [.aload_n 0, .iload_n 3, .iconst 2, .iadd] 358 362 (L1 := [(0, vR 100), (1, vR 0), (2, vR 76), (3, vI (i : Int))]) (st1 := [vI (wr ((i : Int) + 2)), vR 100, vI (sc xs (i + 1)), vR 0]) (h1 := _) (P := True ∧ True ∧ True ∧ True ∧ True) (by decide +kernel) rfl rfl ⟨trivial, trivial, trivial, trivial, trivial⟩ ?_
  rw [w2]
  refine hL.2.1 362 _ _ _ _ b2 (by decide +kernel) ?_
  rw [n2]
  refine g_callV1 hK 363 50 (d1 := 1) (ci := 6) (i := 0) (vs := [vI (sc xs (i + 1)), vI (sc xs (i + 2))]) (rest := []) (h1 := h) (r := vI r) ml_X6_line vl_50 (by decide) (T_X_line (hF := e1)) rfl rfl rfl (Nat.le_of_ble_eq_true rfl) (by decide +kernel) ?_
  refine g_seg hK [.aload_n 2, .aload_n 0, .iload_n 3, .iconst 1, .iadd] 366 371 (L1 := [(0, vR 100), (1, vR 0), (2, vR 76), (3, vI (i : Int))]) (st1 := [vI (wr ((i : Int) + 1)), vR 100, vR 76, vI r]) (h1 := _) (P := True ∧ True ∧ True ∧ True ∧ True ∧ True) (by decide +kernel) rfl rfl ⟨trivial, trivial, trivial, trivial, trivial, trivial⟩ ?_
  rw [w1]
  refine hL.2.1 371 _ _ _ _ b1 (by decide +kernel) ?_
  rw [n1]
  refine g_seg hK [.aload_n 0, .iload_n 3, .iconst 2, .iadd] 372 376 (L1 := [(0, vR 100), (1, vR 0), (2, vR 76), (3, vI (i : Int))]) (st1 := [vI (wr ((i : Int) + 2)), vR 100, vI (sc xs (i + 1)), vR 76, vI r]) (h1 := _) (P := True ∧ True ∧ True ∧ True ∧ True) (by decide +kernel) rfl rfl ⟨trivial, trivial, trivial, trivial, trivial⟩ ?_
  rw [w2]
  refine hL.2.1 376 _ _ _ _ b2 (by decide +kernel) ?_
  rw [n2]
  refine g_callV1 hK 377 53 (d1 := 1) (ci := 7) (i := 76) (vs := [vI (sc xs (i + 1)), vI (sc xs (i + 2))]) (rest := [vI r]) (h1 := h) (r := vI r) ml_X7_line vl_53 (by decide) (T_M_line (hF := e2)) rfl rfl rfl (Nat.le_of_ble_eq_true rfl) (by decide +kernel) ?_
  refine g_icmp hK 380 .eq (341) 721 (t1 := 721) (t2 := 383) (by decide +kernel) (by decide) rfl rfl (fun _ => ?_) (fun (q : ¬ r = r) => absurd rfl q)
  exact hE h I
set_option maxHeartbeats 4000000 in
set_option maxRecDepth 100000 in
theorem LC_distance {K : KT} (hK : Rules RL code 8 ret fl0 11 K) {n : Nat} {xs : Nat → Int32} (hL : LRules n xs K) {i : Nat} (hi : i + 4 ≤ n) (hn : n ≤ 2048) {h : MH} (I : LINV h) (hE : ∀ h, LINV h → K 721 [(0, vR 100), (1, vR 0), (2, vR 76), (3, vI (i : Int))] [] h) : K 385 [(0, vR 100), (1, vR 0), (2, vR 76), (3, vI (i : Int))] [] h := by
  have w1 : wr ((i : Int) + 1) = ((i + 1 : Nat) : Int) := by rw [wr_id (by omega)]; omega
  have w2 : wr ((i : Int) + 2) = ((i + 2 : Nat) : Int) := by rw [wr_id (by omega)]; omega
  have w3 : wr ((i : Int) + 3) = ((i + 3 : Nat) : Int) := by rw [wr_id (by omega)]; omega
  have b1 : 0 ≤ ((i + 1 : Nat) : Int) ∧ ((i + 1 : Nat) : Int) < (n : Int) := by omega
  have b2 : 0 ≤ ((i + 2 : Nat) : Int) ∧ ((i + 2 : Nat) : Int) < (n : Int) := by omega
  have b3 : 0 ≤ ((i + 3 : Nat) : Int) ∧ ((i + 3 : Nat) : Int) < (n : Int) := by omega
  have n1 : (xs (((i + 1 : Nat) : Int)).toNat).toInt = sc xs (i + 1) := rfl
  have n2 : (xs (((i + 2 : Nat) : Int)).toNat).toInt = sc xs (i + 2) := rfl
  have n3 : (xs (((i + 3 : Nat) : Int)).toNat).toInt = sc xs (i + 3) := rfl
  obtain ⟨r, h1, h2, e1, e2, I2⟩ := both_distance I ((sc xs (i + 1)))
  refine g_seg hK [.aload_n 1, .aload_n 0, .iload_n 3, .iconst 1, .iadd] 385 390 (L1 := [(0, vR 100), (1, vR 0), (2, vR 76), (3, vI (i : Int))]) (st1 := [vI (wr ((i : Int) + 1)), vR 100, vR 0]) (h1 := _) (P := True ∧ True ∧ True ∧ True ∧ True ∧ True) (by decide +kernel) rfl rfl ⟨trivial, trivial, trivial, trivial, trivial, trivial⟩ ?_
  rw [w1]
  refine hL.2.1 390 _ _ _ _ b1 (by decide +kernel) ?_
  rw [n1]
  refine g_callV1 hK 391 54 (d1 := 6) (ci := 6) (i := 0) (vs := [vI (sc xs (i + 1))]) (rest := []) (h1 := h1) (r := vI r) ml_X6_distance vl_54 (by decide) (T_X_distance (hF := e1)) rfl rfl rfl (Nat.le_of_ble_eq_true rfl) (by decide +kernel) ?_
  refine g_seg hK [.aload_n 2, .aload_n 0, .iload_n 3, .iconst 1, .iadd] 394 399 (L1 := [(0, vR 100), (1, vR 0), (2, vR 76), (3, vI (i : Int))]) (st1 := [vI (wr ((i : Int) + 1)), vR 100, vR 76, vI r]) (h1 := _) (P := True ∧ True ∧ True ∧ True ∧ True ∧ True) (by decide +kernel) rfl rfl ⟨trivial, trivial, trivial, trivial, trivial, trivial⟩ ?_
  rw [w1]
  refine hL.2.1 399 _ _ _ _ b1 (by decide +kernel) ?_
  rw [n1]
  refine g_callV1 hK 400 57 (d1 := 3) (ci := 7) (i := 76) (vs := [vI (sc xs (i + 1))]) (rest := [vI r]) (h1 := h2) (r := vI r) ml_X7_distance vl_57 (by decide) (T_M_distance (hF := e2)) rfl rfl rfl (Nat.le_of_ble_eq_true rfl) (by decide +kernel) ?_
  refine g_icmp hK 403 .eq (318) 721 (t1 := 721) (t2 := 406) (by decide +kernel) (by decide) rfl rfl (fun _ => ?_) (fun (q : ¬ r = r) => absurd rfl q)
  exact hE h2 I2
set_option maxHeartbeats 4000000 in
set_option maxRecDepth 100000 in
theorem LC_view {K : KT} (hK : Rules RL code 8 ret fl0 11 K) {n : Nat} {xs : Nat → Int32} (hL : LRules n xs K) {i : Nat} (hi : i + 4 ≤ n) (hn : n ≤ 2048) {h : MH} (I : LINV h) (hE : ∀ h, LINV h → K 721 [(0, vR 100), (1, vR 0), (2, vR 76), (3, vI (i : Int))] [] h) : K 408 [(0, vR 100), (1, vR 0), (2, vR 76), (3, vI (i : Int))] [] h := by
  have w1 : wr ((i : Int) + 1) = ((i + 1 : Nat) : Int) := by rw [wr_id (by omega)]; omega
  have w2 : wr ((i : Int) + 2) = ((i + 2 : Nat) : Int) := by rw [wr_id (by omega)]; omega
  have w3 : wr ((i : Int) + 3) = ((i + 3 : Nat) : Int) := by rw [wr_id (by omega)]; omega
  have b1 : 0 ≤ ((i + 1 : Nat) : Int) ∧ ((i + 1 : Nat) : Int) < (n : Int) := by omega
  have b2 : 0 ≤ ((i + 2 : Nat) : Int) ∧ ((i + 2 : Nat) : Int) < (n : Int) := by omega
  have b3 : 0 ≤ ((i + 3 : Nat) : Int) ∧ ((i + 3 : Nat) : Int) < (n : Int) := by omega
  have n1 : (xs (((i + 1 : Nat) : Int)).toNat).toInt = sc xs (i + 1) := rfl
  have n2 : (xs (((i + 2 : Nat) : Int)).toNat).toInt = sc xs (i + 2) := rfl
  have n3 : (xs (((i + 3 : Nat) : Int)).toNat).toInt = sc xs (i + 3) := rfl
  obtain ⟨r, h1, h2, e1, e2, I2⟩ := both_view I ((sc xs (i + 1))) ((sc xs (i + 2)))
  refine g_seg hK [.aload_n 1, .aload_n 0, .iload_n 3, .iconst 1, .iadd] 408 413 (L1 := [(0, vR 100), (1, vR 0), (2, vR 76), (3, vI (i : Int))]) (st1 := [vI (wr ((i : Int) + 1)), vR 100, vR 0]) (h1 := _) (P := True ∧ True ∧ True ∧ True ∧ True ∧ True) (by decide +kernel) rfl rfl ⟨trivial, trivial, trivial, trivial, trivial, trivial⟩ ?_
  rw [w1]
  refine hL.2.1 413 _ _ _ _ b1 (by decide +kernel) ?_
  rw [n1]
  refine g_seg hK [.aload_n 0, .iload_n 3, .iconst 2, .iadd] 414 418 (L1 := [(0, vR 100), (1, vR 0), (2, vR 76), (3, vI (i : Int))]) (st1 := [vI (wr ((i : Int) + 2)), vR 100, vI (sc xs (i + 1)), vR 0]) (h1 := _) (P := True ∧ True ∧ True ∧ True ∧ True) (by decide +kernel) rfl rfl ⟨trivial, trivial, trivial, trivial, trivial⟩ ?_
  rw [w2]
  refine hL.2.1 418 _ _ _ _ b2 (by decide +kernel) ?_
  rw [n2]
  refine g_callV1 hK 419 58 (d1 := 6) (ci := 6) (i := 0) (vs := [vI (sc xs (i + 1)), vI (sc xs (i + 2))]) (rest := []) (h1 := h1) (r := vI r) ml_X6_view vl_58 (by decide) (T_X_view (hF := e1)) rfl rfl rfl (Nat.le_of_ble_eq_true rfl) (by decide +kernel) ?_
  refine g_seg hK [.aload_n 2, .aload_n 0, .iload_n 3, .iconst 1, .iadd] 422 427 (L1 := [(0, vR 100), (1, vR 0), (2, vR 76), (3, vI (i : Int))]) (st1 := [vI (wr ((i : Int) + 1)), vR 100, vR 76, vI r]) (h1 := _) (P := True ∧ True ∧ True ∧ True ∧ True ∧ True) (by decide +kernel) rfl rfl ⟨trivial, trivial, trivial, trivial, trivial, trivial⟩ ?_
  rw [w1]
  refine hL.2.1 427 _ _ _ _ b1 (by decide +kernel) ?_
  rw [n1]
  refine g_seg hK [.aload_n 0, .iload_n 3, .iconst 2, .iadd] 428 432 (L1 := [(0, vR 100), (1, vR 0), (2, vR 76), (3, vI (i : Int))]) (st1 := [vI (wr ((i : Int) + 2)), vR 100, vI (sc xs (i + 1)), vR 76, vI r]) (h1 := _) (P := True ∧ True ∧ True ∧ True ∧ True) (by decide +kernel) rfl rfl ⟨trivial, trivial, trivial, trivial, trivial⟩ ?_
  rw [w2]
  refine hL.2.1 432 _ _ _ _ b2 (by decide +kernel) ?_
  rw [n2]
  refine g_callV1 hK 433 61 (d1 := 7) (ci := 7) (i := 76) (vs := [vI (sc xs (i + 1)), vI (sc xs (i + 2))]) (rest := [vI r]) (h1 := h2) (r := vI r) ml_X7_view vl_61 (by decide) (T_M_view (hF := e2)) rfl rfl rfl (Nat.le_of_ble_eq_true rfl) (by decide +kernel) ?_
  refine g_icmp hK 436 .eq (285) 721 (t1 := 721) (t2 := 439) (by decide +kernel) (by decide) rfl rfl (fun _ => ?_) (fun (q : ¬ r = r) => absurd rfl q)
  exact hE h2 I2
set_option maxHeartbeats 4000000 in
set_option maxRecDepth 100000 in
theorem LC_hunk {K : KT} (hK : Rules RL code 8 ret fl0 11 K) {n : Nat} {xs : Nat → Int32} (hL : LRules n xs K) {i : Nat} (hi : i + 4 ≤ n) (hn : n ≤ 2048) {h : MH} (I : LINV h) (hE : ∀ h, LINV h → K 721 [(0, vR 100), (1, vR 0), (2, vR 76), (3, vI (i : Int))] [] h) : K 441 [(0, vR 100), (1, vR 0), (2, vR 76), (3, vI (i : Int))] [] h := by
  have w1 : wr ((i : Int) + 1) = ((i + 1 : Nat) : Int) := by rw [wr_id (by omega)]; omega
  have w2 : wr ((i : Int) + 2) = ((i + 2 : Nat) : Int) := by rw [wr_id (by omega)]; omega
  have w3 : wr ((i : Int) + 3) = ((i + 3 : Nat) : Int) := by rw [wr_id (by omega)]; omega
  have b1 : 0 ≤ ((i + 1 : Nat) : Int) ∧ ((i + 1 : Nat) : Int) < (n : Int) := by omega
  have b2 : 0 ≤ ((i + 2 : Nat) : Int) ∧ ((i + 2 : Nat) : Int) < (n : Int) := by omega
  have b3 : 0 ≤ ((i + 3 : Nat) : Int) ∧ ((i + 3 : Nat) : Int) < (n : Int) := by omega
  have n1 : (xs (((i + 1 : Nat) : Int)).toNat).toInt = sc xs (i + 1) := rfl
  have n2 : (xs (((i + 2 : Nat) : Int)).toNat).toInt = sc xs (i + 2) := rfl
  have n3 : (xs (((i + 3 : Nat) : Int)).toNat).toInt = sc xs (i + 3) := rfl
  obtain ⟨r, h1, h2, e1, e2, I2⟩ := both_hunk I ((sc xs (i + 1))) ((sc xs (i + 2)))
  refine g_seg hK [.aload_n 1, .aload_n 0, .iload_n 3, .iconst 1, .iadd] 441 446 (L1 := [(0, vR 100), (1, vR 0), (2, vR 76), (3, vI (i : Int))]) (st1 := [vI (wr ((i : Int) + 1)), vR 100, vR 0]) (h1 := _) (P := True ∧ True ∧ True ∧ True ∧ True ∧ True) (by decide +kernel) rfl rfl ⟨trivial, trivial, trivial, trivial, trivial, trivial⟩ ?_
  rw [w1]
  refine hL.2.1 446 _ _ _ _ b1 (by decide +kernel) ?_
  rw [n1]
  refine g_seg hK [.aload_n 0, .iload_n 3, .iconst 2, .iadd] 447 451 (L1 := [(0, vR 100), (1, vR 0), (2, vR 76), (3, vI (i : Int))]) (st1 := [vI (wr ((i : Int) + 2)), vR 100, vI (sc xs (i + 1)), vR 0]) (h1 := _) (P := True ∧ True ∧ True ∧ True ∧ True) (by decide +kernel) rfl rfl ⟨trivial, trivial, trivial, trivial, trivial⟩ ?_
  rw [w2]
  refine hL.2.1 451 _ _ _ _ b2 (by decide +kernel) ?_
  rw [n2]
  refine g_callV1 hK 452 62 (d1 := 6) (ci := 6) (i := 0) (vs := [vI (sc xs (i + 1)), vI (sc xs (i + 2))]) (rest := []) (h1 := h1) (r := vI r) ml_X6_hunk vl_62 (by decide) (T_X_hunk (hF := e1)) rfl rfl rfl (Nat.le_of_ble_eq_true rfl) (by decide +kernel) ?_
  refine g_seg hK [.aload_n 2, .aload_n 0, .iload_n 3, .iconst 1, .iadd] 455 460 (L1 := [(0, vR 100), (1, vR 0), (2, vR 76), (3, vI (i : Int))]) (st1 := [vI (wr ((i : Int) + 1)), vR 100, vR 76, vI r]) (h1 := _) (P := True ∧ True ∧ True ∧ True ∧ True ∧ True) (by decide +kernel) rfl rfl ⟨trivial, trivial, trivial, trivial, trivial, trivial⟩ ?_
  rw [w1]
  refine hL.2.1 460 _ _ _ _ b1 (by decide +kernel) ?_
  rw [n1]
  refine g_seg hK [.aload_n 0, .iload_n 3, .iconst 2, .iadd] 461 465 (L1 := [(0, vR 100), (1, vR 0), (2, vR 76), (3, vI (i : Int))]) (st1 := [vI (wr ((i : Int) + 2)), vR 100, vI (sc xs (i + 1)), vR 76, vI r]) (h1 := _) (P := True ∧ True ∧ True ∧ True ∧ True) (by decide +kernel) rfl rfl ⟨trivial, trivial, trivial, trivial, trivial⟩ ?_
  rw [w2]
  refine hL.2.1 465 _ _ _ _ b2 (by decide +kernel) ?_
  rw [n2]
  refine g_callV1 hK 466 65 (d1 := 7) (ci := 7) (i := 76) (vs := [vI (sc xs (i + 1)), vI (sc xs (i + 2))]) (rest := [vI r]) (h1 := h2) (r := vI r) ml_X7_hunk vl_65 (by decide) (T_M_hunk (hF := e2)) rfl rfl rfl (Nat.le_of_ble_eq_true rfl) (by decide +kernel) ?_
  refine g_icmp hK 469 .eq (252) 721 (t1 := 721) (t2 := 472) (by decide +kernel) (by decide) rfl rfl (fun _ => ?_) (fun (q : ¬ r = r) => absurd rfl q)
  exact hE h2 I2
set_option maxHeartbeats 4000000 in
set_option maxRecDepth 100000 in
theorem LC_whyNot {K : KT} (hK : Rules RL code 8 ret fl0 11 K) {n : Nat} {xs : Nat → Int32} (hL : LRules n xs K) {i : Nat} (hi : i + 4 ≤ n) (hn : n ≤ 2048) {h : MH} (I : LINV h) (hE : ∀ h, LINV h → K 721 [(0, vR 100), (1, vR 0), (2, vR 76), (3, vI (i : Int))] [] h) : K 474 [(0, vR 100), (1, vR 0), (2, vR 76), (3, vI (i : Int))] [] h := by
  have w1 : wr ((i : Int) + 1) = ((i + 1 : Nat) : Int) := by rw [wr_id (by omega)]; omega
  have w2 : wr ((i : Int) + 2) = ((i + 2 : Nat) : Int) := by rw [wr_id (by omega)]; omega
  have w3 : wr ((i : Int) + 3) = ((i + 3 : Nat) : Int) := by rw [wr_id (by omega)]; omega
  have b1 : 0 ≤ ((i + 1 : Nat) : Int) ∧ ((i + 1 : Nat) : Int) < (n : Int) := by omega
  have b2 : 0 ≤ ((i + 2 : Nat) : Int) ∧ ((i + 2 : Nat) : Int) < (n : Int) := by omega
  have b3 : 0 ≤ ((i + 3 : Nat) : Int) ∧ ((i + 3 : Nat) : Int) < (n : Int) := by omega
  have n1 : (xs (((i + 1 : Nat) : Int)).toNat).toInt = sc xs (i + 1) := rfl
  have n2 : (xs (((i + 2 : Nat) : Int)).toNat).toInt = sc xs (i + 2) := rfl
  have n3 : (xs (((i + 3 : Nat) : Int)).toNat).toInt = sc xs (i + 3) := rfl
  obtain ⟨r, h1, h2, e1, e2, I2⟩ := both_whyNot I ((sc xs (i + 1))) ((bo (sc xs (i + 2))))
  refine g_seg hK [.aload_n 1, .aload_n 0, .iload_n 3, .iconst 1, .iadd] 474 479 (L1 := [(0, vR 100), (1, vR 0), (2, vR 76), (3, vI (i : Int))]) (st1 := [vI (wr ((i : Int) + 1)), vR 100, vR 0]) (h1 := _) (P := True ∧ True ∧ True ∧ True ∧ True ∧ True) (by decide +kernel) rfl rfl ⟨trivial, trivial, trivial, trivial, trivial, trivial⟩ ?_
  rw [w1]
  refine hL.2.1 479 _ _ _ _ b1 (by decide +kernel) ?_
  rw [n1]
  refine g_seg hK [.aload_n 0, .iload_n 3, .iconst 2, .iadd] 480 484 (L1 := [(0, vR 100), (1, vR 0), (2, vR 76), (3, vI (i : Int))]) (st1 := [vI (wr ((i : Int) + 2)), vR 100, vI (sc xs (i + 1)), vR 0]) (h1 := _) (P := True ∧ True ∧ True ∧ True ∧ True) (by decide +kernel) rfl rfl ⟨trivial, trivial, trivial, trivial, trivial⟩ ?_
  rw [w2]
  refine hL.2.1 484 _ _ _ _ b2 (by decide +kernel) ?_
  rw [n2]
  refine l_bool hK 485 488 492 493 (by decide +kernel) (by decide +kernel) (by decide +kernel) (by decide +kernel) rfl rfl rfl ?_
  refine g_callV1 hK 493 66 (d1 := 6) (ci := 6) (i := 0) (vs := [vI (sc xs (i + 1)), vI (bo (sc xs (i + 2)))]) (rest := []) (h1 := h1) (r := vI r) ml_X6_whyNot vl_66 (by decide) (T_X_whyNot (hF := e1)) rfl rfl rfl (Nat.le_of_ble_eq_true rfl) (by decide +kernel) ?_
  refine g_seg hK [.aload_n 2, .aload_n 0, .iload_n 3, .iconst 1, .iadd] 496 501 (L1 := [(0, vR 100), (1, vR 0), (2, vR 76), (3, vI (i : Int))]) (st1 := [vI (wr ((i : Int) + 1)), vR 100, vR 76, vI r]) (h1 := _) (P := True ∧ True ∧ True ∧ True ∧ True ∧ True) (by decide +kernel) rfl rfl ⟨trivial, trivial, trivial, trivial, trivial, trivial⟩ ?_
  rw [w1]
  refine hL.2.1 501 _ _ _ _ b1 (by decide +kernel) ?_
  rw [n1]
  refine g_seg hK [.aload_n 0, .iload_n 3, .iconst 2, .iadd] 502 506 (L1 := [(0, vR 100), (1, vR 0), (2, vR 76), (3, vI (i : Int))]) (st1 := [vI (wr ((i : Int) + 2)), vR 100, vI (sc xs (i + 1)), vR 76, vI r]) (h1 := _) (P := True ∧ True ∧ True ∧ True ∧ True) (by decide +kernel) rfl rfl ⟨trivial, trivial, trivial, trivial, trivial⟩ ?_
  rw [w2]
  refine hL.2.1 506 _ _ _ _ b2 (by decide +kernel) ?_
  rw [n2]
  refine l_bool hK 507 510 514 515 (by decide +kernel) (by decide +kernel) (by decide +kernel) (by decide +kernel) rfl rfl rfl ?_
  refine g_callV1 hK 515 70 (d1 := 7) (ci := 7) (i := 76) (vs := [vI (sc xs (i + 1)), vI (bo (sc xs (i + 2)))]) (rest := [vI r]) (h1 := h2) (r := vI r) ml_X7_whyNot vl_70 (by decide) (T_M_whyNot (hF := e2)) rfl rfl rfl (Nat.le_of_ble_eq_true rfl) (by decide +kernel) ?_
  refine g_icmp hK 518 .eq (203) 721 (t1 := 721) (t2 := 521) (by decide +kernel) (by decide) rfl rfl (fun _ => ?_) (fun (q : ¬ r = r) => absurd rfl q)
  exact hE h2 I2
set_option maxHeartbeats 4000000 in
set_option maxRecDepth 100000 in
theorem LC_count {K : KT} (hK : Rules RL code 8 ret fl0 11 K) {n : Nat} {xs : Nat → Int32} (hL : LRules n xs K) {i : Nat} (hi : i + 4 ≤ n) (hn : n ≤ 2048) {h : MH} (I : LINV h) (hE : ∀ h, LINV h → K 721 [(0, vR 100), (1, vR 0), (2, vR 76), (3, vI (i : Int))] [] h) : K 523 [(0, vR 100), (1, vR 0), (2, vR 76), (3, vI (i : Int))] [] h := by
  have w1 : wr ((i : Int) + 1) = ((i + 1 : Nat) : Int) := by rw [wr_id (by omega)]; omega
  have w2 : wr ((i : Int) + 2) = ((i + 2 : Nat) : Int) := by rw [wr_id (by omega)]; omega
  have w3 : wr ((i : Int) + 3) = ((i + 3 : Nat) : Int) := by rw [wr_id (by omega)]; omega
  have b1 : 0 ≤ ((i + 1 : Nat) : Int) ∧ ((i + 1 : Nat) : Int) < (n : Int) := by omega
  have b2 : 0 ≤ ((i + 2 : Nat) : Int) ∧ ((i + 2 : Nat) : Int) < (n : Int) := by omega
  have b3 : 0 ≤ ((i + 3 : Nat) : Int) ∧ ((i + 3 : Nat) : Int) < (n : Int) := by omega
  have n1 : (xs (((i + 1 : Nat) : Int)).toNat).toInt = sc xs (i + 1) := rfl
  have n2 : (xs (((i + 2 : Nat) : Int)).toNat).toInt = sc xs (i + 2) := rfl
  have n3 : (xs (((i + 3 : Nat) : Int)).toNat).toInt = sc xs (i + 3) := rfl
  obtain ⟨r, h1, h2, e1, e2, I2⟩ := both_count I ((sc xs (i + 1)))
  refine g_seg hK [.aload_n 1, .aload_n 0, .iload_n 3, .iconst 1, .iadd] 523 528 (L1 := [(0, vR 100), (1, vR 0), (2, vR 76), (3, vI (i : Int))]) (st1 := [vI (wr ((i : Int) + 1)), vR 100, vR 0]) (h1 := _) (P := True ∧ True ∧ True ∧ True ∧ True ∧ True) (by decide +kernel) rfl rfl ⟨trivial, trivial, trivial, trivial, trivial, trivial⟩ ?_
  rw [w1]
  refine hL.2.1 528 _ _ _ _ b1 (by decide +kernel) ?_
  rw [n1]
  refine g_callV1 hK 529 71 (d1 := 6) (ci := 6) (i := 0) (vs := [vI (sc xs (i + 1))]) (rest := []) (h1 := h1) (r := vI r) ml_X6_count vl_71 (by decide) (T_X_count (hF := e1)) rfl rfl rfl (Nat.le_of_ble_eq_true rfl) (by decide +kernel) ?_
  refine g_seg hK [.aload_n 2, .aload_n 0, .iload_n 3, .iconst 1, .iadd] 532 537 (L1 := [(0, vR 100), (1, vR 0), (2, vR 76), (3, vI (i : Int))]) (st1 := [vI (wr ((i : Int) + 1)), vR 100, vR 76, vI r]) (h1 := _) (P := True ∧ True ∧ True ∧ True ∧ True ∧ True) (by decide +kernel) rfl rfl ⟨trivial, trivial, trivial, trivial, trivial, trivial⟩ ?_
  rw [w1]
  refine hL.2.1 537 _ _ _ _ b1 (by decide +kernel) ?_
  rw [n1]
  refine g_callV1 hK 538 74 (d1 := 7) (ci := 7) (i := 76) (vs := [vI (sc xs (i + 1))]) (rest := [vI r]) (h1 := h2) (r := vI r) ml_X7_count vl_74 (by decide) (T_M_count (hF := e2)) rfl rfl rfl (Nat.le_of_ble_eq_true rfl) (by decide +kernel) ?_
  refine g_icmp hK 541 .eq (180) 721 (t1 := 721) (t2 := 544) (by decide +kernel) (by decide) rfl rfl (fun _ => ?_) (fun (q : ¬ r = r) => absurd rfl q)
  exact hE h2 I2
set_option maxHeartbeats 4000000 in
set_option maxRecDepth 100000 in
theorem LC_ifLaid {K : KT} (hK : Rules RL code 8 ret fl0 11 K) {n : Nat} {xs : Nat → Int32} (hL : LRules n xs K) {i : Nat} (hi : i + 4 ≤ n) (hn : n ≤ 2048) {h : MH} (I : LINV h) (hE : ∀ h, LINV h → K 721 [(0, vR 100), (1, vR 0), (2, vR 76), (3, vI (i : Int))] [] h) : K 587 [(0, vR 100), (1, vR 0), (2, vR 76), (3, vI (i : Int))] [] h := by
  have w1 : wr ((i : Int) + 1) = ((i + 1 : Nat) : Int) := by rw [wr_id (by omega)]; omega
  have w2 : wr ((i : Int) + 2) = ((i + 2 : Nat) : Int) := by rw [wr_id (by omega)]; omega
  have w3 : wr ((i : Int) + 3) = ((i + 3 : Nat) : Int) := by rw [wr_id (by omega)]; omega
  have b1 : 0 ≤ ((i + 1 : Nat) : Int) ∧ ((i + 1 : Nat) : Int) < (n : Int) := by omega
  have b2 : 0 ≤ ((i + 2 : Nat) : Int) ∧ ((i + 2 : Nat) : Int) < (n : Int) := by omega
  have b3 : 0 ≤ ((i + 3 : Nat) : Int) ∧ ((i + 3 : Nat) : Int) < (n : Int) := by omega
  have n1 : (xs (((i + 1 : Nat) : Int)).toNat).toInt = sc xs (i + 1) := rfl
  have n2 : (xs (((i + 2 : Nat) : Int)).toNat).toInt = sc xs (i + 2) := rfl
  have n3 : (xs (((i + 3 : Nat) : Int)).toNat).toInt = sc xs (i + 3) := rfl
  obtain ⟨r, h1, h2, e1, e2, I2⟩ := both_ifLaid I ((sc xs (i + 1))) ((bo (sc xs (i + 2)))) ((sc xs (i + 3)))
  refine g_seg hK [.aload_n 1, .aload_n 0, .iload_n 3, .iconst 1, .iadd] 587 592 (L1 := [(0, vR 100), (1, vR 0), (2, vR 76), (3, vI (i : Int))]) (st1 := [vI (wr ((i : Int) + 1)), vR 100, vR 0]) (h1 := _) (P := True ∧ True ∧ True ∧ True ∧ True ∧ True) (by decide +kernel) rfl rfl ⟨trivial, trivial, trivial, trivial, trivial, trivial⟩ ?_
  rw [w1]
  refine hL.2.1 592 _ _ _ _ b1 (by decide +kernel) ?_
  rw [n1]
  refine g_seg hK [.aload_n 0, .iload_n 3, .iconst 2, .iadd] 593 597 (L1 := [(0, vR 100), (1, vR 0), (2, vR 76), (3, vI (i : Int))]) (st1 := [vI (wr ((i : Int) + 2)), vR 100, vI (sc xs (i + 1)), vR 0]) (h1 := _) (P := True ∧ True ∧ True ∧ True ∧ True) (by decide +kernel) rfl rfl ⟨trivial, trivial, trivial, trivial, trivial⟩ ?_
  rw [w2]
  refine hL.2.1 597 _ _ _ _ b2 (by decide +kernel) ?_
  rw [n2]
  refine l_bool hK 598 601 605 606 (by decide +kernel) (by decide +kernel) (by decide +kernel) (by decide +kernel) rfl rfl rfl ?_
  refine g_seg hK [.aload_n 0, .iload_n 3, .iconst 3, .iadd] 606 610 (L1 := [(0, vR 100), (1, vR 0), (2, vR 76), (3, vI (i : Int))]) (st1 := [vI (wr ((i : Int) + 3)), vR 100, vI (bo (sc xs (i + 2))), vI (sc xs (i + 1)), vR 0]) (h1 := _) (P := True ∧ True ∧ True ∧ True ∧ True) (by decide +kernel) rfl rfl ⟨trivial, trivial, trivial, trivial, trivial⟩ ?_
  rw [w3]
  refine hL.2.1 610 _ _ _ _ b3 (by decide +kernel) ?_
  rw [n3]
  refine g_callV1 hK 611 80 (d1 := 6) (ci := 6) (i := 0) (vs := [vI (sc xs (i + 1)), vI (bo (sc xs (i + 2))), vI (sc xs (i + 3))]) (rest := []) (h1 := h1) (r := vI r) ml_X6_ifLaid vl_80 (by decide) (T_X_ifLaid (hF := e1)) rfl rfl rfl (Nat.le_of_ble_eq_true rfl) (by decide +kernel) ?_
  refine g_seg hK [.aload_n 2, .aload_n 0, .iload_n 3, .iconst 1, .iadd] 614 619 (L1 := [(0, vR 100), (1, vR 0), (2, vR 76), (3, vI (i : Int))]) (st1 := [vI (wr ((i : Int) + 1)), vR 100, vR 76, vI r]) (h1 := _) (P := True ∧ True ∧ True ∧ True ∧ True ∧ True) (by decide +kernel) rfl rfl ⟨trivial, trivial, trivial, trivial, trivial, trivial⟩ ?_
  rw [w1]
  refine hL.2.1 619 _ _ _ _ b1 (by decide +kernel) ?_
  rw [n1]
  refine g_seg hK [.aload_n 0, .iload_n 3, .iconst 2, .iadd] 620 624 (L1 := [(0, vR 100), (1, vR 0), (2, vR 76), (3, vI (i : Int))]) (st1 := [vI (wr ((i : Int) + 2)), vR 100, vI (sc xs (i + 1)), vR 76, vI r]) (h1 := _) (P := True ∧ True ∧ True ∧ True ∧ True) (by decide +kernel) rfl rfl ⟨trivial, trivial, trivial, trivial, trivial⟩ ?_
  rw [w2]
  refine hL.2.1 624 _ _ _ _ b2 (by decide +kernel) ?_
  rw [n2]
  refine l_bool hK 625 628 632 633 (by decide +kernel) (by decide +kernel) (by decide +kernel) (by decide +kernel) rfl rfl rfl ?_
  refine g_seg hK [.aload_n 0, .iload_n 3, .iconst 3, .iadd] 633 637 (L1 := [(0, vR 100), (1, vR 0), (2, vR 76), (3, vI (i : Int))]) (st1 := [vI (wr ((i : Int) + 3)), vR 100, vI (bo (sc xs (i + 2))), vI (sc xs (i + 1)), vR 76, vI r]) (h1 := _) (P := True ∧ True ∧ True ∧ True ∧ True) (by decide +kernel) rfl rfl ⟨trivial, trivial, trivial, trivial, trivial⟩ ?_
  rw [w3]
  refine hL.2.1 637 _ _ _ _ b3 (by decide +kernel) ?_
  rw [n3]
  refine g_callV1 hK 638 84 (d1 := 7) (ci := 7) (i := 76) (vs := [vI (sc xs (i + 1)), vI (bo (sc xs (i + 2))), vI (sc xs (i + 3))]) (rest := [vI r]) (h1 := h2) (r := vI r) ml_X7_ifLaid vl_84 (by decide) (T_M_ifLaid (hF := e2)) rfl rfl rfl (Nat.le_of_ble_eq_true rfl) (by decide +kernel) ?_
  refine g_icmp hK 641 .eq (80) 721 (t1 := 721) (t2 := 644) (by decide +kernel) (by decide) rfl rfl (fun _ => ?_) (fun (q : ¬ r = r) => absurd rfl q)
  exact hE h2 I2
set_option maxHeartbeats 4000000 in
set_option maxRecDepth 100000 in
theorem LC_ifAround {K : KT} (hK : Rules RL code 8 ret fl0 11 K) {n : Nat} {xs : Nat → Int32} (hL : LRules n xs K) {i : Nat} (hi : i + 4 ≤ n) (hn : n ≤ 2048) {h : MH} (I : LINV h) (hE : ∀ h, LINV h → K 721 [(0, vR 100), (1, vR 0), (2, vR 76), (3, vI (i : Int))] [] h) : K 646 [(0, vR 100), (1, vR 0), (2, vR 76), (3, vI (i : Int))] [] h := by
  have w1 : wr ((i : Int) + 1) = ((i + 1 : Nat) : Int) := by rw [wr_id (by omega)]; omega
  have w2 : wr ((i : Int) + 2) = ((i + 2 : Nat) : Int) := by rw [wr_id (by omega)]; omega
  have w3 : wr ((i : Int) + 3) = ((i + 3 : Nat) : Int) := by rw [wr_id (by omega)]; omega
  have b1 : 0 ≤ ((i + 1 : Nat) : Int) ∧ ((i + 1 : Nat) : Int) < (n : Int) := by omega
  have b2 : 0 ≤ ((i + 2 : Nat) : Int) ∧ ((i + 2 : Nat) : Int) < (n : Int) := by omega
  have b3 : 0 ≤ ((i + 3 : Nat) : Int) ∧ ((i + 3 : Nat) : Int) < (n : Int) := by omega
  have n1 : (xs (((i + 1 : Nat) : Int)).toNat).toInt = sc xs (i + 1) := rfl
  have n2 : (xs (((i + 2 : Nat) : Int)).toNat).toInt = sc xs (i + 2) := rfl
  have n3 : (xs (((i + 3 : Nat) : Int)).toNat).toInt = sc xs (i + 3) := rfl
  obtain ⟨r, h1, h2, e1, e2, I2⟩ := both_ifAround I ((sc xs (i + 1)))
  refine g_seg hK [.aload_n 1, .aload_n 0, .iload_n 3, .iconst 1, .iadd] 646 651 (L1 := [(0, vR 100), (1, vR 0), (2, vR 76), (3, vI (i : Int))]) (st1 := [vI (wr ((i : Int) + 1)), vR 100, vR 0]) (h1 := _) (P := True ∧ True ∧ True ∧ True ∧ True ∧ True) (by decide +kernel) rfl rfl ⟨trivial, trivial, trivial, trivial, trivial, trivial⟩ ?_
  rw [w1]
  refine hL.2.1 651 _ _ _ _ b1 (by decide +kernel) ?_
  rw [n1]
  refine g_callV1 hK 652 85 (d1 := 6) (ci := 6) (i := 0) (vs := [vI (sc xs (i + 1))]) (rest := []) (h1 := h1) (r := vI r) ml_X6_ifAround vl_85 (by decide) (T_X_ifAround (hF := e1)) rfl rfl rfl (Nat.le_of_ble_eq_true rfl) (by decide +kernel) ?_
  refine g_seg hK [.aload_n 2, .aload_n 0, .iload_n 3, .iconst 1, .iadd] 655 660 (L1 := [(0, vR 100), (1, vR 0), (2, vR 76), (3, vI (i : Int))]) (st1 := [vI (wr ((i : Int) + 1)), vR 100, vR 76, vI r]) (h1 := _) (P := True ∧ True ∧ True ∧ True ∧ True ∧ True) (by decide +kernel) rfl rfl ⟨trivial, trivial, trivial, trivial, trivial, trivial⟩ ?_
  rw [w1]
  refine hL.2.1 660 _ _ _ _ b1 (by decide +kernel) ?_
  rw [n1]
  refine g_callV1 hK 661 88 (d1 := 7) (ci := 7) (i := 76) (vs := [vI (sc xs (i + 1))]) (rest := [vI r]) (h1 := h2) (r := vI r) ml_X7_ifAround vl_88 (by decide) (T_M_ifAround (hF := e2)) rfl rfl rfl (Nat.le_of_ble_eq_true rfl) (by decide +kernel) ?_
  refine g_icmp hK 664 .eq (57) 721 (t1 := 721) (t2 := 667) (by decide +kernel) (by decide) rfl rfl (fun _ => ?_) (fun (q : ¬ r = r) => absurd rfl q)
  exact hE h2 I2
set_option maxHeartbeats 4000000 in
set_option maxRecDepth 100000 in
theorem LC_least {K : KT} (hK : Rules RL code 8 ret fl0 11 K) {n : Nat} {xs : Nat → Int32} (hL : LRules n xs K) {i : Nat} (hi : i + 4 ≤ n) (hn : n ≤ 2048) {h : MH} (I : LINV h) (hE : ∀ h, LINV h → K 721 [(0, vR 100), (1, vR 0), (2, vR 76), (3, vI (i : Int))] [] h) : K 669 [(0, vR 100), (1, vR 0), (2, vR 76), (3, vI (i : Int))] [] h := by
  have w1 : wr ((i : Int) + 1) = ((i + 1 : Nat) : Int) := by rw [wr_id (by omega)]; omega
  have w2 : wr ((i : Int) + 2) = ((i + 2 : Nat) : Int) := by rw [wr_id (by omega)]; omega
  have w3 : wr ((i : Int) + 3) = ((i + 3 : Nat) : Int) := by rw [wr_id (by omega)]; omega
  have b1 : 0 ≤ ((i + 1 : Nat) : Int) ∧ ((i + 1 : Nat) : Int) < (n : Int) := by omega
  have b2 : 0 ≤ ((i + 2 : Nat) : Int) ∧ ((i + 2 : Nat) : Int) < (n : Int) := by omega
  have b3 : 0 ≤ ((i + 3 : Nat) : Int) ∧ ((i + 3 : Nat) : Int) < (n : Int) := by omega
  have n1 : (xs (((i + 1 : Nat) : Int)).toNat).toInt = sc xs (i + 1) := rfl
  have n2 : (xs (((i + 2 : Nat) : Int)).toNat).toInt = sc xs (i + 2) := rfl
  have n3 : (xs (((i + 3 : Nat) : Int)).toNat).toInt = sc xs (i + 3) := rfl
  obtain ⟨r, h1, h2, e1, e2, I2⟩ := both_least I 
  refine g_seg hK [.aload_n 1] 669 670 (L1 := [(0, vR 100), (1, vR 0), (2, vR 76), (3, vI (i : Int))]) (st1 := [vR 0]) (h1 := _) (P := True ∧ True) (by decide +kernel) rfl rfl ⟨trivial, trivial⟩ ?_
  refine g_callV1 hK 670 89 (d1 := 5) (ci := 6) (i := 0) (vs := []) (rest := []) (h1 := h1) (r := vI r) ml_X6_least vl_89 (by decide) (T_X_least (hF := e1)) rfl rfl rfl (Nat.le_of_ble_eq_true rfl) (by decide +kernel) ?_
  refine g_seg hK [.aload_n 2] 673 674 (L1 := [(0, vR 100), (1, vR 0), (2, vR 76), (3, vI (i : Int))]) (st1 := [vR 76, vI r]) (h1 := _) (P := True ∧ True) (by decide +kernel) rfl rfl ⟨trivial, trivial⟩ ?_
  refine g_callV1 hK 674 92 (d1 := 3) (ci := 7) (i := 76) (vs := []) (rest := [vI r]) (h1 := h2) (r := vI r) ml_X7_least vl_92 (by decide) (T_M_least (hF := e2)) rfl rfl rfl (Nat.le_of_ble_eq_true rfl) (by decide +kernel) ?_
  refine g_icmp hK 677 .eq (44) 721 (t1 := 721) (t2 := 680) (by decide +kernel) (by decide) rfl rfl (fun _ => ?_) (fun (q : ¬ r = r) => absurd rfl q)
  exact hE h2 I2
set_option maxHeartbeats 4000000 in
set_option maxRecDepth 100000 in
theorem LC_undo {K : KT} (hK : Rules RL code 8 ret fl0 11 K) {n : Nat} {xs : Nat → Int32} (hL : LRules n xs K) {i : Nat} (hi : i + 4 ≤ n) (hn : n ≤ 2048) {h : MH} (I : LINV h) (hE : ∀ h, LINV h → K 721 [(0, vR 100), (1, vR 0), (2, vR 76), (3, vI (i : Int))] [] h) : K 682 [(0, vR 100), (1, vR 0), (2, vR 76), (3, vI (i : Int))] [] h := by
  have w1 : wr ((i : Int) + 1) = ((i + 1 : Nat) : Int) := by rw [wr_id (by omega)]; omega
  have w2 : wr ((i : Int) + 2) = ((i + 2 : Nat) : Int) := by rw [wr_id (by omega)]; omega
  have w3 : wr ((i : Int) + 3) = ((i + 3 : Nat) : Int) := by rw [wr_id (by omega)]; omega
  have b1 : 0 ≤ ((i + 1 : Nat) : Int) ∧ ((i + 1 : Nat) : Int) < (n : Int) := by omega
  have b2 : 0 ≤ ((i + 2 : Nat) : Int) ∧ ((i + 2 : Nat) : Int) < (n : Int) := by omega
  have b3 : 0 ≤ ((i + 3 : Nat) : Int) ∧ ((i + 3 : Nat) : Int) < (n : Int) := by omega
  have n1 : (xs (((i + 1 : Nat) : Int)).toNat).toInt = sc xs (i + 1) := rfl
  have n2 : (xs (((i + 2 : Nat) : Int)).toNat).toInt = sc xs (i + 2) := rfl
  have n3 : (xs (((i + 3 : Nat) : Int)).toNat).toInt = sc xs (i + 3) := rfl
  obtain ⟨r, h1, h2, e1, e2, I2⟩ := both_undo I 
  refine g_seg hK [.aload_n 1] 682 683 (L1 := [(0, vR 100), (1, vR 0), (2, vR 76), (3, vI (i : Int))]) (st1 := [vR 0]) (h1 := _) (P := True ∧ True) (by decide +kernel) rfl rfl ⟨trivial, trivial⟩ ?_
  refine g_callV1 hK 683 93 (d1 := 5) (ci := 6) (i := 0) (vs := []) (rest := []) (h1 := h1) (r := vI r) ml_X6_undo vl_93 (by decide) (T_X_undo (hF := e1)) rfl rfl rfl (Nat.le_of_ble_eq_true rfl) (by decide +kernel) ?_
  refine g_seg hK [.aload_n 2] 686 687 (L1 := [(0, vR 100), (1, vR 0), (2, vR 76), (3, vI (i : Int))]) (st1 := [vR 76, vI r]) (h1 := _) (P := True ∧ True) (by decide +kernel) rfl rfl ⟨trivial, trivial⟩ ?_
  refine g_callV1 hK 687 96 (d1 := 0) (ci := 7) (i := 76) (vs := []) (rest := [vI r]) (h1 := h2) (r := vI r) ml_X7_undo vl_96 (by decide) (T_M_undo (hF := e2)) rfl rfl rfl (Nat.le_of_ble_eq_true rfl) (by decide +kernel) ?_
  refine g_icmp hK 690 .eq (31) 721 (t1 := 721) (t2 := 693) (by decide +kernel) (by decide) rfl rfl (fun _ => ?_) (fun (q : ¬ r = r) => absurd rfl q)
  exact hE h2 I2
set_option maxHeartbeats 4000000 in
set_option maxRecDepth 100000 in
theorem LC_save {K : KT} (hK : Rules RL code 8 ret fl0 11 K) {n : Nat} {xs : Nat → Int32} (hL : LRules n xs K) {i : Nat} (hi : i + 4 ≤ n) (hn : n ≤ 2048) {h : MH} (I : LINV h) (hE : ∀ h, LINV h → K 721 [(0, vR 100), (1, vR 0), (2, vR 76), (3, vI (i : Int))] [] h) : K 695 [(0, vR 100), (1, vR 0), (2, vR 76), (3, vI (i : Int))] [] h := by
  have w1 : wr ((i : Int) + 1) = ((i + 1 : Nat) : Int) := by rw [wr_id (by omega)]; omega
  have w2 : wr ((i : Int) + 2) = ((i + 2 : Nat) : Int) := by rw [wr_id (by omega)]; omega
  have w3 : wr ((i : Int) + 3) = ((i + 3 : Nat) : Int) := by rw [wr_id (by omega)]; omega
  have b1 : 0 ≤ ((i + 1 : Nat) : Int) ∧ ((i + 1 : Nat) : Int) < (n : Int) := by omega
  have b2 : 0 ≤ ((i + 2 : Nat) : Int) ∧ ((i + 2 : Nat) : Int) < (n : Int) := by omega
  have b3 : 0 ≤ ((i + 3 : Nat) : Int) ∧ ((i + 3 : Nat) : Int) < (n : Int) := by omega
  have n1 : (xs (((i + 1 : Nat) : Int)).toNat).toInt = sc xs (i + 1) := rfl
  have n2 : (xs (((i + 2 : Nat) : Int)).toNat).toInt = sc xs (i + 2) := rfl
  have n3 : (xs (((i + 3 : Nat) : Int)).toNat).toInt = sc xs (i + 3) := rfl
  obtain ⟨r, h1, h2, e1, e2, I2⟩ := both_save I 
  refine g_seg hK [.aload_n 1] 695 696 (L1 := [(0, vR 100), (1, vR 0), (2, vR 76), (3, vI (i : Int))]) (st1 := [vR 0]) (h1 := _) (P := True ∧ True) (by decide +kernel) rfl rfl ⟨trivial, trivial⟩ ?_
  refine g_callV1 hK 696 97 (d1 := 6) (ci := 6) (i := 0) (vs := []) (rest := []) (h1 := h1) (r := vI r) ml_X6_save vl_97 (by decide) (T_X_save (hF := e1)) rfl rfl rfl (Nat.le_of_ble_eq_true rfl) (by decide +kernel) ?_
  refine g_seg hK [.aload_n 2] 699 700 (L1 := [(0, vR 100), (1, vR 0), (2, vR 76), (3, vI (i : Int))]) (st1 := [vR 76, vI r]) (h1 := _) (P := True ∧ True) (by decide +kernel) rfl rfl ⟨trivial, trivial⟩ ?_
  refine g_callV1 hK 700 100 (d1 := 3) (ci := 7) (i := 76) (vs := []) (rest := [vI r]) (h1 := h2) (r := vI r) ml_X7_save vl_100 (by decide) (T_M_save (hF := e2)) rfl rfl rfl (Nat.le_of_ble_eq_true rfl) (by decide +kernel) ?_
  refine g_icmp hK 703 .eq (18) 721 (t1 := 721) (t2 := 706) (by decide +kernel) (by decide) rfl rfl (fun _ => ?_) (fun (q : ¬ r = r) => absurd rfl q)
  exact hE h2 I2
set_option maxHeartbeats 4000000 in
set_option maxRecDepth 100000 in
theorem LC_restore {K : KT} (hK : Rules RL code 8 ret fl0 11 K) {n : Nat} {xs : Nat → Int32} (hL : LRules n xs K) {i : Nat} (hi : i + 4 ≤ n) (hn : n ≤ 2048) {h : MH} (I : LINV h) (hE : ∀ h, LINV h → K 721 [(0, vR 100), (1, vR 0), (2, vR 76), (3, vI (i : Int))] [] h) : K 708 [(0, vR 100), (1, vR 0), (2, vR 76), (3, vI (i : Int))] [] h := by
  have w1 : wr ((i : Int) + 1) = ((i + 1 : Nat) : Int) := by rw [wr_id (by omega)]; omega
  have w2 : wr ((i : Int) + 2) = ((i + 2 : Nat) : Int) := by rw [wr_id (by omega)]; omega
  have w3 : wr ((i : Int) + 3) = ((i + 3 : Nat) : Int) := by rw [wr_id (by omega)]; omega
  have b1 : 0 ≤ ((i + 1 : Nat) : Int) ∧ ((i + 1 : Nat) : Int) < (n : Int) := by omega
  have b2 : 0 ≤ ((i + 2 : Nat) : Int) ∧ ((i + 2 : Nat) : Int) < (n : Int) := by omega
  have b3 : 0 ≤ ((i + 3 : Nat) : Int) ∧ ((i + 3 : Nat) : Int) < (n : Int) := by omega
  have n1 : (xs (((i + 1 : Nat) : Int)).toNat).toInt = sc xs (i + 1) := rfl
  have n2 : (xs (((i + 2 : Nat) : Int)).toNat).toInt = sc xs (i + 2) := rfl
  have n3 : (xs (((i + 3 : Nat) : Int)).toNat).toInt = sc xs (i + 3) := rfl
  obtain ⟨r, h1, h2, e1, e2, I2⟩ := both_restore I 
  refine g_seg hK [.aload_n 1] 708 709 (L1 := [(0, vR 100), (1, vR 0), (2, vR 76), (3, vI (i : Int))]) (st1 := [vR 0]) (h1 := _) (P := True ∧ True) (by decide +kernel) rfl rfl ⟨trivial, trivial⟩ ?_
  refine g_callV1 hK 709 101 (d1 := 6) (ci := 6) (i := 0) (vs := []) (rest := []) (h1 := h1) (r := vI r) ml_X6_restore vl_101 (by decide) (T_X_restore (hF := e1)) rfl rfl rfl (Nat.le_of_ble_eq_true rfl) (by decide +kernel) ?_
  refine g_seg hK [.aload_n 2] 712 713 (L1 := [(0, vR 100), (1, vR 0), (2, vR 76), (3, vI (i : Int))]) (st1 := [vR 76, vI r]) (h1 := _) (P := True ∧ True) (by decide +kernel) rfl rfl ⟨trivial, trivial⟩ ?_
  refine g_callV1 hK 713 104 (d1 := 3) (ci := 7) (i := 76) (vs := []) (rest := [vI r]) (h1 := h2) (r := vI r) ml_X7_restore vl_104 (by decide) (T_M_restore (hF := e2)) rfl rfl rfl (Nat.le_of_ble_eq_true rfl) (by decide +kernel) ?_
  refine g_icmp hK 716 .eq (5) 721 (t1 := 721) (t2 := 719) (by decide +kernel) (by decide) rfl rfl (fun _ => ?_) (fun (q : ¬ r = r) => absurd rfl q)
  exact hE h2 I2
set_option maxHeartbeats 4000000 in
set_option maxRecDepth 100000 in
theorem LC_alike {K : KT} (hK : Rules RL code 8 ret fl0 11 K) {n : Nat} {xs : Nat → Int32} (hL : LRules n xs K) {i : Nat} (hi : i + 4 ≤ n) (hn : n ≤ 2048) {h : MH} (I : LINV h) (hE : ∀ h, LINV h → K 721 [(0, vR 100), (1, vR 0), (2, vR 76), (3, vI (i : Int))] [] h) : K 546 [(0, vR 100), (1, vR 0), (2, vR 76), (3, vI (i : Int))] [] h := by
  obtain ⟨r, h1, h2, e1, e2, hc, I2⟩ := both_alike I
  refine g_seg hK [.aload_n 1] 546 547 (L1 := [(0, vR 100), (1, vR 0), (2, vR 76), (3, vI (i : Int))]) (st1 := [vR 0]) (h1 := _) (P := True ∧ True) (by decide +kernel) rfl rfl ⟨trivial, trivial⟩ ?_
  refine g_callV1 hK 547 75 (d1 := 4) (ci := 6) (i := 0) (vs := []) (rest := []) (h1 := h1) (r := vD r) ml_X6_alike vl_75 (by decide) (T_X_alike (hF := e1)) rfl rfl rfl (Nat.le_of_ble_eq_true rfl) (by decide +kernel) ?_
  refine g_seg hK [.dstore 4, .aload_n 2] 550 553 (L1 := [(4, vD r), (0, vR 100), (1, vR 0), (2, vR 76), (3, vI (i : Int))]) (st1 := [vR 76]) (h1 := _) (P := True ∧ True ∧ True) (by decide +kernel) rfl rfl ⟨trivial, trivial, trivial⟩ ?_
  refine g_callV1 hK 553 79 (d1 := 3) (ci := 7) (i := 76) (vs := []) (rest := []) (h1 := h2) (r := vD r) ml_X7_alike vl_79 (by decide) (T_M_alike (hF := e2)) rfl rfl rfl (Nat.le_of_ble_eq_true rfl) (by decide +kernel) ?_
  refine g_seg hK [.dstore 6, .dload 4, .dload 6, .dcmp .l] 556 563 (L1 := [(6, vD r), (4, vD r), (0, vR 100), (1, vR 0), (2, vR 76), (3, vI (i : Int))]) (st1 := [vI (Op.cmpValue (FP.dcmp r r) .l).toInt]) (h1 := _) (P := True ∧ True ∧ True ∧ True ∧ True) (by decide +kernel) rfl rfl ⟨trivial, trivial, trivial, trivial, trivial⟩ ?_
  rw [hc]
  refine g_ifz hK 563 .eq (21) 584 (t1 := 584) (t2 := 566) (by decide +kernel) (by decide) rfl rfl (fun _ => ?_) (fun q => absurd (show (Op.cmpValue (some Ordering.eq) .l).toInt = (0 : Int) by decide) q)
  refine g_goto hK 584 137 721 (by decide +kernel) (by decide) ?_
  refine hK.2.1 _ _ [(0, vR 100), (1, vR 0), (2, vR 76), (3, vI (i : Int))] _ _ (sub_of [2, 3, 4, 5] rfl) ?_
  exact hE h2 I2
set_option maxHeartbeats 4000000 in
set_option maxRecDepth 100000 in
theorem law_cases {K : KT} (hK : Rules RL code 8 ret fl0 11 K) {n : Nat} {xs : Nat → Int32} (hL : LRules n xs K) {i : Nat} (hi : i + 4 ≤ n) (hn : n ≤ 2048) {h : MH} (I : LINV h) (hE : ∀ h, LINV h → K 721 [(0, vR 100), (1, vR 0), (2, vR 76), (3, vI (i : Int))] [] h) : ∀ v : Int, K (swT 32 689 0 20 [100, 123, 136, 149, 172, 215, 248, 281, 320, 353, 376, 409, 442, 491, 514, 555, 614, 637, 650, 663, 676] v) [(0, vR 100), (1, vR 0), (2, vR 76), (3, vI (i : Int))] [] h := by
  intro v
  unfold swT
  by_cases c : v < 0 ∨ 20 < v
  · rw [if_pos c]
    exact hE h I
  · rw [if_neg c]
    rcases (show v = 0 ∨ v = 1 ∨ v = 2 ∨ v = 3 ∨ v = 4 ∨ v = 5 ∨ v = 6 ∨ v = 7 ∨ v = 8 ∨ v = 9 ∨ v = 10 ∨ v = 11 ∨ v = 12 ∨ v = 13 ∨ v = 14 ∨ v = 15 ∨ v = 16 ∨ v = 17 ∨ v = 18 ∨ v = 19 ∨ v = 20 by omega) with rfl | rfl | rfl | rfl | rfl | rfl | rfl | rfl | rfl | rfl | rfl | rfl | rfl | rfl | rfl | rfl | rfl | rfl | rfl | rfl | rfl
    · exact LC_append hK hL hi hn I hE
    · exact LC_clear hK hL hi hn I hE
    · exact LC_fault hK hL hi hn I hE
    · exact LC_load hK hL hi hn I hE
    · exact LC_edit hK hL hi hn I hE
    · exact LC_swap hK hL hi hn I hE
    · exact LC_set hK hL hi hn I hE
    · exact LC_lay hK hL hi hn I hE
    · exact LC_line hK hL hi hn I hE
    · exact LC_distance hK hL hi hn I hE
    · exact LC_view hK hL hi hn I hE
    · exact LC_hunk hK hL hi hn I hE
    · exact LC_whyNot hK hL hi hn I hE
    · exact LC_count hK hL hi hn I hE
    · exact LC_alike hK hL hi hn I hE
    · exact LC_ifLaid hK hL hi hn I hE
    · exact LC_ifAround hK hL hi hn I hE
    · exact LC_least hK hL hi hn I hE
    · exact LC_undo hK hL hi hn I hE
    · exact LC_save hK hL hi hn I hE
    · exact LC_restore hK hL hi hn I hE
set_option maxHeartbeats 4000000 in
set_option maxRecDepth 100000 in
theorem law_head {K : KT} (hK : Rules RL code 8 ret fl0 11 K) {n : Nat} {xs : Nat → Int32} (hL : LRules n xs K) {i : Nat} (hi : i ≤ 2052) (hn : n ≤ 2048) {h : MH} (k : i + 4 ≤ n → K 26 [(0, vR 100), (1, vR 0), (2, vR 76), (3, vI (i : Int))] [] h) : K 18 [(0, vR 100), (1, vR 0), (2, vR 76), (3, vI (i : Int))] [] h := by
  have w : wr ((n : Int) - 4) = (n : Int) - 4 := wr_id (by omega)
  refine g_seg hK [.iload_n 3, .aload_n 0] 18 20 (L1 := [(0, vR 100), (1, vR 0), (2, vR 76), (3, vI (i : Int))]) (st1 := [vR 100, vI (i : Int)]) (h1 := _) (P := True ∧ True ∧ True) (by decide +kernel) rfl rfl ⟨trivial, trivial, trivial⟩ ?_
  refine hL.1 20 _ _ _ (by decide +kernel) ?_
  refine g_seg hK [.iconst 4, .isub] 21 23 (L1 := [(0, vR 100), (1, vR 0), (2, vR 76), (3, vI (i : Int))]) (st1 := [vI (wr ((n : Int) - 4)), vI (i : Int)]) (h1 := _) (P := True ∧ True ∧ True) (by decide +kernel) rfl rfl ⟨trivial, trivial, trivial⟩ ?_
  rw [w]
  refine g_icmp hK 23 .gt (704) 727 (t1 := 26) (t2 := 727) (by decide +kernel) (by decide) rfl rfl (fun (c : (i : Int) ≤ (n : Int) - 4) => k (by omega)) (fun _ => ?_)
  refine g_seg hK [.iconst 1] 727 728 (L1 := [(0, vR 100), (1, vR 0), (2, vR 76), (3, vI (i : Int))]) (st1 := [vI 1]) (h1 := _) (P := True ∧ True) (by decide +kernel) rfl rfl ⟨trivial, trivial⟩ ?_
  exact hL.2.2.2 728 _ _ (by decide +kernel)
set_option maxHeartbeats 4000000 in
set_option maxRecDepth 100000 in
theorem law_loop {K : KT} (hK : Rules RL code 8 ret fl0 11 K) {n : Nat} {xs : Nat → Int32} (hL : LRules n xs K) (hn : n ≤ 2048) : ∀ (f i : Nat) (h : MH), n + 4 ≤ i + 4 * f → i ≤ 2052 → LINV h → K 18 [(0, vR 100), (1, vR 0), (2, vR 76), (3, vI (i : Int))] [] h := by
  intro f
  induction f with
  | zero =>
    intro i h h1 h2 I
    exact law_head hK hL h2 hn (fun q => absurd q (by omega))
  | succ f ih =>
    intro i h h1 h2 I
    refine law_head hK hL h2 hn (fun q => ?_)
    refine g_seg hK [.aload_n 0, .iload_n 3] 26 28 (L1 := [(0, vR 100), (1, vR 0), (2, vR 76), (3, vI (i : Int))]) (st1 := [vI (i : Int), vR 100]) (h1 := _) (P := True ∧ True ∧ True) (by decide +kernel) rfl rfl ⟨trivial, trivial, trivial⟩ ?_
    refine hL.2.1 28 _ _ _ _ (by omega) (by decide +kernel) ?_
    refine g_seg hK [.bipush 31] 29 31 (L1 := [(0, vR 100), (1, vR 0), (2, vR 76), (3, vI (i : Int))]) (st1 := [vI 31, vI (xs ((i : Int)).toNat).toInt]) (h1 := _) (P := True ∧ True) (by decide +kernel) rfl rfl ⟨trivial, trivial⟩ ?_
    refine hL.2.2.1 31 _ _ _ _ _ (by decide +kernel) ?_
    refine g_sw hK 32 689 0 20 #[100, 123, 136, 149, 172, 215, 248, 281, 320, 353, 376, 409, 442, 491, 514, 555, 614, 637, 650, 663, 676] 100 (by decide +kernel) (by decide) ?_
    refine law_cases hK hL q hn I (fun h' I' => ?_) _
    have w4 : wr ((i : Int) + 4) = ((i + 4 : Nat) : Int) := by rw [wr_id (by omega)]; omega
    refine g_seg hK [.iinc 3 4] 721 724 (L1 := [(3, vI (wr ((i : Int) + 4))), (0, vR 100), (1, vR 0), (2, vR 76)]) (st1 := []) (h1 := _) (P := True ∧ True) (by decide +kernel) rfl rfl ⟨trivial, trivial⟩ ?_
    refine g_goto hK 724 (-706) 18 (by decide +kernel) (by decide) ?_
    rw [w4]
    refine hK.2.1 _ _ [(0, vR 100), (1, vR 0), (2, vR 76), (3, vI ((i + 4 : Nat) : Int))] _ _ (sub_of [1, 2, 3, 0] rfl) ?_
    exact ih (i + 4) h' (by omega) (by omega) I'

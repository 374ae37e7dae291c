section
-- ===== PART A: goes FIRST, ahead of the names: the tables' words, and 'selects' of the private methods out of them =====
/-- a private method of a class that the tables say can be made, by its rows of tables_1 -/
def lw_okq (q : MethodName × Nat) : Prop := (q.1.cls ≠ "java/lang/invoke/MethodHandle" ∧ q.1.cls ≠ "java/lang/invoke/VarHandle") ∧ Cond.instantiable q.1.cls q.2 ∈ tables_1 ∧ Cond.privateMethod q.1 ∈ tables_1 ∧ Cond.instanceMethod q.1 ∈ tables_1
theorem lw_p0 : lw_okq (⟨"HunkSlides", "padSign", "(I)I"⟩, 9) := ⟨⟨by decide +kernel, by decide +kernel⟩, List.mem_of_getElem? (i := 16) (by decide +kernel), List.mem_of_getElem? (i := 214) (by decide +kernel), List.mem_of_getElem? (i := 215) (by decide +kernel)⟩
theorem lw_p1 : lw_okq (⟨"HunkSlides$History", "dropOldest", "()V"⟩, 2) := ⟨⟨by decide +kernel, by decide +kernel⟩, List.mem_of_getElem? (i := 68) (by decide +kernel), List.mem_of_getElem? (i := 322) (by decide +kernel), List.mem_of_getElem? (i := 323) (by decide +kernel)⟩
theorem lw_p2 : lw_okq (⟨"HunkSlides$History", "slot", "(I)LHunkSlides$State;"⟩, 2) := ⟨⟨by decide +kernel, by decide +kernel⟩, List.mem_of_getElem? (i := 68) (by decide +kernel), List.mem_of_getElem? (i := 326) (by decide +kernel), List.mem_of_getElem? (i := 327) (by decide +kernel)⟩
theorem lw_p3 : lw_okq (⟨"HunkSlides", "distanceNow", "()I"⟩, 9) := ⟨⟨by decide +kernel, by decide +kernel⟩, List.mem_of_getElem? (i := 16) (by decide +kernel), List.mem_of_getElem? (i := 375) (by decide +kernel), List.mem_of_getElem? (i := 376) (by decide +kernel)⟩
theorem lw_p4 : lw_okq (⟨"HunkSlides$Comparison", "keptFrom", "(II)I"⟩, 2) := ⟨⟨by decide +kernel, by decide +kernel⟩, List.mem_of_getElem? (i := 84) (by decide +kernel), List.mem_of_getElem? (i := 397) (by decide +kernel), List.mem_of_getElem? (i := 398) (by decide +kernel)⟩
theorem lw_p5 : lw_okq (⟨"HunkSlides", "show", "()V"⟩, 9) := ⟨⟨by decide +kernel, by decide +kernel⟩, List.mem_of_getElem? (i := 16) (by decide +kernel), List.mem_of_getElem? (i := 419) (by decide +kernel), List.mem_of_getElem? (i := 420) (by decide +kernel)⟩
theorem lw_p6 : lw_okq (⟨"HunkSlides$View", "findHunks", "()V"⟩, 5) := ⟨⟨by decide +kernel, by decide +kernel⟩, List.mem_of_getElem? (i := 99) (by decide +kernel), List.mem_of_getElem? (i := 436) (by decide +kernel), List.mem_of_getElem? (i := 437) (by decide +kernel)⟩
theorem lw_p7 : lw_okq (⟨"HunkSlides$View", "inHunk", "(I)Z"⟩, 5) := ⟨⟨by decide +kernel, by decide +kernel⟩, List.mem_of_getElem? (i := 99) (by decide +kernel), List.mem_of_getElem? (i := 444) (by decide +kernel), List.mem_of_getElem? (i := 445) (by decide +kernel)⟩
theorem lw_p8 : lw_okq (⟨"HunkSlides$View", "linesWithin", "(III)I"⟩, 5) := ⟨⟨by decide +kernel, by decide +kernel⟩, List.mem_of_getElem? (i := 99) (by decide +kernel), List.mem_of_getElem? (i := 464) (by decide +kernel), List.mem_of_getElem? (i := 465) (by decide +kernel)⟩
theorem lw_p9 : lw_okq (⟨"HunkSlides$View", "bestTop", "(I)I"⟩, 5) := ⟨⟨by decide +kernel, by decide +kernel⟩, List.mem_of_getElem? (i := 99) (by decide +kernel), List.mem_of_getElem? (i := 476) (by decide +kernel), List.mem_of_getElem? (i := 477) (by decide +kernel)⟩
theorem lw_p10 : lw_okq (⟨"HunkSlides$View", "barAt", "(IIZ)I"⟩, 5) := ⟨⟨by decide +kernel, by decide +kernel⟩, List.mem_of_getElem? (i := 99) (by decide +kernel), List.mem_of_getElem? (i := 484) (by decide +kernel), List.mem_of_getElem? (i := 485) (by decide +kernel)⟩
theorem lw_p11 : lw_okq (⟨"HunkSlides$View", "worthAt", "(II)I"⟩, 5) := ⟨⟨by decide +kernel, by decide +kernel⟩, List.mem_of_getElem? (i := 99) (by decide +kernel), List.mem_of_getElem? (i := 488) (by decide +kernel), List.mem_of_getElem? (i := 489) (by decide +kernel)⟩
theorem lw_p12 : lw_okq (⟨"HunkSlides$View", "moveTo", "(II)V"⟩, 5) := ⟨⟨by decide +kernel, by decide +kernel⟩, List.mem_of_getElem? (i := 99) (by decide +kernel), List.mem_of_getElem? (i := 492) (by decide +kernel), List.mem_of_getElem? (i := 493) (by decide +kernel)⟩
theorem lw_p13 : lw_okq (⟨"HunkSlides$Laying", "layOne", "(LHunkSlides$View;IIZ)V"⟩, 10) := ⟨⟨by decide +kernel, by decide +kernel⟩, List.mem_of_getElem? (i := 123) (by decide +kernel), List.mem_of_getElem? (i := 504) (by decide +kernel), List.mem_of_getElem? (i := 505) (by decide +kernel)⟩
theorem lw_p14 : lw_okq (⟨"HunkSlides$Laying", "takeParts", "(LHunkSlides$View;IIZ)V"⟩, 10) := ⟨⟨by decide +kernel, by decide +kernel⟩, List.mem_of_getElem? (i := 123) (by decide +kernel), List.mem_of_getElem? (i := 519) (by decide +kernel), List.mem_of_getElem? (i := 520) (by decide +kernel)⟩
theorem lw_p15 : lw_okq (⟨"HunkSlides$Laying", "search", "(I)I"⟩, 10) := ⟨⟨by decide +kernel, by decide +kernel⟩, List.mem_of_getElem? (i := 123) (by decide +kernel), List.mem_of_getElem? (i := 540) (by decide +kernel), List.mem_of_getElem? (i := 541) (by decide +kernel)⟩
def lw_privs_1 : List (MethodName × Nat) := [(⟨"HunkSlides", "padSign", "(I)I"⟩, 9), (⟨"HunkSlides$History", "dropOldest", "()V"⟩, 2), (⟨"HunkSlides$History", "slot", "(I)LHunkSlides$State;"⟩, 2), (⟨"HunkSlides", "distanceNow", "()I"⟩, 9), (⟨"HunkSlides$Comparison", "keptFrom", "(II)I"⟩, 2), (⟨"HunkSlides", "show", "()V"⟩, 9), (⟨"HunkSlides$View", "findHunks", "()V"⟩, 5), (⟨"HunkSlides$View", "inHunk", "(I)Z"⟩, 5), (⟨"HunkSlides$View", "linesWithin", "(III)I"⟩, 5), (⟨"HunkSlides$View", "bestTop", "(I)I"⟩, 5), (⟨"HunkSlides$View", "barAt", "(IIZ)I"⟩, 5), (⟨"HunkSlides$View", "worthAt", "(II)I"⟩, 5), (⟨"HunkSlides$View", "moveTo", "(II)V"⟩, 5), (⟨"HunkSlides$Laying", "layOne", "(LHunkSlides$View;IIZ)V"⟩, 10), (⟨"HunkSlides$Laying", "takeParts", "(LHunkSlides$View;IIZ)V"⟩, 10), (⟨"HunkSlides$Laying", "search", "(I)I"⟩, 10)]
theorem lw_r1 : ∀ q ∈ lw_privs_1, lw_okq q := List.forall_mem_cons.mpr ⟨lw_p0, List.forall_mem_cons.mpr ⟨lw_p1, List.forall_mem_cons.mpr ⟨lw_p2, List.forall_mem_cons.mpr ⟨lw_p3, List.forall_mem_cons.mpr ⟨lw_p4, List.forall_mem_cons.mpr ⟨lw_p5, List.forall_mem_cons.mpr ⟨lw_p6, List.forall_mem_cons.mpr ⟨lw_p7, List.forall_mem_cons.mpr ⟨lw_p8, List.forall_mem_cons.mpr ⟨lw_p9, List.forall_mem_cons.mpr ⟨lw_p10, List.forall_mem_cons.mpr ⟨lw_p11, List.forall_mem_cons.mpr ⟨lw_p12, List.forall_mem_cons.mpr ⟨lw_p13, List.forall_mem_cons.mpr ⟨lw_p14, List.forall_mem_cons.mpr ⟨lw_p15, fun _ h => absurd h List.not_mem_nil⟩⟩⟩⟩⟩⟩⟩⟩⟩⟩⟩⟩⟩⟩⟩⟩
theorem lw_p16 : lw_okq (⟨"HunkSlides$Laying", "fitsAt", "(I)Z"⟩, 10) := ⟨⟨by decide +kernel, by decide +kernel⟩, List.mem_of_getElem? (i := 123) (by decide +kernel), List.mem_of_getElem? (i := 544) (by decide +kernel), List.mem_of_getElem? (i := 545) (by decide +kernel)⟩
theorem lw_p17 : lw_okq (⟨"HunkSlides$Laying", "replaceAt", "(I)V"⟩, 10) := ⟨⟨by decide +kernel, by decide +kernel⟩, List.mem_of_getElem? (i := 123) (by decide +kernel), List.mem_of_getElem? (i := 550) (by decide +kernel), List.mem_of_getElem? (i := 551) (by decide +kernel)⟩
theorem lw_p18 : lw_okq (⟨"HunkSlides$Comparison", "entry", "(II)I"⟩, 2) := ⟨⟨by decide +kernel, by decide +kernel⟩, List.mem_of_getElem? (i := 84) (by decide +kernel), List.mem_of_getElem? (i := 586) (by decide +kernel), List.mem_of_getElem? (i := 587) (by decide +kernel)⟩
theorem lw_p19 : lw_okq (⟨"HunkSlides", "heldNumber", "(I)I"⟩, 9) := ⟨⟨by decide +kernel, by decide +kernel⟩, List.mem_of_getElem? (i := 16) (by decide +kernel), List.mem_of_getElem? (i := 636) (by decide +kernel), List.mem_of_getElem? (i := 637) (by decide +kernel)⟩
theorem lw_p20 : lw_okq (⟨"HunkSlides", "shownNumber", "(I)I"⟩, 9) := ⟨⟨by decide +kernel, by decide +kernel⟩, List.mem_of_getElem? (i := 16) (by decide +kernel), List.mem_of_getElem? (i := 652) (by decide +kernel), List.mem_of_getElem? (i := 653) (by decide +kernel)⟩
theorem lw_p21 : lw_okq (⟨"HunkSlidesModel", "remembers", "()V"⟩, 17) := ⟨⟨by decide +kernel, by decide +kernel⟩, List.mem_of_getElem? (i := 728) (by decide +kernel), List.mem_of_getElem? (i := 809) (by decide +kernel), List.mem_of_getElem? (i := 810) (by decide +kernel)⟩
theorem lw_p22 : lw_okq (⟨"HunkSlidesModel", "lines", "(I)I"⟩, 17) := ⟨⟨by decide +kernel, by decide +kernel⟩, List.mem_of_getElem? (i := 728) (by decide +kernel), List.mem_of_getElem? (i := 813) (by decide +kernel), List.mem_of_getElem? (i := 814) (by decide +kernel)⟩
theorem lw_p23 : lw_okq (⟨"HunkSlidesModel", "counts", "()I"⟩, 17) := ⟨⟨by decide +kernel, by decide +kernel⟩, List.mem_of_getElem? (i := 728) (by decide +kernel), List.mem_of_getElem? (i := 825) (by decide +kernel), List.mem_of_getElem? (i := 826) (by decide +kernel)⟩
theorem lw_p24 : lw_okq (⟨"HunkSlidesModel", "olds", "()I"⟩, 17) := ⟨⟨by decide +kernel, by decide +kernel⟩, List.mem_of_getElem? (i := 728) (by decide +kernel), List.mem_of_getElem? (i := 829) (by decide +kernel), List.mem_of_getElem? (i := 830) (by decide +kernel)⟩
theorem lw_p25 : lw_okq (⟨"HunkSlidesModel", "old", "(I)I"⟩, 17) := ⟨⟨by decide +kernel, by decide +kernel⟩, List.mem_of_getElem? (i := 728) (by decide +kernel), List.mem_of_getElem? (i := 833) (by decide +kernel), List.mem_of_getElem? (i := 834) (by decide +kernel)⟩
theorem lw_p26 : lw_okq (⟨"HunkSlidesModel", "lineOf", "(II)I"⟩, 17) := ⟨⟨by decide +kernel, by decide +kernel⟩, List.mem_of_getElem? (i := 728) (by decide +kernel), List.mem_of_getElem? (i := 837) (by decide +kernel), List.mem_of_getElem? (i := 838) (by decide +kernel)⟩
theorem lw_p27 : lw_okq (⟨"HunkSlidesModel", "views", "()V"⟩, 17) := ⟨⟨by decide +kernel, by decide +kernel⟩, List.mem_of_getElem? (i := 728) (by decide +kernel), List.mem_of_getElem? (i := 849) (by decide +kernel), List.mem_of_getElem? (i := 850) (by decide +kernel)⟩
theorem lw_p28 : lw_okq (⟨"HunkSlidesModel", "shows", "(II)V"⟩, 17) := ⟨⟨by decide +kernel, by decide +kernel⟩, List.mem_of_getElem? (i := 728) (by decide +kernel), List.mem_of_getElem? (i := 853) (by decide +kernel), List.mem_of_getElem? (i := 854) (by decide +kernel)⟩
theorem lw_p29 : lw_okq (⟨"HunkSlidesModel", "hunks", "()I"⟩, 17) := ⟨⟨by decide +kernel, by decide +kernel⟩, List.mem_of_getElem? (i := 728) (by decide +kernel), List.mem_of_getElem? (i := 857) (by decide +kernel), List.mem_of_getElem? (i := 858) (by decide +kernel)⟩
theorem lw_p30 : lw_okq (⟨"HunkSlidesModel", "begins", "(I)Z"⟩, 17) := ⟨⟨by decide +kernel, by decide +kernel⟩, List.mem_of_getElem? (i := 728) (by decide +kernel), List.mem_of_getElem? (i := 861) (by decide +kernel), List.mem_of_getElem? (i := 862) (by decide +kernel)⟩
theorem lw_p31 : lw_okq (⟨"HunkSlidesModel", "settles", "(I)V"⟩, 17) := ⟨⟨by decide +kernel, by decide +kernel⟩, List.mem_of_getElem? (i := 728) (by decide +kernel), List.mem_of_getElem? (i := 865) (by decide +kernel), List.mem_of_getElem? (i := 866) (by decide +kernel)⟩
def lw_privs_2 : List (MethodName × Nat) := [(⟨"HunkSlides$Laying", "fitsAt", "(I)Z"⟩, 10), (⟨"HunkSlides$Laying", "replaceAt", "(I)V"⟩, 10), (⟨"HunkSlides$Comparison", "entry", "(II)I"⟩, 2), (⟨"HunkSlides", "heldNumber", "(I)I"⟩, 9), (⟨"HunkSlides", "shownNumber", "(I)I"⟩, 9), (⟨"HunkSlidesModel", "remembers", "()V"⟩, 17), (⟨"HunkSlidesModel", "lines", "(I)I"⟩, 17), (⟨"HunkSlidesModel", "counts", "()I"⟩, 17), (⟨"HunkSlidesModel", "olds", "()I"⟩, 17), (⟨"HunkSlidesModel", "old", "(I)I"⟩, 17), (⟨"HunkSlidesModel", "lineOf", "(II)I"⟩, 17), (⟨"HunkSlidesModel", "views", "()V"⟩, 17), (⟨"HunkSlidesModel", "shows", "(II)V"⟩, 17), (⟨"HunkSlidesModel", "hunks", "()I"⟩, 17), (⟨"HunkSlidesModel", "begins", "(I)Z"⟩, 17), (⟨"HunkSlidesModel", "settles", "(I)V"⟩, 17)]
theorem lw_r2 : ∀ q ∈ lw_privs_2, lw_okq q := List.forall_mem_cons.mpr ⟨lw_p16, List.forall_mem_cons.mpr ⟨lw_p17, List.forall_mem_cons.mpr ⟨lw_p18, List.forall_mem_cons.mpr ⟨lw_p19, List.forall_mem_cons.mpr ⟨lw_p20, List.forall_mem_cons.mpr ⟨lw_p21, List.forall_mem_cons.mpr ⟨lw_p22, List.forall_mem_cons.mpr ⟨lw_p23, List.forall_mem_cons.mpr ⟨lw_p24, List.forall_mem_cons.mpr ⟨lw_p25, List.forall_mem_cons.mpr ⟨lw_p26, List.forall_mem_cons.mpr ⟨lw_p27, List.forall_mem_cons.mpr ⟨lw_p28, List.forall_mem_cons.mpr ⟨lw_p29, List.forall_mem_cons.mpr ⟨lw_p30, List.forall_mem_cons.mpr ⟨lw_p31, fun _ h => absurd h List.not_mem_nil⟩⟩⟩⟩⟩⟩⟩⟩⟩⟩⟩⟩⟩⟩⟩⟩
theorem lw_p32 : lw_okq (⟨"HunkSlidesModel", "start", "(I)I"⟩, 17) := ⟨⟨by decide +kernel, by decide +kernel⟩, List.mem_of_getElem? (i := 728) (by decide +kernel), List.mem_of_getElem? (i := 869) (by decide +kernel), List.mem_of_getElem? (i := 870) (by decide +kernel)⟩
theorem lw_p33 : lw_okq (⟨"HunkSlidesModel", "isPlain", "(I)Z"⟩, 17) := ⟨⟨by decide +kernel, by decide +kernel⟩, List.mem_of_getElem? (i := 728) (by decide +kernel), List.mem_of_getElem? (i := 873) (by decide +kernel), List.mem_of_getElem? (i := 874) (by decide +kernel)⟩
theorem lw_p34 : lw_okq (⟨"HunkSlidesModel", "marked", "(II)I"⟩, 17) := ⟨⟨by decide +kernel, by decide +kernel⟩, List.mem_of_getElem? (i := 728) (by decide +kernel), List.mem_of_getElem? (i := 877) (by decide +kernel), List.mem_of_getElem? (i := 878) (by decide +kernel)⟩
theorem lw_p35 : lw_okq (⟨"HunkSlidesModel", "size", "(I)I"⟩, 17) := ⟨⟨by decide +kernel, by decide +kernel⟩, List.mem_of_getElem? (i := 728) (by decide +kernel), List.mem_of_getElem? (i := 881) (by decide +kernel), List.mem_of_getElem? (i := 882) (by decide +kernel)⟩
theorem lw_p36 : lw_okq (⟨"HunkSlidesModel", "bestPlace", "(I)I"⟩, 17) := ⟨⟨by decide +kernel, by decide +kernel⟩, List.mem_of_getElem? (i := 728) (by decide +kernel), List.mem_of_getElem? (i := 885) (by decide +kernel), List.mem_of_getElem? (i := 886) (by decide +kernel)⟩
theorem lw_p37 : lw_okq (⟨"HunkSlidesModel", "slides", "(IZ)I"⟩, 17) := ⟨⟨by decide +kernel, by decide +kernel⟩, List.mem_of_getElem? (i := 728) (by decide +kernel), List.mem_of_getElem? (i := 889) (by decide +kernel), List.mem_of_getElem? (i := 890) (by decide +kernel)⟩
theorem lw_p38 : lw_okq (⟨"HunkSlidesModel", "whyNotFrom", "(IIZ)I"⟩, 17) := ⟨⟨by decide +kernel, by decide +kernel⟩, List.mem_of_getElem? (i := 728) (by decide +kernel), List.mem_of_getElem? (i := 893) (by decide +kernel), List.mem_of_getElem? (i := 894) (by decide +kernel)⟩
theorem lw_p39 : lw_okq (⟨"HunkSlidesModel", "worth", "(II)I"⟩, 17) := ⟨⟨by decide +kernel, by decide +kernel⟩, List.mem_of_getElem? (i := 728) (by decide +kernel), List.mem_of_getElem? (i := 897) (by decide +kernel), List.mem_of_getElem? (i := 898) (by decide +kernel)⟩
theorem lw_p40 : lw_okq (⟨"HunkSlidesModel", "lays", "(ZI)I"⟩, 17) := ⟨⟨by decide +kernel, by decide +kernel⟩, List.mem_of_getElem? (i := 728) (by decide +kernel), List.mem_of_getElem? (i := 901) (by decide +kernel), List.mem_of_getElem? (i := 902) (by decide +kernel)⟩
theorem lw_p41 : lw_okq (⟨"HunkSlidesModel", "around", "(IZI)I"⟩, 17) := ⟨⟨by decide +kernel, by decide +kernel⟩, List.mem_of_getElem? (i := 728) (by decide +kernel), List.mem_of_getElem? (i := 905) (by decide +kernel), List.mem_of_getElem? (i := 906) (by decide +kernel)⟩
theorem lw_p42 : lw_okq (⟨"HunkSlidesModel", "linesBut", "(III)I"⟩, 17) := ⟨⟨by decide +kernel, by decide +kernel⟩, List.mem_of_getElem? (i := 728) (by decide +kernel), List.mem_of_getElem? (i := 909) (by decide +kernel), List.mem_of_getElem? (i := 910) (by decide +kernel)⟩
theorem lw_p43 : lw_okq (⟨"HunkSlidesModel", "looks", "(IIIII)I"⟩, 17) := ⟨⟨by decide +kernel, by decide +kernel⟩, List.mem_of_getElem? (i := 728) (by decide +kernel), List.mem_of_getElem? (i := 913) (by decide +kernel), List.mem_of_getElem? (i := 914) (by decide +kernel)⟩
theorem lw_p44 : lw_okq (⟨"HunkSlidesModel", "fits", "(IIII)Z"⟩, 17) := ⟨⟨by decide +kernel, by decide +kernel⟩, List.mem_of_getElem? (i := 728) (by decide +kernel), List.mem_of_getElem? (i := 917) (by decide +kernel), List.mem_of_getElem? (i := 918) (by decide +kernel)⟩
theorem lw_p45 : lw_okq (⟨"HunkSlidesModel", "replaces", "(IIIII)V"⟩, 17) := ⟨⟨by decide +kernel, by decide +kernel⟩, List.mem_of_getElem? (i := 728) (by decide +kernel), List.mem_of_getElem? (i := 921) (by decide +kernel), List.mem_of_getElem? (i := 922) (by decide +kernel)⟩
theorem lw_p46 : lw_okq (⟨"HunkSlidesModel", "byDiagonals", "()I"⟩, 17) := ⟨⟨by decide +kernel, by decide +kernel⟩, List.mem_of_getElem? (i := 728) (by decide +kernel), List.mem_of_getElem? (i := 933) (by decide +kernel), List.mem_of_getElem? (i := 934) (by decide +kernel)⟩
theorem lw_p47 : lw_okq (⟨"HunkSlidesModel", "hunkAt", "(I)I"⟩, 17) := ⟨⟨by decide +kernel, by decide +kernel⟩, List.mem_of_getElem? (i := 728) (by decide +kernel), List.mem_of_getElem? (i := 941) (by decide +kernel), List.mem_of_getElem? (i := 942) (by decide +kernel)⟩
def lw_privs_3 : List (MethodName × Nat) := [(⟨"HunkSlidesModel", "start", "(I)I"⟩, 17), (⟨"HunkSlidesModel", "isPlain", "(I)Z"⟩, 17), (⟨"HunkSlidesModel", "marked", "(II)I"⟩, 17), (⟨"HunkSlidesModel", "size", "(I)I"⟩, 17), (⟨"HunkSlidesModel", "bestPlace", "(I)I"⟩, 17), (⟨"HunkSlidesModel", "slides", "(IZ)I"⟩, 17), (⟨"HunkSlidesModel", "whyNotFrom", "(IIZ)I"⟩, 17), (⟨"HunkSlidesModel", "worth", "(II)I"⟩, 17), (⟨"HunkSlidesModel", "lays", "(ZI)I"⟩, 17), (⟨"HunkSlidesModel", "around", "(IZI)I"⟩, 17), (⟨"HunkSlidesModel", "linesBut", "(III)I"⟩, 17), (⟨"HunkSlidesModel", "looks", "(IIIII)I"⟩, 17), (⟨"HunkSlidesModel", "fits", "(IIII)Z"⟩, 17), (⟨"HunkSlidesModel", "replaces", "(IIIII)V"⟩, 17), (⟨"HunkSlidesModel", "byDiagonals", "()I"⟩, 17), (⟨"HunkSlidesModel", "hunkAt", "(I)I"⟩, 17)]
theorem lw_r3 : ∀ q ∈ lw_privs_3, lw_okq q := List.forall_mem_cons.mpr ⟨lw_p32, List.forall_mem_cons.mpr ⟨lw_p33, List.forall_mem_cons.mpr ⟨lw_p34, List.forall_mem_cons.mpr ⟨lw_p35, List.forall_mem_cons.mpr ⟨lw_p36, List.forall_mem_cons.mpr ⟨lw_p37, List.forall_mem_cons.mpr ⟨lw_p38, List.forall_mem_cons.mpr ⟨lw_p39, List.forall_mem_cons.mpr ⟨lw_p40, List.forall_mem_cons.mpr ⟨lw_p41, List.forall_mem_cons.mpr ⟨lw_p42, List.forall_mem_cons.mpr ⟨lw_p43, List.forall_mem_cons.mpr ⟨lw_p44, List.forall_mem_cons.mpr ⟨lw_p45, List.forall_mem_cons.mpr ⟨lw_p46, List.forall_mem_cons.mpr ⟨lw_p47, fun _ h => absurd h List.not_mem_nil⟩⟩⟩⟩⟩⟩⟩⟩⟩⟩⟩⟩⟩⟩⟩⟩
theorem lw_p48 : lw_okq (⟨"HunkSlidesModel", "linesOf", "(I)I"⟩, 17) := ⟨⟨by decide +kernel, by decide +kernel⟩, List.mem_of_getElem? (i := 728) (by decide +kernel), List.mem_of_getElem? (i := 957) (by decide +kernel), List.mem_of_getElem? (i := 958) (by decide +kernel)⟩
theorem lw_p49 : lw_okq (⟨"HunkSlidesModel", "ofHunks", "(I)I"⟩, 17) := ⟨⟨by decide +kernel, by decide +kernel⟩, List.mem_of_getElem? (i := 728) (by decide +kernel), List.mem_of_getElem? (i := 961) (by decide +kernel), List.mem_of_getElem? (i := 962) (by decide +kernel)⟩
theorem lw_p50 : lw_okq (⟨"HunkSlidesModel", "longestKept", "()I"⟩, 17) := ⟨⟨by decide +kernel, by decide +kernel⟩, List.mem_of_getElem? (i := 728) (by decide +kernel), List.mem_of_getElem? (i := 965) (by decide +kernel), List.mem_of_getElem? (i := 966) (by decide +kernel)⟩
def lw_privs_4 : List (MethodName × Nat) := [(⟨"HunkSlidesModel", "linesOf", "(I)I"⟩, 17), (⟨"HunkSlidesModel", "ofHunks", "(I)I"⟩, 17), (⟨"HunkSlidesModel", "longestKept", "()I"⟩, 17)]
theorem lw_r4 : ∀ q ∈ lw_privs_4, lw_okq q := List.forall_mem_cons.mpr ⟨lw_p48, List.forall_mem_cons.mpr ⟨lw_p49, List.forall_mem_cons.mpr ⟨lw_p50, fun _ h => absurd h List.not_mem_nil⟩⟩⟩
def lw_privs : List (MethodName × Nat) := lw_privs_1 ++ (lw_privs_2 ++ (lw_privs_3 ++ (lw_privs_4)))
def lw_tbl : List Cond := k2_sels lw_privs ++ tables_1
theorem lw_privs_ok : ∀ q ∈ lw_privs, lw_okq q := by
  show ∀ q ∈ lw_privs_1 ++ (lw_privs_2 ++ (lw_privs_3 ++ (lw_privs_4))), lw_okq q
  exact List.forall_mem_append.mpr ⟨lw_r1, List.forall_mem_append.mpr ⟨lw_r2, List.forall_mem_append.mpr ⟨lw_r3, lw_r4⟩⟩⟩
/-- the streams that the claim lets the run draw from -/
abbrev lw_cs : List Choice := [Jvm.Choice.named "NaN.bits"]
theorem lw_bits : nanBits ∈ lw_cs := by first | decide | exact List.mem_cons_self | simp [lw_cs, nanBits]
end
section
def RX0 : String := "HunkSlides$Comparison"
def TX0 : u_T := fun k => match k with
  | 0 => ("HunkSlides$Comparison", "most", "LHunkSlides$Row;", true)
  | _ => ("HunkSlides$Comparison", "farthest", "LHunkSlides$Row;", true)
def tyX0 : Nat → FieldType := fun k => match k with
  | 0 => .object "HunkSlides$Row"
  | _ => .object "HunkSlides$Row"
abbrev wsX00 : List Cond := u_ws RX0 TX0 2
theorem nmX0 : ∀ a, a < 2 → ∀ b, b < 2 → a ≠ b → (TX0 a).2.1 ≠ (TX0 b).2.1 := by decide +kernel
theorem tyX0_ok : ∀ k, k < 2 → parseFieldDescriptor (TX0 k).2.2.1 = some (tyX0 k) := by decide +kernel
abbrev cX0_init : ByteArray := prog_2_method_1_code
def yX0_init : MethodName := ⟨RX0, "<init>", "()V"⟩
abbrev cX0_compare : ByteArray := prog_2_method_2_code
def yX0_compare : MethodName := ⟨RX0, "compare", "(LHunkSlides$Row;LHunkSlides$Row;)V"⟩
abbrev cX0_step : ByteArray := prog_2_method_3_code
def yX0_step : MethodName := ⟨RX0, "step", "(LHunkSlides$Row;LHunkSlides$Row;II)I"⟩
abbrev cX0_keptOf : ByteArray := prog_2_method_4_code
def yX0_keptOf : MethodName := ⟨RX0, "keptOf", "(LHunkSlides$Row;LHunkSlides$Row;)I"⟩
abbrev cX0_apart : ByteArray := prog_2_method_5_code
def yX0_apart : MethodName := ⟨RX0, "apart", "(LHunkSlides$Row;LHunkSlides$Row;)I"⟩
abbrev cX0_apartBySteps : ByteArray := prog_2_method_6_code
def yX0_apartBySteps : MethodName := ⟨RX0, "apartBySteps", "(LHunkSlides$Row;LHunkSlides$Row;)I"⟩
abbrev cX0_keptFrom : ByteArray := prog_2_method_7_code
def yX0_keptFrom : MethodName := ⟨RX0, "keptFrom", "(II)I"⟩
abbrev cX0_entry : ByteArray := prog_2_method_8_code
def yX0_entry : MethodName := ⟨RX0, "entry", "(II)I"⟩
abbrev cX0_followKept : ByteArray := prog_2_method_9_code
def yX0_followKept : MethodName := ⟨RX0, "followKept", "(LHunkSlides$Row;LHunkSlides$Row;II)I"⟩
def RX1 : String := "HunkSlides$History"
def TX1 : u_T := fun k => match k with
  | 0 => ("HunkSlides$History", "states", "[LHunkSlides$State;", true)
  | _ => ("HunkSlides$History", "size", "I", false)
def tyX1 : Nat → FieldType := fun k => match k with
  | 0 => .array (.object "HunkSlides$State")
  | _ => .int
abbrev wsX10 : List Cond := u_ws RX1 TX1 2
theorem nmX1 : ∀ a, a < 2 → ∀ b, b < 2 → a ≠ b → (TX1 a).2.1 ≠ (TX1 b).2.1 := by decide +kernel
theorem tyX1_ok : ∀ k, k < 2 → parseFieldDescriptor (TX1 k).2.2.1 = some (tyX1 k) := by decide +kernel
abbrev cX1_init : ByteArray := prog_3_method_1_code
def yX1_init : MethodName := ⟨RX1, "<init>", "()V"⟩
abbrev cX1_size : ByteArray := prog_3_method_2_code
def yX1_size : MethodName := ⟨RX1, "size", "()I"⟩
abbrev cX1_isEmpty : ByteArray := prog_3_method_3_code
def yX1_isEmpty : MethodName := ⟨RX1, "isEmpty", "()Z"⟩
abbrev cX1_record : ByteArray := prog_3_method_4_code
def yX1_record : MethodName := ⟨RX1, "record", "(LHunkSlides$State;)V"⟩
abbrev cX1_takeBack : ByteArray := prog_3_method_5_code
def yX1_takeBack : MethodName := ⟨RX1, "takeBack", "(LHunkSlides$State;)V"⟩
abbrev cX1_dropOldest : ByteArray := prog_3_method_6_code
def yX1_dropOldest : MethodName := ⟨RX1, "dropOldest", "()V"⟩
abbrev cX1_slot : ByteArray := prog_3_method_7_code
def yX1_slot : MethodName := ⟨RX1, "slot", "(I)LHunkSlides$State;"⟩
abbrev cX1_copy : ByteArray := prog_3_method_8_code
def yX1_copy : MethodName := ⟨RX1, "copy", "(LHunkSlides$State;LHunkSlides$State;)V"⟩
def RX2 : String := "HunkSlides$Laying"
def TX2 : u_T := fun k => match k with
  | 0 => ("HunkSlides$Laying", "text", "LHunkSlides$Row;", true)
  | 1 => ("HunkSlides$Laying", "putOut", "LHunkSlides$Row;", true)
  | 2 => ("HunkSlides$Laying", "putIn", "LHunkSlides$Row;", true)
  | 3 => ("HunkSlides$Laying", "places", "LHunkSlides$Row;", true)
  | 4 => ("HunkSlides$Laying", "lower", "LHunkSlides$Row;", true)
  | 5 => ("HunkSlides$Laying", "laid", "I", false)
  | 6 => ("HunkSlides$Laying", "longest", "I", false)
  | 7 => ("HunkSlides$Laying", "shift", "I", false)
  | 8 => ("HunkSlides$Laying", "growth", "I", false)
  | _ => ("HunkSlides$Laying", "first", "I", false)
def tyX2 : Nat → FieldType := fun k => match k with
  | 0 => .object "HunkSlides$Row"
  | 1 => .object "HunkSlides$Row"
  | 2 => .object "HunkSlides$Row"
  | 3 => .object "HunkSlides$Row"
  | 4 => .object "HunkSlides$Row"
  | 5 => .int
  | 6 => .int
  | 7 => .int
  | 8 => .int
  | _ => .int
abbrev wsX20 : List Cond := u_ws RX2 TX2 10
theorem nmX2 : ∀ a, a < 10 → ∀ b, b < 10 → a ≠ b → (TX2 a).2.1 ≠ (TX2 b).2.1 := by decide +kernel
theorem tyX2_ok : ∀ k, k < 10 → parseFieldDescriptor (TX2 k).2.2.1 = some (tyX2 k) := by decide +kernel
abbrev cX2_init : ByteArray := prog_4_method_1_code
def yX2_init : MethodName := ⟨RX2, "<init>", "()V"⟩
abbrev cX2_layAll : ByteArray := prog_4_method_2_code
def yX2_layAll : MethodName := ⟨RX2, "layAll", "(LHunkSlides$View;LHunkSlides$Row;IZ)V"⟩
abbrev cX2_laid : ByteArray := prog_4_method_3_code
def yX2_laid : MethodName := ⟨RX2, "laid", "()I"⟩
abbrev cX2_longest : ByteArray := prog_4_method_4_code
def yX2_longest : MethodName := ⟨RX2, "longest", "()I"⟩
abbrev cX2_result : ByteArray := prog_4_method_5_code
def yX2_result : MethodName := ⟨RX2, "result", "()LHunkSlides$Row;"⟩
abbrev cX2_placeOf : ByteArray := prog_4_method_6_code
def yX2_placeOf : MethodName := ⟨RX2, "placeOf", "(I)I"⟩
abbrev cX2_lowerOf : ByteArray := prog_4_method_7_code
def yX2_lowerOf : MethodName := ⟨RX2, "lowerOf", "(I)I"⟩
abbrev cX2_layOne : ByteArray := prog_4_method_8_code
def yX2_layOne : MethodName := ⟨RX2, "layOne", "(LHunkSlides$View;IIZ)V"⟩
abbrev cX2_takeParts : ByteArray := prog_4_method_9_code
def yX2_takeParts : MethodName := ⟨RX2, "takeParts", "(LHunkSlides$View;IIZ)V"⟩
abbrev cX2_search : ByteArray := prog_4_method_10_code
def yX2_search : MethodName := ⟨RX2, "search", "(I)I"⟩
abbrev cX2_fitsAt : ByteArray := prog_4_method_11_code
def yX2_fitsAt : MethodName := ⟨RX2, "fitsAt", "(I)Z"⟩
abbrev cX2_replaceAt : ByteArray := prog_4_method_12_code
def yX2_replaceAt : MethodName := ⟨RX2, "replaceAt", "(I)V"⟩
def RX3 : String := "HunkSlides$Row"
def TX3 : u_T := fun k => match k with
  | 0 => ("HunkSlides$Row", "values", "[I", true)
  | _ => ("HunkSlides$Row", "size", "I", false)
def tyX3 : Nat → FieldType := fun k => match k with
  | 0 => .array .int
  | _ => .int
abbrev wsX30 : List Cond := u_ws RX3 TX3 2
theorem nmX3 : ∀ a, a < 2 → ∀ b, b < 2 → a ≠ b → (TX3 a).2.1 ≠ (TX3 b).2.1 := by decide +kernel
theorem tyX3_ok : ∀ k, k < 2 → parseFieldDescriptor (TX3 k).2.2.1 = some (tyX3 k) := by decide +kernel
abbrev cX3_init : ByteArray := prog_5_method_1_code
def yX3_init : MethodName := ⟨RX3, "<init>", "(I)V"⟩
abbrev cX3_size : ByteArray := prog_5_method_2_code
def yX3_size : MethodName := ⟨RX3, "size", "()I"⟩
abbrev cX3_isEmpty : ByteArray := prog_5_method_3_code
def yX3_isEmpty : MethodName := ⟨RX3, "isEmpty", "()Z"⟩
abbrev cX3_at : ByteArray := prog_5_method_4_code
def yX3_at : MethodName := ⟨RX3, "at", "(I)I"⟩
abbrev cX3_emptyOut : ByteArray := prog_5_method_5_code
def yX3_emptyOut : MethodName := ⟨RX3, "emptyOut", "()V"⟩
abbrev cX3_add : ByteArray := prog_5_method_6_code
def yX3_add : MethodName := ⟨RX3, "add", "(I)V"⟩
abbrev cX3_change : ByteArray := prog_5_method_7_code
def yX3_change : MethodName := ⟨RX3, "change", "(II)V"⟩
abbrev cX3_putIn : ByteArray := prog_5_method_8_code
def yX3_putIn : MethodName := ⟨RX3, "putIn", "(II)V"⟩
abbrev cX3_putOut : ByteArray := prog_5_method_9_code
def yX3_putOut : MethodName := ⟨RX3, "putOut", "(I)V"⟩
abbrev cX3_become : ByteArray := prog_5_method_10_code
def yX3_become : MethodName := ⟨RX3, "become", "(LHunkSlides$Row;)V"⟩
abbrev cX3_becomeZeros : ByteArray := prog_5_method_11_code
def yX3_becomeZeros : MethodName := ⟨RX3, "becomeZeros", "(I)V"⟩
def RX4 : String := "HunkSlides$State"
def TX4 : u_T := fun k => match k with
  | 0 => ("HunkSlides$State", "oldText", "LHunkSlides$Row;", true)
  | 1 => ("HunkSlides$State", "newText", "LHunkSlides$Row;", true)
  | 2 => ("HunkSlides$State", "thirdText", "LHunkSlides$Row;", true)
  | 3 => ("HunkSlides$State", "around", "I", false)
  | 4 => ("HunkSlides$State", "slide", "I", false)
  | 5 => ("HunkSlides$State", "laid", "I", false)
  | _ => ("HunkSlides$State", "leftOut", "I", false)
def tyX4 : Nat → FieldType := fun k => match k with
  | 0 => .object "HunkSlides$Row"
  | 1 => .object "HunkSlides$Row"
  | 2 => .object "HunkSlides$Row"
  | 3 => .int
  | 4 => .int
  | 5 => .int
  | _ => .int
abbrev wsX40 : List Cond := u_ws RX4 TX4 7
theorem nmX4 : ∀ a, a < 7 → ∀ b, b < 7 → a ≠ b → (TX4 a).2.1 ≠ (TX4 b).2.1 := by decide +kernel
theorem tyX4_ok : ∀ k, k < 7 → parseFieldDescriptor (TX4 k).2.2.1 = some (tyX4 k) := by decide +kernel
abbrev cX4_init : ByteArray := prog_6_method_1_code
def yX4_init : MethodName := ⟨RX4, "<init>", "()V"⟩
abbrev cX4_text : ByteArray := prog_6_method_2_code
def yX4_text : MethodName := ⟨RX4, "text", "(I)LHunkSlides$Row;"⟩
abbrev cX4_setting : ByteArray := prog_6_method_3_code
def yX4_setting : MethodName := ⟨RX4, "setting", "(I)I"⟩
abbrev cX4_changeSetting : ByteArray := prog_6_method_4_code
def yX4_changeSetting : MethodName := ⟨RX4, "changeSetting", "(II)V"⟩
abbrev cX4_laid : ByteArray := prog_6_method_5_code
def yX4_laid : MethodName := ⟨RX4, "laid", "()I"⟩
abbrev cX4_leftOut : ByteArray := prog_6_method_6_code
def yX4_leftOut : MethodName := ⟨RX4, "leftOut", "()I"⟩
abbrev cX4_addPatches : ByteArray := prog_6_method_7_code
def yX4_addPatches : MethodName := ⟨RX4, "addPatches", "(II)V"⟩
abbrev cX4_become : ByteArray := prog_6_method_8_code
def yX4_become : MethodName := ⟨RX4, "become", "(LHunkSlides$State;)V"⟩
def RX5 : String := "HunkSlides$View"
def TX5 : u_T := fun k => match k with
  | 0 => ("HunkSlides$View", "kinds", "LHunkSlides$Row;", true)
  | 1 => ("HunkSlides$View", "signs", "LHunkSlides$Row;", true)
  | 2 => ("HunkSlides$View", "tops", "LHunkSlides$Row;", true)
  | 3 => ("HunkSlides$View", "ends", "LHunkSlides$Row;", true)
  | _ => ("HunkSlides$View", "plain", "LHunkSlides$Row;", true)
def tyX5 : Nat → FieldType := fun k => match k with
  | 0 => .object "HunkSlides$Row"
  | 1 => .object "HunkSlides$Row"
  | 2 => .object "HunkSlides$Row"
  | 3 => .object "HunkSlides$Row"
  | _ => .object "HunkSlides$Row"
abbrev wsX50 : List Cond := u_ws RX5 TX5 5
theorem nmX5 : ∀ a, a < 5 → ∀ b, b < 5 → a ≠ b → (TX5 a).2.1 ≠ (TX5 b).2.1 := by decide +kernel
theorem tyX5_ok : ∀ k, k < 5 → parseFieldDescriptor (TX5 k).2.2.1 = some (tyX5 k) := by decide +kernel
abbrev cX5_init : ByteArray := prog_7_method_1_code
def yX5_init : MethodName := ⟨RX5, "<init>", "()V"⟩
abbrev cX5_gather : ByteArray := prog_7_method_2_code
def yX5_gather : MethodName := ⟨RX5, "gather", "(LHunkSlides$Row;LHunkSlides$Row;LHunkSlides$Comparison;)V"⟩
abbrev cX5_findHunks : ByteArray := prog_7_method_3_code
def yX5_findHunks : MethodName := ⟨RX5, "findHunks", "()V"⟩
abbrev cX5_settle : ByteArray := prog_7_method_4_code
def yX5_settle : MethodName := ⟨RX5, "settle", "()V"⟩
abbrev cX5_moveTo : ByteArray := prog_7_method_5_code
def yX5_moveTo : MethodName := ⟨RX5, "moveTo", "(II)V"⟩
abbrev cX5_bestTop : ByteArray := prog_7_method_6_code
def yX5_bestTop : MethodName := ⟨RX5, "bestTop", "(I)I"⟩
abbrev cX5_size : ByteArray := prog_7_method_7_code
def yX5_size : MethodName := ⟨RX5, "size", "()I"⟩
abbrev cX5_kind : ByteArray := prog_7_method_8_code
def yX5_kind : MethodName := ⟨RX5, "kind", "(I)I"⟩
abbrev cX5_sign : ByteArray := prog_7_method_9_code
def yX5_sign : MethodName := ⟨RX5, "sign", "(I)I"⟩
abbrev cX5_oldAhead : ByteArray := prog_7_method_10_code
def yX5_oldAhead : MethodName := ⟨RX5, "oldAhead", "(I)I"⟩
abbrev cX5_newAhead : ByteArray := prog_7_method_11_code
def yX5_newAhead : MethodName := ⟨RX5, "newAhead", "(I)I"⟩
abbrev cX5_linesOfKind : ByteArray := prog_7_method_12_code
def yX5_linesOfKind : MethodName := ⟨RX5, "linesOfKind", "(I)I"⟩
abbrev cX5_linesWithin : ByteArray := prog_7_method_13_code
def yX5_linesWithin : MethodName := ⟨RX5, "linesWithin", "(III)I"⟩
abbrev cX5_hunkOf : ByteArray := prog_7_method_14_code
def yX5_hunkOf : MethodName := ⟨RX5, "hunkOf", "(I)I"⟩
abbrev cX5_longestKept : ByteArray := prog_7_method_15_code
def yX5_longestKept : MethodName := ⟨RX5, "longestKept", "()I"⟩
abbrev cX5_inHunk : ByteArray := prog_7_method_16_code
def yX5_inHunk : MethodName := ⟨RX5, "inHunk", "(I)Z"⟩
abbrev cX5_hunks : ByteArray := prog_7_method_17_code
def yX5_hunks : MethodName := ⟨RX5, "hunks", "()I"⟩
abbrev cX5_has : ByteArray := prog_7_method_18_code
def yX5_has : MethodName := ⟨RX5, "has", "(I)Z"⟩
abbrev cX5_top : ByteArray := prog_7_method_19_code
def yX5_top : MethodName := ⟨RX5, "top", "(I)I"⟩
abbrev cX5_end : ByteArray := prog_7_method_20_code
def yX5_end : MethodName := ⟨RX5, "end", "(I)I"⟩
abbrev cX5_linesOf : ByteArray := prog_7_method_21_code
def yX5_linesOf : MethodName := ⟨RX5, "linesOf", "(II)I"⟩
abbrev cX5_isPlain : ByteArray := prog_7_method_22_code
def yX5_isPlain : MethodName := ⟨RX5, "isPlain", "(I)Z"⟩
abbrev cX5_plainHunks : ByteArray := prog_7_method_23_code
def yX5_plainHunks : MethodName := ⟨RX5, "plainHunks", "()I"⟩
abbrev cX5_slidingHunks : ByteArray := prog_7_method_24_code
def yX5_slidingHunks : MethodName := ⟨RX5, "slidingHunks", "()I"⟩
abbrev cX5_worthOfAll : ByteArray := prog_7_method_25_code
def yX5_worthOfAll : MethodName := ⟨RX5, "worthOfAll", "()I"⟩
abbrev cX5_worth : ByteArray := prog_7_method_26_code
def yX5_worth : MethodName := ⟨RX5, "worth", "(I)I"⟩
abbrev cX5_greatestWorth : ByteArray := prog_7_method_27_code
def yX5_greatestWorth : MethodName := ⟨RX5, "greatestWorth", "(I)I"⟩
abbrev cX5_worthAt : ByteArray := prog_7_method_28_code
def yX5_worthAt : MethodName := ⟨RX5, "worthAt", "(II)I"⟩
abbrev cX5_reach : ByteArray := prog_7_method_29_code
def yX5_reach : MethodName := ⟨RX5, "reach", "(IZ)I"⟩
abbrev cX5_hindrance : ByteArray := prog_7_method_30_code
def yX5_hindrance : MethodName := ⟨RX5, "hindrance", "(IZ)I"⟩
abbrev cX5_barAt : ByteArray := prog_7_method_31_code
def yX5_barAt : MethodName := ⟨RX5, "barAt", "(IIZ)I"⟩
abbrev cX5_around : ByteArray := prog_7_method_32_code
def yX5_around : MethodName := ⟨RX5, "around", "(IIZ)I"⟩
def RX6 : String := "HunkSlides"
def TX6 : u_T := fun k => match k with
  | 0 => ("HunkSlides", "pad", "LHunkSlides$Row;", true)
  | 1 => ("HunkSlides", "now", "LHunkSlides$State;", true)
  | 2 => ("HunkSlides", "snapshot", "LHunkSlides$State;", true)
  | 3 => ("HunkSlides", "saved", "Z", false)
  | 4 => ("HunkSlides", "history", "LHunkSlides$History;", true)
  | 5 => ("HunkSlides", "spare", "LHunkSlides$Row;", true)
  | 6 => ("HunkSlides", "comparison", "LHunkSlides$Comparison;", true)
  | 7 => ("HunkSlides", "shown", "LHunkSlides$View;", true)
  | _ => ("HunkSlides", "laying", "LHunkSlides$Laying;", true)
def tyX6 : Nat → FieldType := fun k => match k with
  | 0 => .object "HunkSlides$Row"
  | 1 => .object "HunkSlides$State"
  | 2 => .object "HunkSlides$State"
  | 3 => .boolean
  | 4 => .object "HunkSlides$History"
  | 5 => .object "HunkSlides$Row"
  | 6 => .object "HunkSlides$Comparison"
  | 7 => .object "HunkSlides$View"
  | _ => .object "HunkSlides$Laying"
abbrev wsX60 : List Cond := u_ws RX6 TX6 9
theorem nmX6 : ∀ a, a < 9 → ∀ b, b < 9 → a ≠ b → (TX6 a).2.1 ≠ (TX6 b).2.1 := by decide +kernel
theorem tyX6_ok : ∀ k, k < 9 → parseFieldDescriptor (TX6 k).2.2.1 = some (tyX6 k) := by decide +kernel
abbrev cX6_init : ByteArray := prog_1_method_1_code
def yX6_init : MethodName := ⟨RX6, "<init>", "()V"⟩
abbrev cX6_append : ByteArray := prog_1_method_2_code
def yX6_append : MethodName := ⟨RX6, "append", "(I)I"⟩
abbrev cX6_clear : ByteArray := prog_1_method_3_code
def yX6_clear : MethodName := ⟨RX6, "clear", "()I"⟩
abbrev cX6_fault : ByteArray := prog_1_method_4_code
def yX6_fault : MethodName := ⟨RX6, "fault", "()I"⟩
abbrev cX6_load : ByteArray := prog_1_method_5_code
def yX6_load : MethodName := ⟨RX6, "load", "(I)I"⟩
abbrev cX6_edit : ByteArray := prog_1_method_6_code
def yX6_edit : MethodName := ⟨RX6, "edit", "(III)I"⟩
abbrev cX6_swap : ByteArray := prog_1_method_7_code
def yX6_swap : MethodName := ⟨RX6, "swap", "(II)I"⟩
abbrev cX6_set : ByteArray := prog_1_method_8_code
def yX6_set : MethodName := ⟨RX6, "set", "(II)I"⟩
abbrev cX6_lay : ByteArray := prog_1_method_9_code
def yX6_lay : MethodName := ⟨RX6, "lay", "(Z)I"⟩
abbrev cX6_line : ByteArray := prog_1_method_10_code
def yX6_line : MethodName := ⟨RX6, "line", "(II)I"⟩
abbrev cX6_distance : ByteArray := prog_1_method_11_code
def yX6_distance : MethodName := ⟨RX6, "distance", "(I)I"⟩
abbrev cX6_view : ByteArray := prog_1_method_12_code
def yX6_view : MethodName := ⟨RX6, "view", "(II)I"⟩
abbrev cX6_hunk : ByteArray := prog_1_method_13_code
def yX6_hunk : MethodName := ⟨RX6, "hunk", "(II)I"⟩
abbrev cX6_whyNot : ByteArray := prog_1_method_14_code
def yX6_whyNot : MethodName := ⟨RX6, "whyNot", "(IZ)I"⟩
abbrev cX6_count : ByteArray := prog_1_method_15_code
def yX6_count : MethodName := ⟨RX6, "count", "(I)I"⟩
abbrev cX6_alike : ByteArray := prog_1_method_16_code
def yX6_alike : MethodName := ⟨RX6, "alike", "()D"⟩
abbrev cX6_ifLaid : ByteArray := prog_1_method_17_code
def yX6_ifLaid : MethodName := ⟨RX6, "ifLaid", "(IZI)I"⟩
abbrev cX6_ifAround : ByteArray := prog_1_method_18_code
def yX6_ifAround : MethodName := ⟨RX6, "ifAround", "(I)I"⟩
abbrev cX6_least : ByteArray := prog_1_method_19_code
def yX6_least : MethodName := ⟨RX6, "least", "()I"⟩
abbrev cX6_undo : ByteArray := prog_1_method_20_code
def yX6_undo : MethodName := ⟨RX6, "undo", "()I"⟩
abbrev cX6_save : ByteArray := prog_1_method_21_code
def yX6_save : MethodName := ⟨RX6, "save", "()I"⟩
abbrev cX6_restore : ByteArray := prog_1_method_22_code
def yX6_restore : MethodName := ⟨RX6, "restore", "()I"⟩
abbrev cX6_isText : ByteArray := prog_1_method_23_code
def yX6_isText : MethodName := ⟨RX6, "isText", "(I)Z"⟩
abbrev cX6_isSign : ByteArray := prog_1_method_24_code
def yX6_isSign : MethodName := ⟨RX6, "isSign", "(I)Z"⟩
abbrev cX6_padSign : ByteArray := prog_1_method_25_code
def yX6_padSign : MethodName := ⟨RX6, "padSign", "(I)I"⟩
abbrev cX6_distanceNow : ByteArray := prog_1_method_26_code
def yX6_distanceNow : MethodName := ⟨RX6, "distanceNow", "()I"⟩
abbrev cX6_show : ByteArray := prog_1_method_27_code
def yX6_show : MethodName := ⟨RX6, "show", "()V"⟩
abbrev cX6_shownNumber : ByteArray := prog_1_method_28_code
def yX6_shownNumber : MethodName := ⟨RX6, "shownNumber", "(I)I"⟩
abbrev cX6_heldNumber : ByteArray := prog_1_method_29_code
def yX6_heldNumber : MethodName := ⟨RX6, "heldNumber", "(I)I"⟩
def RX7 : String := "HunkSlidesModel"
def TX7 : u_T := fun k => match k with
  | 0 => ("HunkSlidesModel", "s", "[I", true)
  | 1 => ("HunkSlidesModel", "past", "[I", true)
  | 2 => ("HunkSlidesModel", "known", "I", false)
  | 3 => ("HunkSlidesModel", "snap", "[I", true)
  | 4 => ("HunkSlidesModel", "isSaved", "Z", false)
  | 5 => ("HunkSlidesModel", "pad", "[I", true)
  | 6 => ("HunkSlidesModel", "length", "I", false)
  | 7 => ("HunkSlidesModel", "keep", "[I", true)
  | 8 => ("HunkSlidesModel", "without", "I", false)
  | 9 => ("HunkSlidesModel", "sign", "[I", true)
  | 10 => ("HunkSlidesModel", "kind", "[I", true)
  | 11 => ("HunkSlidesModel", "many", "I", false)
  | 12 => ("HunkSlidesModel", "third", "[I", true)
  | 13 => ("HunkSlidesModel", "thirds", "I", false)
  | 14 => ("HunkSlidesModel", "found", "[I", true)
  | 15 => ("HunkSlidesModel", "lower", "[I", true)
  | _ => ("HunkSlidesModel", "isLong", "Z", false)
def tyX7 : Nat → FieldType := fun k => match k with
  | 0 => .array .int
  | 1 => .array .int
  | 2 => .int
  | 3 => .array .int
  | 4 => .boolean
  | 5 => .array .int
  | 6 => .int
  | 7 => .array .int
  | 8 => .int
  | 9 => .array .int
  | 10 => .array .int
  | 11 => .int
  | 12 => .array .int
  | 13 => .int
  | 14 => .array .int
  | 15 => .array .int
  | _ => .boolean
abbrev wsX70 : List Cond := u_ws RX7 TX7 17
theorem nmX7 : ∀ a, a < 17 → ∀ b, b < 17 → a ≠ b → (TX7 a).2.1 ≠ (TX7 b).2.1 := by decide +kernel
theorem tyX7_ok : ∀ k, k < 17 → parseFieldDescriptor (TX7 k).2.2.1 = some (tyX7 k) := by decide +kernel
abbrev cX7_init : ByteArray := prog_9_method_1_code
def yX7_init : MethodName := ⟨RX7, "<init>", "()V"⟩
abbrev cX7_in : ByteArray := prog_9_method_3_code
def yX7_in : MethodName := ⟨RX7, "in", "(III)Z"⟩
abbrev cX7_remembers : ByteArray := prog_9_method_4_code
def yX7_remembers : MethodName := ⟨RX7, "remembers", "()V"⟩
abbrev cX7_lines : ByteArray := prog_9_method_5_code
def yX7_lines : MethodName := ⟨RX7, "lines", "(I)I"⟩
abbrev cX7_lineOf : ByteArray := prog_9_method_6_code
def yX7_lineOf : MethodName := ⟨RX7, "lineOf", "(II)I"⟩
abbrev cX7_olds : ByteArray := prog_9_method_7_code
def yX7_olds : MethodName := ⟨RX7, "olds", "()I"⟩
abbrev cX7_old : ByteArray := prog_9_method_8_code
def yX7_old : MethodName := ⟨RX7, "old", "(I)I"⟩
abbrev cX7_counts : ByteArray := prog_9_method_9_code
def yX7_counts : MethodName := ⟨RX7, "counts", "()I"⟩
abbrev cX7_shows : ByteArray := prog_9_method_10_code
def yX7_shows : MethodName := ⟨RX7, "shows", "(II)V"⟩
abbrev cX7_views : ByteArray := prog_9_method_11_code
def yX7_views : MethodName := ⟨RX7, "views", "()V"⟩
abbrev cX7_begins : ByteArray := prog_9_method_12_code
def yX7_begins : MethodName := ⟨RX7, "begins", "(I)Z"⟩
abbrev cX7_hunks : ByteArray := prog_9_method_13_code
def yX7_hunks : MethodName := ⟨RX7, "hunks", "()I"⟩
abbrev cX7_start : ByteArray := prog_9_method_14_code
def yX7_start : MethodName := ⟨RX7, "start", "(I)I"⟩
abbrev cX7_size : ByteArray := prog_9_method_15_code
def yX7_size : MethodName := ⟨RX7, "size", "(I)I"⟩
abbrev cX7_marked : ByteArray := prog_9_method_16_code
def yX7_marked : MethodName := ⟨RX7, "marked", "(II)I"⟩
abbrev cX7_isPlain : ByteArray := prog_9_method_17_code
def yX7_isPlain : MethodName := ⟨RX7, "isPlain", "(I)Z"⟩
abbrev cX7_whyNotFrom : ByteArray := prog_9_method_18_code
def yX7_whyNotFrom : MethodName := ⟨RX7, "whyNotFrom", "(IIZ)I"⟩
abbrev cX7_slides : ByteArray := prog_9_method_19_code
def yX7_slides : MethodName := ⟨RX7, "slides", "(IZ)I"⟩
abbrev cX7_worth : ByteArray := prog_9_method_20_code
def yX7_worth : MethodName := ⟨RX7, "worth", "(II)I"⟩
abbrev cX7_bestPlace : ByteArray := prog_9_method_21_code
def yX7_bestPlace : MethodName := ⟨RX7, "bestPlace", "(I)I"⟩
abbrev cX7_settles : ByteArray := prog_9_method_22_code
def yX7_settles : MethodName := ⟨RX7, "settles", "(I)V"⟩
abbrev cX7_around : ByteArray := prog_9_method_23_code
def yX7_around : MethodName := ⟨RX7, "around", "(IZI)I"⟩
abbrev cX7_linesBut : ByteArray := prog_9_method_24_code
def yX7_linesBut : MethodName := ⟨RX7, "linesBut", "(III)I"⟩
abbrev cX7_fits : ByteArray := prog_9_method_25_code
def yX7_fits : MethodName := ⟨RX7, "fits", "(IIII)Z"⟩
abbrev cX7_looks : ByteArray := prog_9_method_26_code
def yX7_looks : MethodName := ⟨RX7, "looks", "(IIIII)I"⟩
abbrev cX7_replaces : ByteArray := prog_9_method_27_code
def yX7_replaces : MethodName := ⟨RX7, "replaces", "(IIIII)V"⟩
abbrev cX7_lays : ByteArray := prog_9_method_28_code
def yX7_lays : MethodName := ⟨RX7, "lays", "(ZI)I"⟩
abbrev cX7_append : ByteArray := prog_9_method_29_code
def yX7_append : MethodName := ⟨RX7, "append", "(I)I"⟩
abbrev cX7_clear : ByteArray := prog_9_method_30_code
def yX7_clear : MethodName := ⟨RX7, "clear", "()I"⟩
abbrev cX7_signOf : ByteArray := prog_9_method_31_code
def yX7_signOf : MethodName := ⟨RX7, "signOf", "(I)I"⟩
abbrev cX7_fault : ByteArray := prog_9_method_32_code
def yX7_fault : MethodName := ⟨RX7, "fault", "()I"⟩
abbrev cX7_load : ByteArray := prog_9_method_33_code
def yX7_load : MethodName := ⟨RX7, "load", "(I)I"⟩
abbrev cX7_edit : ByteArray := prog_9_method_34_code
def yX7_edit : MethodName := ⟨RX7, "edit", "(III)I"⟩
abbrev cX7_swap : ByteArray := prog_9_method_35_code
def yX7_swap : MethodName := ⟨RX7, "swap", "(II)I"⟩
abbrev cX7_set : ByteArray := prog_9_method_36_code
def yX7_set : MethodName := ⟨RX7, "set", "(II)I"⟩
abbrev cX7_lay : ByteArray := prog_9_method_37_code
def yX7_lay : MethodName := ⟨RX7, "lay", "(Z)I"⟩
abbrev cX7_line : ByteArray := prog_9_method_38_code
def yX7_line : MethodName := ⟨RX7, "line", "(II)I"⟩
abbrev cX7_byDiagonals : ByteArray := prog_9_method_39_code
def yX7_byDiagonals : MethodName := ⟨RX7, "byDiagonals", "()I"⟩
abbrev cX7_distance : ByteArray := prog_9_method_40_code
def yX7_distance : MethodName := ⟨RX7, "distance", "(I)I"⟩
abbrev cX7_view : ByteArray := prog_9_method_41_code
def yX7_view : MethodName := ⟨RX7, "view", "(II)I"⟩
abbrev cX7_hunkAt : ByteArray := prog_9_method_42_code
def yX7_hunkAt : MethodName := ⟨RX7, "hunkAt", "(I)I"⟩
abbrev cX7_hunk : ByteArray := prog_9_method_43_code
def yX7_hunk : MethodName := ⟨RX7, "hunk", "(II)I"⟩
abbrev cX7_whyNot : ByteArray := prog_9_method_44_code
def yX7_whyNot : MethodName := ⟨RX7, "whyNot", "(IZ)I"⟩
abbrev cX7_linesOf : ByteArray := prog_9_method_45_code
def yX7_linesOf : MethodName := ⟨RX7, "linesOf", "(I)I"⟩
abbrev cX7_ofHunks : ByteArray := prog_9_method_46_code
def yX7_ofHunks : MethodName := ⟨RX7, "ofHunks", "(I)I"⟩
abbrev cX7_longestKept : ByteArray := prog_9_method_47_code
def yX7_longestKept : MethodName := ⟨RX7, "longestKept", "()I"⟩
abbrev cX7_count : ByteArray := prog_9_method_48_code
def yX7_count : MethodName := ⟨RX7, "count", "(I)I"⟩
abbrev cX7_alike : ByteArray := prog_9_method_49_code
def yX7_alike : MethodName := ⟨RX7, "alike", "()D"⟩
abbrev cX7_ifLaid : ByteArray := prog_9_method_50_code
def yX7_ifLaid : MethodName := ⟨RX7, "ifLaid", "(IZI)I"⟩
abbrev cX7_ifAround : ByteArray := prog_9_method_51_code
def yX7_ifAround : MethodName := ⟨RX7, "ifAround", "(I)I"⟩
abbrev cX7_least : ByteArray := prog_9_method_52_code
def yX7_least : MethodName := ⟨RX7, "least", "()I"⟩
abbrev cX7_undo : ByteArray := prog_9_method_53_code
def yX7_undo : MethodName := ⟨RX7, "undo", "()I"⟩
abbrev cX7_save : ByteArray := prog_9_method_54_code
def yX7_save : MethodName := ⟨RX7, "save", "()I"⟩
abbrev cX7_restore : ByteArray := prog_9_method_55_code
def yX7_restore : MethodName := ⟨RX7, "restore", "()I"⟩
def RJ11 : String := "java/lang/Character"
abbrev cJ11_isValidCodePoint_9a6ad : ByteArray := prog_10_method_11_code
def yJ11_isValidCodePoint_9a6ad : MethodName := ⟨RJ11, "isValidCodePoint", "(I)Z"⟩
abbrev cJ11_highSurrogate_5068e : ByteArray := prog_10_method_28_code
def yJ11_highSurrogate_5068e : MethodName := ⟨RJ11, "highSurrogate", "(I)C"⟩
abbrev cJ11_lowSurrogate_5068e : ByteArray := prog_10_method_29_code
def yJ11_lowSurrogate_5068e : MethodName := ⟨RJ11, "lowSurrogate", "(I)C"⟩
def RJ9 : String := "java/lang/Math"
abbrev cJ9_max_7cf53 : ByteArray := prog_11_method_65_code
def yJ9_max_7cf53 : MethodName := ⟨RJ9, "max", "(II)I"⟩
abbrev cJ9_min_7cf53 : ByteArray := prog_11_method_69_code
def yJ9_min_7cf53 : MethodName := ⟨RJ9, "min", "(II)I"⟩
def RJ0 : String := "java/lang/String"
abbrev cJ0_length_8abf5 : ByteArray := prog_12_method_54_code
def yJ0_length_8abf5 : MethodName := ⟨RJ0, "length", "()I"⟩
abbrev cJ0_indexOf_0f7a4 : ByteArray := prog_12_method_79_code
def yJ0_indexOf_0f7a4 : MethodName := ⟨RJ0, "indexOf", "(I)I"⟩
abbrev cJ0_indexOf_7cf53 : ByteArray := prog_12_method_80_code
def yJ0_indexOf_7cf53 : MethodName := ⟨RJ0, "indexOf", "(II)I"⟩
abbrev cJ0_coder_7d493 : ByteArray := prog_12_method_152_code
def yJ0_coder_7d493 : MethodName := ⟨RJ0, "coder", "()B"⟩
abbrev cJ0_isLatin1_aae02 : ByteArray := prog_12_method_154_code
def yJ0_isLatin1_aae02 : MethodName := ⟨RJ0, "isLatin1", "()Z"⟩
abbrev cJ0_checkBoundsBeginEnd_23922 : ByteArray := prog_12_method_158_code
def yJ0_checkBoundsBeginEnd_23922 : MethodName := ⟨RJ0, "checkBoundsBeginEnd", "(III)V"⟩
def RJ1 : String := "java/lang/StringLatin1"
abbrev cJ1_canEncode_9a6ad : ByteArray := prog_13_method_4_code
def yJ1_canEncode_9a6ad : MethodName := ⟨RJ1, "canEncode", "(I)Z"⟩
abbrev cJ1_indexOf_4cfef : ByteArray := prog_13_method_22_code
def yJ1_indexOf_4cfef : MethodName := ⟨RJ1, "indexOf", "([BIII)I"⟩
abbrev cJ1_indexOfChar_4cfef : ByteArray := prog_13_method_23_code
def yJ1_indexOfChar_4cfef : MethodName := ⟨RJ1, "indexOfChar", "([BIII)I"⟩
def RJ2 : String := "java/lang/StringUTF16"
abbrev cJ2_getChar_3b067 : ByteArray := prog_14_method_5_code
def yJ2_getChar_3b067 : MethodName := ⟨RJ2, "getChar", "([BI)C"⟩
abbrev cJ2_length_9d52b : ByteArray := prog_14_method_6_code
def yJ2_length_9d52b : MethodName := ⟨RJ2, "length", "([B)I"⟩
abbrev cJ2_indexOf_4cfef : ByteArray := prog_14_method_40_code
def yJ2_indexOf_4cfef : MethodName := ⟨RJ2, "indexOf", "([BIII)I"⟩
abbrev cJ2_indexOfChar_4cfef : ByteArray := prog_14_method_47_code
def yJ2_indexOfChar_4cfef : MethodName := ⟨RJ2, "indexOfChar", "([BIII)I"⟩
abbrev cJ2_indexOfCharUnsafe_4cfef : ByteArray := prog_14_method_48_code
def yJ2_indexOfCharUnsafe_4cfef : MethodName := ⟨RJ2, "indexOfCharUnsafe", "([BIII)I"⟩
abbrev cJ2_indexOfSupplementary_4cfef : ByteArray := prog_14_method_49_code
def yJ2_indexOfSupplementary_4cfef : MethodName := ⟨RJ2, "indexOfSupplementary", "([BIII)I"⟩
abbrev cJ2_checkBoundsBeginEnd_d044e : ByteArray := prog_14_method_93_code
def yJ2_checkBoundsBeginEnd_d044e : MethodName := ⟨RJ2, "checkBoundsBeginEnd", "(II[B)V"⟩
def RJ3 : String := "jdk/internal/util/Preconditions"
abbrev cJ3_checkFromToIndex_8c36e : ByteArray := prog_15_method_12_code
def yJ3_checkFromToIndex_8c36e : MethodName := ⟨RJ3, "checkFromToIndex", "(IIILjava/util/function/BiFunction;)I"⟩
def RL : String := "HunkSlidesLaw"
def yL_law : MethodName := ⟨RL, "law", "([I)Z"⟩
abbrev vwCl : List vw_C := [(RX0, TX0, 2), (RX1, TX1, 2), (RX2, TX2, 10), (RX3, TX3, 2), (RX4, TX4, 7), (RX5, TX5, 5), (RX6, TX6, 9), (RX7, TX7, 17)]
end
section
def NC : Nat := 87
def kdL : List Nat := [8, 5, 0, 6, 5, 0, 5, 0, 5, 0, 6, 5, 0, 5, 0, 5, 0, 3, 1, 6, 5, 0, 5, 0, 5, 0, 6, 5, 0, 5, 0, 5, 0, 6, 5, 0, 5, 0, 5, 0, 6, 5, 0, 5, 0, 5, 0, 5, 0, 2, 5, 0, 5, 0, 7, 5, 0, 5, 0, 5, 0, 5, 0, 5, 0, 4, 5, 0, 5, 0, 5, 0, 5, 0, 5, 0, 9, 0, 0, 0, 0, 0, 0, 0, 0, 0, 0]
def alL : List Nat := [0, 0, 40, 0, 0, 14, 0, 14, 0, 14, 0, 0, 14, 0, 14, 0, 14, 0, 4, 0, 0, 14, 0, 14, 0, 14, 0, 0, 14, 0, 14, 0, 14, 0, 0, 14, 0, 14, 0, 14, 0, 0, 14, 0, 14, 0, 14, 0, 14, 0, 0, 225, 0, 59, 0, 0, 28, 0, 28, 0, 28, 0, 28, 0, 28, 0, 0, 28, 0, 28, 0, 28, 0, 28, 0, 28, 0, 49, 196, 49, 40, 225, 28, 28, 60, 28, 28]
def rfL : List (List Nat) := [[1, 3, 10, 0, 17, 47, 49, 54, 65], [2, 0], [], [4, 6, 8, 0, 0, 0, 0], [5, 0], [], [7, 0], [], [9, 0], [], [11, 13, 15, 0, 0, 0, 0], [12, 0], [], [14, 0], [], [16, 0], [], [18, 0], [19, 26, 33, 40], [20, 22, 24, 0, 0, 0, 0], [21, 0], [], [23, 0], [], [25, 0], [], [27, 29, 31, 0, 0, 0, 0], [28, 0], [], [30, 0], [], [32, 0], [], [34, 36, 38, 0, 0, 0, 0], [35, 0], [], [37, 0], [], [39, 0], [], [41, 43, 45, 0, 0, 0, 0], [42, 0], [], [44, 0], [], [46, 0], [], [48, 0], [], [50, 52], [51, 0], [], [53, 0], [], [55, 57, 59, 61, 63], [56, 0], [], [58, 0], [], [60, 0], [], [62, 0], [], [64, 0], [], [66, 68, 70, 72, 74, 0, 0, 0, 0, 0], [67, 0], [], [69, 0], [], [71, 0], [], [73, 0], [], [75, 0], [], [77, 78, 0, 79, 0, 80, 0, 81, 0, 82, 83, 0, 84, 0, 85, 86, 0], [], [], [], [], [], [], [], [], [], []]
def fcL : List (List Nat) := [[2, 2], [2, 0], [2, 2, 2, 2, 2, 0, 0, 0, 0, 0], [2, 0], [2, 2, 2, 0, 0, 0, 0], [2, 2, 2, 2, 2], [2, 2, 2, 1, 2, 2, 2, 2, 2], [2, 2, 0, 2, 1, 2, 0, 2, 0, 2, 2, 0, 2, 0, 2, 2, 1]]
/-! ===== the mini machine: numbers as Int, cells by their places in the world behind the constructors ===== -/
abbrev MV : Type := Int ⊕ (Option Nat ⊕ UInt64)
abbrev MH : Type := Nat → Nat → Int
abbrev ML : Type := List (Nat × MV)
abbrev vI (z : Int) : MV := Sum.inl z
abbrev vR (i : Nat) : MV := Sum.inr (Sum.inl (some i))
abbrev vO (o : Option Nat) : MV := Sum.inr (Sum.inl o)
abbrev vD (d : UInt64) : MV := Sum.inr (Sum.inr d)
def inR (z : Int) : Prop := -2147483648 ≤ z ∧ z ≤ 2147483647
def wr (z : Int) : Int := Int.bmod z 4294967296
def up (h : MH) (i j : Nat) (v : Int) : MH := fun a b => if a = i ∧ b = j then v else h a b
def c2 : MV → Bool
  | .inr (.inr _) => true
  | _ => false
def tv (ad : Nat → Nat) : MV → Value
  | .inl z => .int (Int32.ofInt z)
  | .inr (.inl (some i)) => .ref (ad i)
  | .inr (.inl none) => .null
  | .inr (.inr d) => .double d
def okV : MV → Prop
  | .inl z => inR z
  | _ => True
def tl (ad : Nat → Nat) (q : Nat × MV) : Nat × Value := (q.1, tv ad q.2)
def kd (i : Nat) : Nat := kdL.getD i 1000
def al (i : Nat) : Nat := alL.getD i 0
def rf (i k : Nat) : Nat := (rfL.getD i []).getD k 0
def fc (ci k : Nat) : Nat := (fcL.getD ci []).getD k 3
def fn (ci : Nat) : Nat := (fcL.getD ci []).length
def lkL : ML → Nat → Option MV
  | [], _ => none
  | q :: l, i => bif q.1 == i then some q.2 else lkL l i
def sto (L : ML) (i : Nat) (v : MV) : ML := (i, v) :: L.filter (fun q => !(q.1 == i) && !(q.1 + 1 == i && c2 q.2))
def sto2 (L : ML) (i : Nat) (v : MV) : ML := (i, v) :: L.filter (fun q => !(q.1 == i) && (!(q.1 == i + 1) && !(q.1 + 1 == i && c2 q.2)))
def ilen : Instr → Nat
  | .bipush _ | .iload _ | .istore _ | .aload _ | .astore _ | .dload _ | .dstore _ | .ldc _ | .newarray _ => 2
  | .sipush _ | .iinc _ _ | .getfield _ | .putfield _ | .invokevirtual _ | .invokespecial _ | .invokestatic _ | .goto _ | .if_icmp _ _ | .ifCond _ _ | .ifnull _ | .ifnonnull _ | .new _ | .anewarray _ => 3
  | _ => 1
def plen : List Instr → Nat
  | [] => 0
  | I :: is => ilen I + plen is
def sits (cc : ByteArray) : Nat → List Instr → Bool
  | _, [] => true
  | pc, I :: is => decide (decode cc pc = .ok (I, ilen I)) && sits cc (pc + ilen I) is
abbrev MR : Type := Option ((ML × List MV × MH) × Prop)
/-- one instruction of a straight stretch; the Prop is what must hold for it -/
def mstep (fl : Nat → Option (Nat × Nat)) (nL : Nat) : Instr → ML → List MV → MH → MR
  | .iconst n, L, st, h => bif decide (-100 ≤ n) && decide (n ≤ 100) then some ((L, vI n :: st, h), True) else none
  | .bipush n, L, st, h => bif decide (-128 ≤ n) && decide (n ≤ 127) then some ((L, vI n :: st, h), True) else none
  | .sipush n, L, st, h => bif decide (-32768 ≤ n) && decide (n ≤ 32767) then some ((L, vI n :: st, h), True) else none
  | .iload_n k, L, st, h => match lkL L k.val with
    | some (.inl z) => some ((L, vI z :: st, h), True)
    | _ => none
  | .iload k, L, st, h => match lkL L k with
    | some (.inl z) => some ((L, vI z :: st, h), True)
    | _ => none
  | .aload_n k, L, st, h => match lkL L k.val with
    | some (.inr (.inl o)) => some ((L, vO o :: st, h), True)
    | _ => none
  | .aload k, L, st, h => match lkL L k with
    | some (.inr (.inl o)) => some ((L, vO o :: st, h), True)
    | _ => none
  | .dload k, L, st, h => match lkL L k with
    | some (.inr (.inr d)) => some ((L, vD d :: st, h), True)
    | _ => none
  | .istore_n k, L, .inl z :: st, h => bif decide (k.val < nL) then some ((sto L k.val (vI z), st, h), True) else none
  | .istore k, L, .inl z :: st, h => bif decide (k < nL) then some ((sto L k (vI z), st, h), True) else none
  | .astore_n k, L, .inr (.inl (some i)) :: st, h => bif decide (k.val < nL) then some ((sto L k.val (vR i), st, h), True) else none
  | .astore k, L, .inr (.inl (some i)) :: st, h => bif decide (k < nL) then some ((sto L k (vR i), st, h), True) else none
  | .dstore k, L, .inr (.inr d) :: st, h => bif decide (k + 1 < nL) then some ((sto2 L k (vD d), st, h), True) else none
  | .iinc k n, L, st, h => match lkL L k with
    | some (.inl z) => bif decide (k < nL) then some ((sto L k (vI (wr (z + n))), st, h), True) else none
    | _ => none
  | .iadd, L, .inl y :: .inl x :: st, h => some ((L, vI (wr (x + y)) :: st, h), True)
  | .isub, L, .inl y :: .inl x :: st, h => some ((L, vI (wr (x - y)) :: st, h), True)
  | .imul, L, .inl y :: .inl x :: st, h => some ((L, vI (wr (x * y)) :: st, h), True)
  | .ineg, L, .inl x :: st, h => some ((L, vI (wr (-x)) :: st, h), True)
  | .i2c, L, .inl x :: st, h => some ((L, vI (x % 65536) :: st, h), True)
  | .dup, L, .inl z :: st, h => some ((L, vI z :: vI z :: st, h), True)
  | .dup, L, .inr (.inl o) :: st, h => some ((L, vO o :: vO o :: st, h), True)
  | .dup2, L, .inl y :: .inr (.inl o) :: st, h => some ((L, vI y :: vO o :: vI y :: vO o :: st, h), True)
  | .pop, L, .inl _ :: st, h => some ((L, st, h), True)
  | .aconst_null, L, st, h => some ((L, vO none :: st, h), True)
  | .getfield idx, L, .inr (.inl (some i)) :: st, h => match fl idx with
    | some (ci, k) => bif fc ci k == 2 then some ((L, vR (rf i k) :: st, h), kd i = ci + 2) else some ((L, vI (h i k) :: st, h), kd i = ci + 2)
    | none => none
  | .putfield idx, L, .inl v :: .inr (.inl (some i)) :: st, h => match fl idx with
    | some (ci, k) => bif fc ci k == 0 then some ((L, st, up h i k v), kd i = ci + 2) else bif fc ci k == 1 then some ((L, st, up h i k v), kd i = ci + 2 ∧ (v = 0 ∨ v = 1)) else none
    | none => none
  | .iaload, L, .inl j :: .inr (.inl (some a)) :: st, h => some ((L, vI (h a j.toNat) :: st, h), kd a = 0 ∧ 0 ≤ j ∧ j < (al a : Int))
  | .iastore, L, .inl v :: .inl j :: .inr (.inl (some a)) :: st, h => some ((L, st, up h a j.toNat v), kd a = 0 ∧ 0 ≤ j ∧ j < (al a : Int))
  | .arraylength, L, .inr (.inl (some a)) :: st, h => some ((L, vI (al a : Int) :: st, h), kd a ≤ 1)
  | .aaload, L, .inl j :: .inr (.inl (some a)) :: st, h => some ((L, vR (rf a j.toNat) :: st, h), kd a = 1 ∧ 0 ≤ j ∧ j < (al a : Int))
  | .i2d, L, .inl x :: st, h => some ((L, vD (FP.i2d (Int32.ofInt x)) :: st, h), True)
  | .dconst n, L, st, h => bif n.val == 1 then some ((L, vD FP.dconst1 :: st, h), True) else none
  | .dmul, L, .inr (.inr y) :: .inr (.inr x) :: st, h => some ((L, vD (FP.dmul x y) :: st, h), vf_n64 (FP.dmul x y))
  | .ddiv, L, .inr (.inr y) :: .inr (.inr x) :: st, h => some ((L, vD (FP.ddiv x y) :: st, h), vf_n64 (FP.ddiv x y))
  | .dcmp op, L, .inr (.inr y) :: .inr (.inr x) :: st, h => some ((L, vI (Op.cmpValue (FP.dcmp x y) op).toInt :: st, h), True)
  | _, _, _, _ => none
def mrun (fl : Nat → Option (Nat × Nat)) (nL : Nat) : List Instr → ML → List MV → MH → MR
  | [], L, st, h => some ((L, st, h), True)
  | I :: is, L, st, h => match mstep fl nL I L st h with
    | none => none
    | some ((L1, st1, h1), P) => match mrun fl nL is L1 st1 h1 with
      | none => none
      | some (c, P') => some (c, P ∧ P')
end
section
def sgIdx : Nat := 223
/-! ===== Int32 against Int ===== -/
theorem ti {z : Int} (h : inR z) : (Int32.ofInt z).toInt = z := by
  unfold inR at h
  rw [Int32.toInt_ofInt]
  have : (Int32.size : Int) = 4294967296 := rfl
  first
    | (rw [this]; exact Int.bmod_eq_of_le (by omega) (by omega))
    | (exact Int.bmod_eq_of_le (by omega) (by omega))
theorem inR_wr (z : Int) : inR (wr z) := by
  unfold inR wr
  have h1 := @Int.le_bmod z 4294967296 (by omega)
  have h2 := @Int.bmod_lt z 4294967296 (by omega)
  omega
theorem wr_id {z : Int} (h : -2147483648 ≤ z ∧ z ≤ 2147483647) : wr z = z := by
  unfold wr
  exact Int.bmod_eq_of_le (by omega) (by omega)
theorem oi_wr (z : Int) : Int32.ofInt (wr z) = Int32.ofInt z := by
  apply Int32.toInt_inj.mp
  rw [ti (inR_wr z), Int32.toInt_ofInt]
  rfl
theorem inR_toInt (x : Int32) : inR x.toInt := by
  unfold inR
  have h1 := Int32.le_toInt x
  have h2 := Int32.toInt_lt x
  omega
theorem oi_toInt (x : Int32) : Int32.ofInt x.toInt = x := Int32.ofInt_toInt x
theorem oi_add (x y : Int) : Int32.ofInt x + Int32.ofInt y = Int32.ofInt (wr (x + y)) := by rw [oi_wr, Int32.ofInt_add]
theorem oi_sub (x y : Int) : Int32.ofInt x - Int32.ofInt y = Int32.ofInt (wr (x - y)) := by rw [oi_wr, Int32.ofInt_sub]
theorem oi_mul (x y : Int) : Int32.ofInt x * Int32.ofInt y = Int32.ofInt (wr (x * y)) := by rw [oi_wr, Int32.ofInt_mul]
theorem oi_neg (x : Int) : -Int32.ofInt x = Int32.ofInt (wr (-x)) := by rw [oi_wr, Int32.ofInt_neg]
theorem oi_eq {x y : Int} (hx : inR x) (hy : inR y) : Int32.ofInt x = Int32.ofInt y ↔ x = y :=
  ⟨fun h => by rw [← ti hx, ← ti hy, h], fun h => by rw [h]⟩
theorem oi_lt {x y : Int} (hx : inR x) (hy : inR y) : Int32.ofInt x < Int32.ofInt y ↔ x < y := by rw [Int32.lt_iff_toInt_lt, ti hx, ti hy]
theorem oi_le {x y : Int} (hx : inR x) (hy : inR y) : Int32.ofInt x ≤ Int32.ofInt y ↔ x ≤ y := by rw [Int32.le_iff_toInt_le, ti hx, ti hy]
theorem oi_nat (n : Nat) : Int32.ofInt (n : Int) = Int32.ofNat n := rfl
theorem oi_clamp {z : Int} (h0 : 0 ≤ z) (h1 : inR z) : (Int32.ofInt z).toNatClampNeg = z.toNat := by
  show (Int32.ofInt z).toInt.toNat = _
  rw [ti h1]
theorem oi_in {z : Int} {n : Nat} (h1 : inR z) (h : 0 ≤ z ∧ z < (n : Int)) : vp_in (Int32.ofInt z) n := by
  rw [vp_in_iff, ti h1]
  exact h
theorem inR_lit {n : Int} (h : -32768 ≤ n ∧ n ≤ 32767) : inR n := by unfold inR; omega
theorem oi_i2c {x : Int} (h : inR x) : ((Int32.ofInt x).toUInt32 % 65536).toInt32 = Int32.ofInt (x % 65536) := by
  apply Int32.toInt_inj.mp
  rw [pk_char, ti (by unfold inR; omega)]
  rw [nI_toInt (by omega)]
  have h2 : ((Int32.ofInt x).toBitVec.toNat : Int) = x % 4294967296 := by
    have h3 : (Int32.ofInt x).toBitVec.toInt = x := ti h
    have h4 := BitVec.toInt_eq_toNat_cond (Int32.ofInt x).toBitVec
    have h5 := (Int32.ofInt x).toBitVec.isLt
    rw [h3] at h4
    unfold inR at h
    split at h4 <;> omega
  omega
/-! ===== the world of cells, and one instruction of the mini machine against the machine ===== -/
def TB : List Cond := lw_tbl.filter goodWord
theorem TB_in {w : Cond} (h : w ∈ TB) : w ∈ lw_tbl := (List.mem_filter.mp h).1
theorem TB_good : GoodIn TB TB := fun w h => ⟨h, good_of_word (List.mem_filter.mp h).2⟩
def cellE (cI cS : ClassId) (ad : Nat → Nat) (h : MH) (i : Nat) : va_E :=
  if kd i = 0 then .inl (cI, al i, .inl (fun j => Int32.ofInt (h i j)))
  else if kd i = 1 then .inl (cS, al i, .inr (.inr (.inr (.inr (fun j => some (ad (rf i j)))))))
  else .inr (kd i - 2, (List.range (fn (kd i - 2))).map (fun k => if fc (kd i - 2) k = 2 then .ref (ad (rf i k)) else .int (Int32.ofInt (h i k))))
def wsOf (cI cS : ClassId) (ad : Nat → Nat) (h : MH) : va_W := (List.range NC).map (fun i => (ad i, cellE cI cS ad h i))
theorem kd_lt {i n : Nat} (h : kd i = n) (hn : n < 1000) : i < NC := by
  rcases Nat.lt_or_ge i NC with q | q
  · exact q
  · exfalso
    unfold kd at h
    rw [List.getD_eq_getElem?_getD, List.getElem?_eq_none (by exact q)] at h
    simp at h
    omega
theorem wsOf_at {cI cS : ClassId} {ad : Nat → Nat} {h : MH} {i : Nat} (hi : i < NC) : (wsOf cI cS ad h)[i]? = some (ad i, cellE cI cS ad h i) := by
  simp [wsOf, hi]
theorem up_ne {h : MH} {i k : Nat} {v : Int} {a : Nat} (ha : a ≠ i) : up h i k v a = h a := by
  funext b
  simp [up, ha]
theorem cellE_up {cI cS : ClassId} {ad : Nat → Nat} {h : MH} {i k : Nat} {v : Int} {a : Nat} (ha : a ≠ i) : cellE cI cS ad (up h i k v) a = cellE cI cS ad h a := by
  unfold cellE
  rw [up_ne ha]
theorem wsOf_up {cI cS : ClassId} {ad : Nat → Nat} {h : MH} {i k : Nat} {v : Int} : wsOf cI cS ad (up h i k v) = (wsOf cI cS ad h).set i (ad i, cellE cI cS ad (up h i k v) i) := by
  apply List.ext_getElem?
  intro j
  have hlen : (wsOf cI cS ad h).length = NC := by simp [wsOf]
  by_cases hj : j < NC
  · by_cases hij : j = i
    · subst hij
      rw [wsOf_at hj, List.getElem?_set_self (by rw [hlen]; exact hj)]
    · rw [List.getElem?_set_ne (Ne.symm hij), wsOf_at hj, wsOf_at hj, cellE_up hij]
  · rw [List.getElem?_eq_none (by simp [wsOf]; omega), List.getElem?_eq_none (by simp [wsOf]; omega)]
theorem cellE_i {cI cS : ClassId} {ad : Nat → Nat} {h : MH} {i : Nat} (hk : kd i = 0) : cellE cI cS ad h i = .inl (cI, al i, .inl (fun j => Int32.ofInt (h i j))) := by
  unfold cellE; rw [if_pos hk]
theorem cellE_s {cI cS : ClassId} {ad : Nat → Nat} {h : MH} {i : Nat} (hk : kd i = 1) : cellE cI cS ad h i = .inl (cS, al i, .inr (.inr (.inr (.inr (fun j => some (ad (rf i j))))))) := by
  unfold cellE; rw [if_neg (by omega), if_pos hk]
theorem cellE_o {cI cS : ClassId} {ad : Nat → Nat} {h : MH} {i ci : Nat} (hk : kd i = ci + 2) : cellE cI cS ad h i = .inr (ci, (List.range (fn ci)).map (fun k => if fc ci k = 2 then .ref (ad (rf i k)) else .int (Int32.ofInt (h i k)))) := by
  unfold cellE
  rw [if_neg (by omega), if_neg (by omega)]
  have : kd i - 2 = ci := by omega
  rw [this]
def sgTx : String := "abcdef.{}"
def EXT (ad : Nat → Nat) (A : Nat → Prop) (U : State) (H : Heap) : Prop := vk_R "HunkSlides" sgIdx sgTx (ad 101) U ∧ vk_S 1 [9] [[97, 98, 99, 100, 101, 102, 46, 123, 125]] (fun _ => ad 101) (fun _ => ad 102) A U H ∧ va_Z "java/lang/String" "COMPACT_STRINGS" "Z" (.int 1) A U H
abbrev tysOf (cI cS : ClassId) : List (ClassId × FieldType) := [(cI, .int), (cS, .object "HunkSlides$State")]
def wld (D : va_G) (cI cS : ClassId) (ad : Nat → Nat) (A : Nat → Prop) (h : MH) (H : Heap) : Prop := va_P D vwCl (wsOf cI cS ad h) H ∧ va_D A (wsOf cI cS ad h) ∧ ∀ i j, inR (h i j)
def CX (own : String) (cc : ByteArray) (nL : Nat) (ret : Option FieldType) (p : Program) (s : State) (m : MethodId) (args : Array Value) (meth : Method) (c : Code) (D : va_G) (cI cS : ClassId) (ad : Nat → Nat) (A : Nat → Prop) : Prop :=
  p.tables.exec = Jvm.exec ∧ c.code = cc ∧ c.maxLocals = nL ∧ meth.sig.returnType = ret ∧ s.vm.findClass own = some m.cls ∧ (∀ w ∈ TB, w.before args s = true) ∧ va_K D vwCl (tysOf cI cS) s ∧ meth.locks = false ∧ EXT ad A s s.heap
def FLD (own : String) (idx ci k : Nat) : Prop := ∃ (C : String) (T : u_T) (N : Nat) (ty : Nat → FieldType), vwCl[ci]? = some (C, T, N) ∧ k < N ∧ fn ci = N ∧ (T k).1 = C ∧ Cond.fieldLink own idx C (T k).2.1 (T k).2.2.1 ∈ TB ∧ (∀ w ∈ u_ws C T N, w ∈ TB) ∧
  (∀ k, k < N → parseFieldDescriptor (T k).2.2.1 = some (ty k)) ∧ (∀ a, a < N → ∀ b, b < N → a ≠ b → (T a).2.1 ≠ (T b).2.1) ∧ (fc ci k = 0 → ty k = .int) ∧ (fc ci k = 1 → ty k = .boolean) ∧ (fc ci k ≠ 2 → (T k).2.2.2 = false)
def flok (own : String) (fl : Nat → Option (Nat × Nat)) : Prop := ∀ idx ci k, fl idx = some (ci, k) → FLD own idx ci k
def WM (p : Program) (l : Launch) (e : Env) (R : Room) (s : State) (m : MethodId) (args : Array Value) (below : List Frame) (meth : Method) (c : Code) (cells slots : Nat) (Q : State → Prop) (D : va_G) (cI cS : ClassId) (ad : Nat → Nat) (A : Nat → Prop) (nL : Nat) (pc : Nat) (L : ML) (st : List MV) (h : MH) : Prop :=
  (∀ q ∈ L, okV q.2) → (∀ v ∈ st, okV v) → ∀ (H : Heap) (ls : Array Slot) (locs : List Loc), wld D cI cS ad A h H → va_S A s.heap H locs → lv_has ls nL (L.map (tl ad)) → W p l e R s m args below meth c H locs cells slots Q (F0 m pc ls (st.map (tv ad)))
theorem tv_cat (ad : Nat → Nat) (v : MV) : ((tv ad v).category == 2) = c2 v := by
  rcases v with z | (_ | i) | d <;> rfl
theorem tv_cat1 {ad : Nat → Nat} {v : MV} (h : c2 v = false) : (tv ad v).category = 1 := by
  rcases v with z | (_ | i) | d
  · rfl
  · rfl
  · rfl
  · cases h
theorem lk_at {ad : Nat → Nat} {ls : Array Slot} {nL : Nat} {v : MV} {i : Nat} : ∀ {L : ML}, lv_has ls nL (L.map (tl ad)) → lkL L i = some v → ls[i]? = some (.val (tv ad v)) := by
  intro L h hk
  have key : ∀ L : ML, lkL L i = some v → (i, v) ∈ L := by
    intro L
    induction L with
    | nil => intro h; cases h
    | cons q l ih =>
      intro h
      unfold lkL at h
      cases hq : q.1 == i with
      | true =>
        rw [hq] at h
        have hq2 : q.1 = i := by simpa using hq
        obtain ⟨a, b⟩ := q
        cases h
        cases hq2
        exact List.mem_cons_self
      | false =>
        rw [hq] at h
        exact List.mem_cons_of_mem _ (ih h)
  exact h.2.2 (tl ad (i, v)) (List.mem_map_of_mem (key L hk))
theorem lk_ok {v : MV} {i : Nat} : ∀ {L : ML}, (∀ q ∈ L, okV q.2) → lkL L i = some v → okV v := by
  intro L
  induction L with
  | nil => intro _ h; cases h
  | cons q l ih =>
    intro ho h
    unfold lkL at h
    cases hq : q.1 == i with
    | true =>
      rw [hq] at h
      cases h
      exact ho q List.mem_cons_self
    | false =>
      rw [hq] at h
      exact ih (fun q hq => ho q (List.mem_cons_of_mem _ hq)) h
theorem sto_map (ad : Nat → Nat) (L : ML) (i : Nat) (v : MV) : (i, tv ad v) :: (L.map (tl ad)).filter (fun q => !(q.1 == i) && !(q.1 + 1 == i && q.2.category == 2)) = (sto L i v).map (tl ad) := by
  unfold sto
  rw [List.map_cons, List.filter_map]
  congr 2
  apply List.filter_congr
  intro q _
  simp only [Function.comp, tl, tv_cat]
theorem sto2_map (ad : Nat → Nat) (L : ML) (i : Nat) (v : MV) : (i, tv ad v) :: (L.map (tl ad)).filter (fun q => !(q.1 == i) && (!(q.1 == i + 1) && !(q.1 + 1 == i && q.2.category == 2))) = (sto2 L i v).map (tl ad) := by
  unfold sto2
  rw [List.map_cons, List.filter_map]
  congr 2
  apply List.filter_congr
  intro q _
  simp only [Function.comp, tl, tv_cat]
theorem sto_ok {L : ML} {i : Nat} {v : MV} (ho : ∀ q ∈ L, okV q.2) (hv : okV v) : ∀ q ∈ sto L i v, okV q.2 := by
  intro q hq
  rcases List.mem_cons.mp hq with rfl | hq
  · exact hv
  · exact ho q (List.mem_filter.mp hq).1
theorem sto2_ok {L : ML} {i : Nat} {v : MV} (ho : ∀ q ∈ L, okV q.2) (hv : okV v) : ∀ q ∈ sto2 L i v, okV q.2 := by
  intro q hq
  rcases List.mem_cons.mp hq with rfl | hq
  · exact hv
  · exact ho q (List.mem_filter.mp hq).1
theorem okc {v : MV} {st : List MV} (hv : okV v) (h : ∀ v ∈ st, okV v) : ∀ w ∈ v :: st, okV w := List.forall_mem_cons.mpr ⟨hv, h⟩
theorem rng_up {h : MH} {i k : Nat} {v : Int} (hh : ∀ i j, inR (h i j)) (hv : inR v) : ∀ a b, inR (up h i k v a b) := by
  intro a b
  unfold up
  split
  · exact hv
  · exact hh a b
theorem al_le (i : Nat) : al i ≤ 1000 := by
  unfold al
  rw [List.getD_eq_getElem?_getD]
  cases hq : alL[i]? with
  | none => exact Nat.zero_le _
  | some x =>
    have : ∀ y ∈ alL, y ≤ 1000 := by decide
    exact this x (List.mem_of_getElem? hq)
end
section
section STEP
variable {p : Program} {l : Launch} {e : Env} {R : Room} {s : State} {m : MethodId} {args : Array Value} {below : List Frame} {meth : Method} {c : Code} {cells slots : Nat} {Q : State → Prop} {D : va_G} {cI cS : ClassId} {ad : Nat → Nat} {A : Nat → Prop} {nL : Nat}
variable {own : String} {cc : ByteArray} {ret : Option FieldType} {fl : Nat → Option (Nat × Nat)} {pc : Nat}
theorem wm_get (hX : CX own cc nL ret p s m args meth c D cI cS ad A) (hf : flok own fl) {idx ci k i : Nat} {L : ML} {st : List MV} {h : MH} (hfl : fl idx = some (ci, k)) (hki : kd i = ci + 2) (hd : decode cc pc = .ok (.getfield idx, 3))
    (hk : WM p l e R s m args below meth c cells slots Q D cI cS ad A nL (pc + 3) L ((if fc ci k = 2 then vR (rf i k) else vI (h i k)) :: st) h) : WM p l e R s m args below meth c cells slots Q D cI cS ad A nL pc L (vR i :: st) h := by
  obtain ⟨hx, hb, hml, hr, hown, hts, hK, hlocks, hE⟩ := hX
  obtain ⟨C, T, N, ty, g1, g2, g3, g4, g5, g6, g7, g8, g9, g10, g11⟩ := hf idx ci k hfl
  intro hoL hoS H ls locs hw hS hl
  have hi : i < NC := kd_lt hki (by
    have : ci < 8 := (List.getElem?_eq_some_iff.mp g1).1
    omega)
  refine va_get (ref := C) (D := D) (cl := vwCl) (tys := tysOf cI cS) (Ts := TB) hx hb hts g6 hown hK hw.1 i (by rw [wsOf_at hi, cellE_o hki]) g1 k g2 (hts _ g5) (fun _ q => by rw [g4] at q; exact q) (v := tv ad (if fc ci k = 2 then vR (rf i k) else vI (h i k))) ?_ hd ?_
  · rw [List.getElem?_map, List.getElem?_range (by omega)]
    show some (if fc ci k = 2 then _ else _) = _
    split <;> rfl
  · refine hk hoL ?_ H ls locs hw hS hl
    intro v hv
    rcases List.mem_cons.mp hv with rfl | hv
    · split
      · exact trivial
      · exact hw.2.2 i k
    · exact hoS v (List.mem_cons_of_mem _ hv)
theorem wm_put (hX : CX own cc nL ret p s m args meth c D cI cS ad A) (hf : flok own fl) {idx ci k i : Nat} {L : ML} {st : List MV} {h : MH} {v : Int} (hfl : fl idx = some (ci, k)) (hki : kd i = ci + 2) (hc : fc ci k = 0 ∨ (fc ci k = 1 ∧ (v = 0 ∨ v = 1))) (hd : decode cc pc = .ok (.putfield idx, 3))
    (hk : WM p l e R s m args below meth c cells slots Q D cI cS ad A nL (pc + 3) L st (up h i k v)) : WM p l e R s m args below meth c cells slots Q D cI cS ad A nL pc L (vI v :: vR i :: st) h := by
  obtain ⟨hx, hb, hml, hr, hown, hts, hK, hlocks, hE⟩ := hX
  obtain ⟨C, T, N, ty, g1, g2, g3, g4, g5, g6, g7, g8, g9, g10, g11⟩ := hf idx ci k hfl
  intro hoL hoS H ls locs hw hS hl
  have hi : i < NC := kd_lt hki (by
    have : ci < 8 := (List.getElem?_eq_some_iff.mp g1).1
    omega)
  have hv0 : inR v := hoS (vI v) List.mem_cons_self
  have hn2 : fc ci k ≠ 2 := by omega
  have hnar : narrow (ty k) (.int (Int32.ofInt v)) = .int (Int32.ofInt v) ∧ fits (ty k) (.int (Int32.ofInt v)) = true := by
    rcases hc with hc | ⟨hc, rfl | rfl⟩
    · rw [g9 hc]; exact ⟨rfl, rfl⟩
    · rw [g10 hc]; exact ⟨by decide, by decide⟩
    · rw [g10 hc]; exact ⟨by decide, by decide⟩
  refine va_put (ref := C) (D := D) (cl := vwCl) (tys := tysOf cI cS) (Ts := TB) (v := .int (Int32.ofInt v)) (ty := ty k) hx hb hts g6 ty g7 g8 hown hK hw.1 hw.2.1 hS i (by rw [wsOf_at hi, cellE_o hki]) g1 k g2 (hts _ g5) (fun _ q => by rw [g4] at q; exact q) (g11 hn2) (g7 k g2) hnar.1 hnar.2 (by simp; omega) hd ?_
  intro H1 locs1 hP1 hD1 hS1
  have hset : (wsOf cI cS ad h).set i (ad i, .inr (ci, ((List.range (fn ci)).map (fun k => if fc ci k = 2 then Value.ref (ad (rf i k)) else .int (Int32.ofInt (h i k)))).set k (.int (Int32.ofInt v)))) = wsOf cI cS ad (up h i k v) := by
    rw [wsOf_up]
    congr 2
    rw [cellE_o hki]
    congr 2
    apply List.ext_getElem?
    intro j
    by_cases hj : j < fn ci
    · by_cases hjk : j = k
      · subst hjk
        rw [List.getElem?_set_self (by simp; omega), List.getElem?_map, List.getElem?_range hj]
        show _ = some (if fc ci j = 2 then _ else _)
        rw [if_neg hn2]
        simp [up]
      · rw [List.getElem?_set_ne (Ne.symm hjk), List.getElem?_map, List.getElem?_map, List.getElem?_range hj]
        simp [up, hjk]
    · rw [List.getElem?_eq_none (by simp; omega), List.getElem?_eq_none (by simp; omega)]
  rw [hset] at hP1 hD1
  exact hk hoL (fun w hw => hoS w (List.mem_cons_of_mem _ (List.mem_cons_of_mem _ hw))) H1 ls locs1 ⟨hP1, hD1, rng_up hw.2.2 hv0⟩ hS1 hl
theorem wm_iald (hX : CX own cc nL ret p s m args meth c D cI cS ad A) {a : Nat} {j : Int} {L : ML} {st : List MV} {h : MH} (hka : kd a = 0) (hj : 0 ≤ j ∧ j < (al a : Int)) (hd : decode cc pc = .ok (.iaload, 1))
    (hk : WM p l e R s m args below meth c cells slots Q D cI cS ad A nL (pc + 1) L (vI (h a j.toNat) :: st) h) : WM p l e R s m args below meth c cells slots Q D cI cS ad A nL pc L (vI j :: vR a :: st) h := by
  obtain ⟨hx, hb, hml, hr, hown, hts, hK, hlocks, hE⟩ := hX
  intro hoL hoS H ls locs hw hS hl
  have hi : a < NC := kd_lt hka (by omega)
  have hj0 : inR j := hoS (vI j) List.mem_cons_self
  refine va_iald (D := D) (cl := vwCl) (tys := tysOf cI cS) hx hb hK hw.1 a 0 (by rw [wsOf_at hi, cellE_i hka]) rfl (oi_in hj0 hj) hd ?_
  rw [oi_clamp hj.1 hj0]
  exact hk hoL (okc (v := vI (h a j.toNat)) (hw.2.2 _ _) (fun w hw => hoS w (List.mem_cons_of_mem _ (List.mem_cons_of_mem _ hw)))) H ls locs hw hS hl
theorem wm_iast (hX : CX own cc nL ret p s m args meth c D cI cS ad A) {a : Nat} {j v : Int} {L : ML} {st : List MV} {h : MH} (hka : kd a = 0) (hj : 0 ≤ j ∧ j < (al a : Int)) (hd : decode cc pc = .ok (.iastore, 1))
    (hk : WM p l e R s m args below meth c cells slots Q D cI cS ad A nL (pc + 1) L st (up h a j.toNat v)) : WM p l e R s m args below meth c cells slots Q D cI cS ad A nL pc L (vI v :: vI j :: vR a :: st) h := by
  obtain ⟨hx, hb, hml, hr, hown, hts, hK, hlocks, hE⟩ := hX
  intro hoL hoS H ls locs hw hS hl
  have hi : a < NC := kd_lt hka (by omega)
  have hv0 : inR v := hoS (vI v) List.mem_cons_self
  have hj0 : inR j := hoS (vI j) (List.mem_cons_of_mem _ List.mem_cons_self)
  refine va_iast (D := D) (cl := vwCl) (tys := tysOf cI cS) hx hb hK hw.1 hw.2.1 hS a 0 (by rw [wsOf_at hi, cellE_i hka]) rfl (oi_in hj0 hj) hd ?_
  intro H1 locs1 hP1 hD1 hS1
  rw [oi_clamp hj.1 hj0] at hP1 hD1
  have hset : (wsOf cI cS ad h).set a (ad a, .inl (cI, al a, .inl (upd (fun j => Int32.ofInt (h a j)) j.toNat (Int32.ofInt v)))) = wsOf cI cS ad (up h a j.toNat v) := by
    rw [wsOf_up]
    congr 2
    rw [cellE_i hka]
    congr 4
    funext b
    unfold upd up
    by_cases hbj : b = j.toNat
    · simp [hbj]
    · simp [hbj]
  rw [hset] at hP1 hD1
  exact hk hoL (fun w hw => hoS w (List.mem_cons_of_mem _ (List.mem_cons_of_mem _ (List.mem_cons_of_mem _ hw)))) H1 ls locs1 ⟨hP1, hD1, rng_up hw.2.2 hv0⟩ hS1 hl
theorem wm_alen (hX : CX own cc nL ret p s m args meth c D cI cS ad A) {a : Nat} {L : ML} {st : List MV} {h : MH} (hka : kd a ≤ 1) (hd : decode cc pc = .ok (.arraylength, 1))
    (hk : WM p l e R s m args below meth c cells slots Q D cI cS ad A nL (pc + 1) L (vI (al a : Int) :: st) h) : WM p l e R s m args below meth c cells slots Q D cI cS ad A nL pc L (vR a :: st) h := by
  obtain ⟨hx, hb, hml, hr, hown, hts, hK, hlocks, hE⟩ := hX
  intro hoL hoS H ls locs hw hS hl
  have hi : a < NC := kd_lt (n := kd a) rfl (by omega)
  have hol : okV (vI (al a : Int)) := by
    have := al_le a
    show inR _
    unfold inR
    omega
  rcases (show kd a = 0 ∨ kd a = 1 by omega) with hk0 | hk0
  · refine va_alen (D := D) (cl := vwCl) (tys := tysOf cI cS) hx hb hK hw.1 a 0 (by rw [wsOf_at hi, cellE_i hk0]) rfl (v := Int32.ofInt (al a : Int)) rfl hd ?_
    exact hk hoL (okc hol (fun w hw => hoS w (List.mem_cons_of_mem _ hw))) H ls locs hw hS hl
  · refine va_alen (D := D) (cl := vwCl) (tys := tysOf cI cS) hx hb hK hw.1 a 1 (by rw [wsOf_at hi, cellE_s hk0]) rfl (v := Int32.ofInt (al a : Int)) rfl hd ?_
    exact hk hoL (okc hol (fun w hw => hoS w (List.mem_cons_of_mem _ hw))) H ls locs hw hS hl
theorem wm_aald (hX : CX own cc nL ret p s m args meth c D cI cS ad A) {a : Nat} {j : Int} {L : ML} {st : List MV} {h : MH} (hka : kd a = 1) (hj : 0 ≤ j ∧ j < (al a : Int)) (hd : decode cc pc = .ok (.aaload, 1))
    (hk : WM p l e R s m args below meth c cells slots Q D cI cS ad A nL (pc + 1) L (vR (rf a j.toNat) :: st) h) : WM p l e R s m args below meth c cells slots Q D cI cS ad A nL pc L (vI j :: vR a :: st) h := by
  obtain ⟨hx, hb, hml, hr, hown, hts, hK, hlocks, hE⟩ := hX
  intro hoL hoS H ls locs hw hS hl
  have hi : a < NC := kd_lt hka (by omega)
  have hj0 : inR j := hoS (vI j) List.mem_cons_self
  refine va_aldq (D := D) (cl := vwCl) (tys := tysOf cI cS) hx hb hK hw.1 a 1 (by rw [wsOf_at hi, cellE_s hka]) rfl (oi_in hj0 hj) hd ?_
  rw [oi_clamp hj.1 hj0]
  exact hk hoL (okc (v := vR (rf a j.toNat)) trivial (fun w hw => hoS w (List.mem_cons_of_mem _ (List.mem_cons_of_mem _ hw)))) H ls locs hw hS hl
theorem step_ok (hX : CX own cc nL ret p s m args meth c D cI cS ad A) (hf : flok own fl) {I : Instr} {L L' : ML} {st st' : List MV} {h h' : MH} {P : Prop} (hd : decode cc pc = .ok (I, ilen I)) (hs : mstep fl nL I L st h = some ((L', st', h'), P)) (hP : P)
    (hk : WM p l e R s m args below meth c cells slots Q D cI cS ad A nL (pc + ilen I) L' st' h') : WM p l e R s m args below meth c cells slots Q D cI cS ad A nL pc L st h := by
  have hX0 := hX
  obtain ⟨hx, hb, hml, hr, hown, hts, hK, hlocks, hE⟩ := hX
  unfold mstep at hs
  split at hs
  -- iconst
  · rename_i n
    cases hc : (decide (-100 ≤ n) && decide (n ≤ 100)) with
    | false => rw [hc] at hs; cases hs
    | true =>
      rw [hc] at hs; cases hs
      simp only [Bool.and_eq_true, decide_eq_true_eq] at hc
      intro hoL hoS H ls locs hw hS hl
      exact lv_iconst hx hb hd rfl (hk hoL (okc (v := vI n) (inR_lit (by omega)) hoS) H ls locs hw hS hl)
  · rename_i n
    cases hc : (decide (-128 ≤ n) && decide (n ≤ 127)) with
    | false => rw [hc] at hs; cases hs
    | true =>
      rw [hc] at hs; cases hs
      simp only [Bool.and_eq_true, decide_eq_true_eq] at hc
      intro hoL hoS H ls locs hw hS hl
      refine lv_bipush hx hb hd (v := Int32.ofInt n) ?_ (hk hoL (okc (v := vI n) (inR_lit (by omega)) hoS) H ls locs hw hS hl)
      apply Int32.toInt_inj.mp
      rw [ti (inR_lit (by omega)), Int8.toInt_toInt32, Int8.toInt_ofInt]
      exact Int.bmod_eq_of_le (by show -((256 : Int) / 2) ≤ n; omega) (by show n < ((256 : Int) + 1) / 2; omega)
  · rename_i n
    cases hc : (decide (-32768 ≤ n) && decide (n ≤ 32767)) with
    | false => rw [hc] at hs; cases hs
    | true =>
      rw [hc] at hs; cases hs
      simp only [Bool.and_eq_true, decide_eq_true_eq] at hc
      intro hoL hoS H ls locs hw hS hl
      refine lv_sipush hx hb hd (v := Int32.ofInt n) ?_ (hk hoL (okc (v := vI n) (inR_lit (by omega)) hoS) H ls locs hw hS hl)
      apply Int32.toInt_inj.mp
      rw [ti (inR_lit (by omega)), Int16.toInt_toInt32, Int16.toInt_ofInt]
      exact Int.bmod_eq_of_le (by show -((65536 : Int) / 2) ≤ n; omega) (by show n < ((65536 : Int) + 1) / 2; omega)
  -- loads
  · rename_i k
    split at hs
    · rename_i z hz; cases hs
      intro hoL hoS H ls locs hw hS hl
      exact lv_iload_n hx hb hd rfl (lk_at hl hz) (hk hoL (okc (v := vI z) (lk_ok hoL hz) hoS) H ls locs hw hS hl)
    · cases hs
  · rename_i k
    split at hs
    · rename_i z hz; cases hs
      intro hoL hoS H ls locs hw hS hl
      exact lv_iload hx hb hd (lk_at hl hz) (hk hoL (okc (v := vI z) (lk_ok hoL hz) hoS) H ls locs hw hS hl)
    · cases hs
  · rename_i k
    split at hs
    · rename_i o hz; cases hs
      intro hoL hoS H ls locs hw hS hl
      cases o with
      | none => exact lv_aload_nN hx hb hd rfl (lk_at hl hz) (hk hoL (okc (v := vO none) trivial hoS) H ls locs hw hS hl)
      | some i => exact lv_aload_n hx hb hd rfl (lk_at hl hz) (hk hoL (okc (v := vO (some i)) trivial hoS) H ls locs hw hS hl)
    · cases hs
  · rename_i k
    split at hs
    · rename_i o hz; cases hs
      intro hoL hoS H ls locs hw hS hl
      cases o with
      | none => exact lv_aloadN hx hb hd (lk_at hl hz) (hk hoL (okc (v := vO none) trivial hoS) H ls locs hw hS hl)
      | some i => exact lv_aload hx hb hd (lk_at hl hz) (hk hoL (okc (v := vO (some i)) trivial hoS) H ls locs hw hS hl)
    · cases hs
  · rename_i k
    split at hs
    · rename_i z hz; cases hs
      intro hoL hoS H ls locs hw hS hl
      exact lv_dload hx hb hd (lk_at hl hz) (hk hoL (okc (v := vD z) trivial hoS) H ls locs hw hS hl)
    · cases hs
  -- stores
  · rename_i k z st
    cases hc : decide (k.val < nL) with
    | false => rw [hc] at hs; cases hs
    | true =>
      rw [hc] at hs; cases hs
      intro hoL hoS H ls locs hw hS hl
      exact lv_istore_n hx hb hd rfl hl (of_decide_eq_true hc) (sto_map ad L k.val (vI z)) (fun ls' hl' => hk (sto_ok hoL (hoS _ List.mem_cons_self)) (fun w hw => hoS w (List.mem_cons_of_mem _ hw)) H ls' locs hw hS hl')
  · rename_i k z st
    cases hc : decide (k < nL) with
    | false => rw [hc] at hs; cases hs
    | true =>
      rw [hc] at hs; cases hs
      intro hoL hoS H ls locs hw hS hl
      exact lv_istore hx hb hd hl (of_decide_eq_true hc) (sto_map ad L k (vI z)) (fun ls' hl' => hk (sto_ok hoL (hoS _ List.mem_cons_self)) (fun w hw => hoS w (List.mem_cons_of_mem _ hw)) H ls' locs hw hS hl')
  · rename_i k z st
    cases hc : decide (k.val < nL) with
    | false => rw [hc] at hs; cases hs
    | true =>
      rw [hc] at hs; cases hs
      intro hoL hoS H ls locs hw hS hl
      exact lv_astore_n hx hb hd rfl hl (of_decide_eq_true hc) (sto_map ad L k.val (vR z)) (fun ls' hl' => hk (sto_ok hoL (hoS _ List.mem_cons_self)) (fun w hw => hoS w (List.mem_cons_of_mem _ hw)) H ls' locs hw hS hl')
  · rename_i k z st
    cases hc : decide (k < nL) with
    | false => rw [hc] at hs; cases hs
    | true =>
      rw [hc] at hs; cases hs
      intro hoL hoS H ls locs hw hS hl
      exact lv_astore hx hb hd hl (of_decide_eq_true hc) (sto_map ad L k (vR z)) (fun ls' hl' => hk (sto_ok hoL (hoS _ List.mem_cons_self)) (fun w hw => hoS w (List.mem_cons_of_mem _ hw)) H ls' locs hw hS hl')
  · rename_i k z st
    cases hc : decide (k + 1 < nL) with
    | false => rw [hc] at hs; cases hs
    | true =>
      rw [hc] at hs; cases hs
      intro hoL hoS H ls locs hw hS hl
      exact lv_dstore hx hb hd hl (of_decide_eq_true hc) (sto2_map ad L k (vD z)) (fun ls' hl' => hk (sto2_ok hoL (hoS _ List.mem_cons_self)) (fun w hw => hoS w (List.mem_cons_of_mem _ hw)) H ls' locs hw hS hl')
  -- iinc
  · rename_i k n
    split at hs
    · rename_i z hz
      cases hc : decide (k < nL) with
      | false => rw [hc] at hs; cases hs
      | true =>
        rw [hc] at hs; cases hs
        intro hoL hoS H ls locs hw hS hl
        obtain ⟨j, hj⟩ : ∃ j, (L.map (tl ad))[j]? = some (k, Value.int (Int32.ofInt z)) := by
          have key : ∀ L : ML, lkL L k = some (.inl z) → (k, vI z) ∈ L := by
            intro L
            induction L with
            | nil => intro h; cases h
            | cons q l ih =>
              intro h
              unfold lkL at h
              cases hq : q.1 == k with
              | true =>
                rw [hq] at h
                have hq2 : q.1 = k := by simpa using hq
                obtain ⟨a, b⟩ := q
                cases h
                cases hq2
                exact List.mem_cons_self
              | false =>
                rw [hq] at h
                exact List.mem_cons_of_mem _ (ih h)
          exact List.getElem?_of_mem (List.mem_map_of_mem (f := tl ad) (key L hz))
        have hz0 : inR z := lk_ok hoL hz
        exact lv_iinc hx hb hd hl hj (v := Int32.ofInt (wr (z + n))) (by rw [oi_wr, Int32.ofInt_add]) (of_decide_eq_true hc) (sto_map ad L k (vI (wr (z + n)))) (fun ls' hl' => hk (sto_ok hoL (inR_wr _)) hoS H ls' locs hw hS hl')
    · cases hs
  -- arithmetic
  · rename_i y x st
    cases hs
    intro hoL hoS H ls locs hw hS hl
    have k9 := hk hoL (okc (v := vI (wr (x + y))) (inR_wr _) (fun w hw => hoS w (List.mem_cons_of_mem _ (List.mem_cons_of_mem _ hw)))) H ls locs hw hS hl
    exact lv_iadd hx hb hd (by rw [oi_add]; exact k9)
  · rename_i y x st
    cases hs
    intro hoL hoS H ls locs hw hS hl
    have k9 := hk hoL (okc (v := vI (wr (x - y))) (inR_wr _) (fun w hw => hoS w (List.mem_cons_of_mem _ (List.mem_cons_of_mem _ hw)))) H ls locs hw hS hl
    exact lv_isub hx hb hd (by rw [oi_sub]; exact k9)
  · rename_i y x st
    cases hs
    intro hoL hoS H ls locs hw hS hl
    have k9 := hk hoL (okc (v := vI (wr (x * y))) (inR_wr _) (fun w hw => hoS w (List.mem_cons_of_mem _ (List.mem_cons_of_mem _ hw)))) H ls locs hw hS hl
    exact lv_imul hx hb hd (by rw [oi_mul]; exact k9)
  · rename_i x st
    cases hs
    intro hoL hoS H ls locs hw hS hl
    have k9 := hk hoL (okc (v := vI (wr (-x))) (inR_wr _) (fun w hw => hoS w (List.mem_cons_of_mem _ hw))) H ls locs hw hS hl
    exact lv_ineg hx hb hd (by rw [oi_neg]; exact k9)
  · rename_i x st
    cases hs
    intro hoL hoS H ls locs hw hS hl
    have hx0 : inR x := hoS _ List.mem_cons_self
    exact lv_i2c hx hb hd (oi_i2c hx0) (hk hoL (okc (v := vI (x % 65536)) (by show inR _; unfold inR; omega) (fun w hw => hoS w (List.mem_cons_of_mem _ hw))) H ls locs hw hS hl)
  -- stack
  · rename_i z st
    cases hs
    intro hoL hoS H ls locs hw hS hl
    exact lv_dup hx hb hd rfl (hk hoL (okc (v := vI z) (hoS _ List.mem_cons_self) hoS) H ls locs hw hS hl)
  · rename_i o st
    cases hs
    intro hoL hoS H ls locs hw hS hl
    exact lv_dup hx hb hd (tv_cat1 (v := vO o) rfl) (hk hoL (okc (v := vO o) trivial hoS) H ls locs hw hS hl)
  · rename_i y o st
    cases hs
    intro hoL hoS H ls locs hw hS hl
    exact lv_dup2_11 hx hb hd rfl (tv_cat1 (v := vO o) rfl) (hk hoL (okc (v := vI y) (hoS _ List.mem_cons_self) (okc (v := vO o) trivial hoS)) H ls locs hw hS hl)
  · rename_i z st
    cases hs
    intro hoL hoS H ls locs hw hS hl
    exact lv_pop hx hb hd rfl (hk hoL (fun w hw => hoS w (List.mem_cons_of_mem _ hw)) H ls locs hw hS hl)
  · skip
    cases hs
    intro hoL hoS H ls locs hw hS hl
    exact lv_null hx hb hd (hk hoL (okc (v := vO none) trivial hoS) H ls locs hw hS hl)
  -- fields, arrays
  · rename_i idx i st
    split at hs
    · rename_i ci k hfl
      cases hc : (fc ci k == 2) with
      | true =>
        rw [hc] at hs; cases hs
        refine wm_get hX0 hf hfl hP hd ?_
        rw [if_pos (by simpa using hc)]
        exact hk
      | false =>
        rw [hc] at hs; cases hs
        refine wm_get hX0 hf hfl hP hd ?_
        rw [if_neg (by simpa using hc)]
        exact hk
    · cases hs
  · rename_i idx v i st
    split at hs
    · rename_i ci k hfl
      cases hc : (fc ci k == 0) with
      | true =>
        rw [hc] at hs; cases hs
        exact wm_put hX0 hf hfl hP (Or.inl (by simpa using hc)) hd hk
      | false =>
        rw [hc] at hs
        cases hc1 : (fc ci k == 1) with
        | true =>
          rw [hc1] at hs; cases hs
          exact wm_put hX0 hf hfl hP.1 (Or.inr ⟨by simpa using hc1, hP.2⟩) hd hk
        | false => rw [hc1] at hs; cases hs
    · cases hs
  · rename_i j a st
    cases hs
    exact wm_iald hX0 hP.1 hP.2 hd hk
  · rename_i v j a st
    cases hs
    exact wm_iast hX0 hP.1 hP.2 hd hk
  · rename_i a st
    cases hs
    exact wm_alen hX0 hP hd hk
  · rename_i j a st
    cases hs
    exact wm_aald hX0 hP.1 hP.2 hd hk
  -- doubles
  · rename_i x st
    cases hs
    intro hoL hoS H ls locs hw hS hl
    exact lv_i2d hx hb hd (hk hoL (okc (v := vD _) trivial (fun w hw => hoS w (List.mem_cons_of_mem _ hw))) H ls locs hw hS hl)
  · rename_i n
    cases hc : (n.val == 1) with
    | false => rw [hc] at hs; cases hs
    | true =>
      rw [hc] at hs; cases hs
      have hn : n = 1 := by
        apply Fin.ext
        simpa using hc
      subst hn
      intro hoL hoS H ls locs hw hS hl
      exact lv_dconst1 hx hb hd (hk hoL (okc (v := vD _) trivial hoS) H ls locs hw hS hl)
  · rename_i y x st
    cases hs
    intro hoL hoS H ls locs hw hS hl
    exact lv_dmul hx hb hd hP (hk hoL (okc (v := vD _) trivial (fun w hw => hoS w (List.mem_cons_of_mem _ (List.mem_cons_of_mem _ hw)))) H ls locs hw hS hl)
  · rename_i y x st
    cases hs
    intro hoL hoS H ls locs hw hS hl
    exact lv_ddiv hx hb hd hP (hk hoL (okc (v := vD _) trivial (fun w hw => hoS w (List.mem_cons_of_mem _ (List.mem_cons_of_mem _ hw)))) H ls locs hw hS hl)
  · rename_i op y x st
    cases hs
    intro hoL hoS H ls locs hw hS hl
    have k9 := hk hoL (okc (v := vI (Op.cmpValue (FP.dcmp x y) op).toInt) (inR_toInt _) (fun w hw => hoS w (List.mem_cons_of_mem _ (List.mem_cons_of_mem _ hw)))) H ls locs hw hS hl
    refine lv_dcmp hx hb hd ?_
    simp only [List.map_cons, tv, oi_toInt] at k9
    exact k9
  · cases hs
theorem run_ok (hX : CX own cc nL ret p s m args meth c D cI cS ad A) (hf : flok own fl) : ∀ (is : List Instr) (pc : Nat) (L L' : ML) (st st' : List MV) (h h' : MH) (P : Prop), sits cc pc is = true → mrun fl nL is L st h = some ((L', st', h'), P) → P →
    WM p l e R s m args below meth c cells slots Q D cI cS ad A nL (pc + plen is) L' st' h' → WM p l e R s m args below meth c cells slots Q D cI cS ad A nL pc L st h := by
  intro is
  induction is with
  | nil =>
    intro pc L L' st st' h h' P hs hr hP hk
    cases hr
    exact hk
  | cons I is ih =>
    intro pc L L' st st' h h' P hs hr hP hk
    simp only [sits, Bool.and_eq_true, decide_eq_true_eq] at hs
    unfold mrun at hr
    split at hr
    · cases hr
    · rename_i L1 st1 h1 P1 he
      split at hr
      · cases hr
      · rename_i c9 P2 he2
        cases hr
        refine step_ok hX hf hs.1 he hP.1 ?_
        refine ih _ _ _ _ _ _ _ _ hs.2 he2 hP.2 ?_
        rw [show pc + ilen I + plen is = pc + plen (I :: is) by simp only [plen]; omega]
        exact hk
end STEP
end
section
/-! ===== contracts over the mini machine, and calls ===== -/
def rmd (d : Nat) : Room := { frames := d, cells := 0, slots := 0, locals := 40 * d }
def inA (ad : Nat → Nat) : Nat → Prop := fun q => ∃ i, i < NC ∧ q = ad i
def PM (D : va_G) (cI cS : ClassId) (ad : Nat → Nat) (h : MH) (U : State) : Prop := wld D cI cS ad (inA ad) h U.heap ∧ va_K D vwCl (tysOf cI cS) U ∧ EXT ad (inA ad) U U.heap
def QM (D : va_G) (cI cS : ClassId) (ad : Nat → Nat) (r : Option MV) (h' : MH) : Array Value → State → Outcome → State → Prop := fun _ st oc t => oc = .returned (r.map (tv ad)) ∧ (∀ v, r = some v → okV v) ∧ wld D cI cS ad (inA ad) h' t.heap ∧ va_F (inA ad) st t
/-- a method's contract: from the cells h with the arguments vs it answers r, the cells are h' then -/
def CON (d : Nat) (y : MethodName) (bytes : ByteArray) (maxL : Nat) (ret : Option FieldType) (vs : List MV) (h : MH) (r : Option MV) (h' : MH) : Prop :=
  ∀ (l : Launch) (D : va_G) (cI cS : ClassId) (ad : Nat → Nat), (∀ v ∈ vs, okV v) → Met l y (Cond.code y bytes maxL ret :: TB) (rmd d) (va_Pc (vs.map (tv ad)) (PM D cI cS ad h)) (QM D cI cS ad r h') 0 0 (inA ad)
def MY (y : MethodName) (bytes : ByteArray) (maxL : Nat) (ret : Option FieldType) (n : Nat) : Prop :=
  Cond.code y bytes maxL ret ∈ TB ∧ Cond.initialized y.cls ∈ TB ∧ (y.cls ≠ "java/lang/invoke/MethodHandle" ∧ y.cls ≠ "java/lang/invoke/VarHandle" ∧ (parseMethodDescriptor y.desc).map (fun d => d.parameters.length) = some n) ∧ maxL ≤ 21
def VW (own : String) (idx : Nat) (y : MethodName) : Prop := Cond.methodLink own idx y ∈ TB ∧ Cond.instanceMethod y ∈ TB ∧ Cond.selects y.cls y y ∈ TB
def SW (own : String) (idx : Nat) (y : MethodName) : Prop := Cond.methodLink own idx y ∈ TB ∧ Cond.static y ∈ TB
def RMX (d : Nat) (R : Room) (cells slots : Nat) : Prop := d ≤ R.frames ∧ 40 * d ≤ R.locals ∧ cells ≤ R.cells ∧ slots ≤ R.slots
theorem good_all {ws : List Cond} (h : ∀ w ∈ ws, w ∈ TB) : GoodIn TB ws := fun w hw => TB_good w (h w hw)
theorem EXT_down {ad : Nat → Nat} {A B : Nat → Prop} {s U : State} {H : Heap} {locs : List Loc} (hE : EXT ad A s s.heap) (hS : va_S A s.heap H locs) (hW : s.WarmedH U.vm) (hAB : ∀ q, B q → A q) : EXT ad B U H :=
  ⟨hE.1.warm hW, ((hE.2.1.moved hW.alike).kept hS.2.1).narrow hAB, ((hE.2.2.moved hW.alike).kept hS.2.1).narrow hAB⟩
theorem PM_blind {D : va_G} {cI cS : ClassId} {ad : Nat → Nat} {vs : List Value} {h : MH} : FrameBlind (va_Pc vs (PM D cI cS ad h)) := fun a U g mk q =>
  ⟨q.1, q.2.1, va_K.moved (u := U) (U := U.calling g mk a) (Vm.Alike.refl U.vm) q.2.2.1, q.2.2.2.1.same rfl, vk_S.moved (u := U) (U := U.calling g mk a) (Vm.Alike.refl U.vm) q.2.2.2.2.1, va_Z.moved (u := U) (U := U.calling g mk a) (Vm.Alike.refl U.vm) q.2.2.2.2.2⟩
section CALLS
variable {p : Program} {l : Launch} {e : Env} {R : Room} {s : State} {m : MethodId} {args : Array Value} {below : List Frame} {meth : Method} {c : Code} {cells slots : Nat} {Q : State → Prop} {D : va_G} {cI cS : ClassId} {ad : Nat → Nat} {A : Nat → Prop} {nL : Nat}
variable {own : String} {cc : ByteArray} {ret : Option FieldType} {fl : Nat → Option (Nat × Nat)} {pc : Nat}
theorem inA_sub {h : MH} {H : Heap} (hw : wld D cI cS ad A h H) : ∀ q, inA ad q → A q := by
  rintro q ⟨i, hi, rfl⟩
  exact hw.2.1.2 i _ (wsOf_at hi)
theorem wld_in {h : MH} {H : Heap} (hw : wld D cI cS ad A h H) : wld D cI cS ad (inA ad) h H := by
  refine ⟨hw.1, ⟨hw.2.1.1, ?_⟩, hw.2.2⟩
  intro k q hq
  have hk : k < NC := by
    have := (List.getElem?_eq_some_iff.mp hq).1
    simpa [wsOf] using this
  rw [wsOf_at hk] at hq
  cases hq
  exact ⟨k, hk, rfl⟩
/-- behind a call -/
theorem wm_back {idx : Nat} {r : Option MV} {L : ML} {rest : List MV} {h h' : MH} {g0 : List Value} {H : Heap} {ls : Array Slot} {locs : List Loc} {Qa : Array Value} (hw : wld D cI cS ad A h H) (hS : va_S A s.heap H locs) (hl : lv_has ls nL (L.map (tl ad))) (hoL : ∀ q ∈ L, okV q.2) (hoS : ∀ v ∈ rest, okV v)
    (hr : va_Run p l e R s m args below meth c H locs cells slots 0 0 (F0 m pc ls g0) (rest.map (tv ad)) (QM D cI cS ad r h' Qa) (inA ad))
    (hk : WM p l e R s m args below meth c cells slots Q D cI cS ad A nL (pc + 3) L (r.toList ++ rest) h') : W p l e R s m args below meth c H locs cells slots Q (F0 m pc ls g0) := by
  intro T hT X
  obtain ⟨v, st₀, t, T', LL, h0, X', hL, e1, e2, ⟨hv, hvr, hw', hF⟩, st⟩ := hr T hT X
  have hv2 : v = r.map (tv ad) := by
    have := hv
    simpa using this
  subst hv2
  have hsub := inA_sub hw
  obtain ⟨hz, hkp⟩ := hF
  rw [h0] at hz hkp
  have hw2 : wld D cI cS ad A h' T'.heap := by
    rw [e1]
    exact ⟨hw'.1, hw'.2.1.weaken (fun k q _ hq => hsub _ hq), hw'.2.2⟩
  have hS2 : va_S A s.heap T'.heap (locs ++ LL) := by
    refine ⟨Nat.le_trans hS.1 (by rw [e1]; exact hz), fun q h1 h2 => ?_, fun q hq => ?_⟩
    · rw [e1, hkp q (Nat.lt_of_lt_of_le h1 hS.1) (fun z => h2 (hsub q z))]
      exact hS.2.1 q h1 h2
    · rcases List.mem_append.mp hq with h | h
      · exact hS.2.2 q h
      · exact hsub _ (hL q h)
  have hoS2 : ∀ v ∈ r.toList ++ rest, okV v := by
    intro v hv
    rcases List.mem_append.mp hv with h | h
    · cases r with
      | none => cases h
      | some r0 =>
        have : v = r0 := by simpa using h
        subst this
        exact hvr _ rfl
    · exact hoS v h
  obtain ⟨t2, a1, b1⟩ := hk hoL hoS2 T'.heap ls (locs ++ LL) hw2 hS2 hl T' rfl X'
  refine ⟨t2, st t2 ?_, b1⟩
  have hst : (r.map (tv ad)).toList ++ rest.map (tv ad) = (r.toList ++ rest).map (tv ad) := by
    cases r <;> simp
  show Steps p.tables e below (T'.setTop { F0 m pc ls g0 with pc := pc + 3, stack := (r.map (tv ad)).toList ++ rest.map (tv ad) }) t2
  rw [hst]
  exact a1
theorem cat_sum {st : List MV} (h : st.length ≤ 4) : ((st.map (tv ad)).map fun v => v.category).sum ≤ 8 := by
  have key : ∀ st : List MV, ((st.map (tv ad)).map fun v => v.category).sum ≤ 2 * st.length := by
    intro st
    induction st with
    | nil => simp
    | cons v l ih =>
      have hc : (tv ad v).category ≤ 2 := by
        rcases v with z | (_ | i) | d
        · exact (show 1 ≤ 2 by omega)
        · exact (show 1 ≤ 2 by omega)
        · exact (show 1 ≤ 2 by omega)
        · exact Nat.le_refl 2
      simp only [List.map_cons, List.sum_cons, List.length_cons]
      omega
  have := key st
  omega
theorem wm_callV (hX : CX own cc nL ret p s m args meth c D cI cS ad A) {d : Nat} (hM : RMX d R cells slots) {idx d' ci i maxL : Nat} {y : MethodName} {bytes : ByteArray} {ret' : Option FieldType} {vs rest : List MV} {L : ML} {h h' : MH} {r : Option MV} (hmy : MY y bytes maxL ret' vs.length) (hvw : VW own idx y) (hdd : d' < d)
    (hc : CON d' y bytes maxL ret' (vR i :: vs) h r h') (hki : kd i = ci + 2) (hci : (vwCl[ci]?).map (fun q => q.1) = some y.cls) (hrest : rest.length ≤ 4) (hd : decode cc pc = .ok (.invokevirtual idx, 3))
    (hk : WM p l e R s m args below meth c cells slots Q D cI cS ad A nL (pc + 3) L (r.toList ++ rest) h') : WM p l e R s m args below meth c cells slots Q D cI cS ad A nL pc L (vs.reverse ++ vR i :: rest) h := by
  obtain ⟨hx, hb, hml, hr, hown, hts, hK, hlocks, hE⟩ := hX
  intro hoL hoS H ls locs hw hS hl
  obtain ⟨q, hq, hqn⟩ : ∃ q, vwCl[ci]? = some q ∧ q.1 = y.cls := by
    cases hq : vwCl[ci]? with
    | none => rw [hq] at hci; cases hci
    | some q => rw [hq] at hci; exact ⟨q, rfl, by simpa using hci⟩
  have hi : i < NC := kd_lt hki (by
    have : ci < 8 := (List.getElem?_eq_some_iff.mp hq).1
    omega)
  have hoV : ∀ v ∈ vR i :: vs, okV v := okc (v := vR i) trivial (fun v hv => hoS v (List.mem_append_left _ (List.mem_reverse.mpr hv)))
  have hoR : ∀ v ∈ rest, okV v := fun v hv => hoS v (List.mem_append_right _ (List.mem_cons_of_mem _ hv))
  have hwin := wld_in hw
  have hsub := inA_sub hw
  have cw : CallW R s args own y.cls idx y bytes maxL ret' (Cond.code y bytes maxL ret' :: TB) (rmd d') 0 0 vs.length := by
    refine cwV (Ts := TB) vs.length hts (good_all ?_) rfl rfl rfl ⟨rfl, hmy.2.2.1⟩ ⟨?_, ?_⟩
    · intro w hw
      unfold wsV at hw
      simp only [List.cons_append, List.nil_append, List.mem_cons] at hw
      rcases hw with rfl | rfl | rfl | rfl | rfl | hw
      · exact hvw.1
      · exact hvw.2.1
      · exact hvw.2.2
      · exact hmy.2.1
      · exact hmy.1
      · exact hw
    · show d' + 1 ≤ R.frames
      have := hM.1
      omega
    · show 8 + (maxL + 11) + 40 * d' ≤ R.locals
      have := hM.2.1
      have := hmy.2.2.2
      omega
  have hrun := va_runV (As := vs.map (tv ad)) (rest := rest.map (tv ad)) (b := ad i) (C := y.cls) (g := F0 m pc ls ((vs.reverse ++ vR i :: rest).map (tv ad))) (H := H) (locs := locs) (cells := cells) (slots := slots) (e := e) (below := below) (meth := meth)
    ⟨hx, hb, hml, hown, hts⟩ (hc l D cI cS ad hoV) cw ⟨PM_blind, ?_, fun U hU hW => ⟨by simp [tv], by rw [hU]; exact hwin, va_K.moved hW.alike hK, by rw [hU]; exact EXT_down hE hS hW hsub⟩⟩ rfl (by simp) hl.1 (by simp [tv]) (lv_room (cat_sum hrest)) hd ⟨hM.2.2.1, hM.2.2.2⟩
  · exact wm_back (idx := idx) hw hS hl hoL hoR hrun hk
  · have he : (wsOf cI cS ad h)[i]? = some (ad i, .inr (ci, (List.range (fn ci)).map (fun k => if fc ci k = 2 then Value.ref (ad (rf i k)) else .int (Int32.ofInt (h i k))))) := by rw [wsOf_at hi, cellE_o hki]
    have hrec := va_recv (D := D) hK hw.1 hq he
    rw [hqn] at hrec
    exact hrec
theorem wm_callS (hX : CX own cc nL ret p s m args meth c D cI cS ad A) {d : Nat} (hM : RMX d R cells slots) {idx d' maxL : Nat} {y : MethodName} {bytes : ByteArray} {ret' : Option FieldType} {vs rest : List MV} {L : ML} {h h' : MH} {r : Option MV} (hmy : MY y bytes maxL ret' vs.length) (hsw : SW own idx y) (hdd : d' < d)
    (hc : CON d' y bytes maxL ret' vs h r h') (hrest : rest.length ≤ 4) (hd : decode cc pc = .ok (.invokestatic idx, 3))
    (hk : WM p l e R s m args below meth c cells slots Q D cI cS ad A nL (pc + 3) L (r.toList ++ rest) h') : WM p l e R s m args below meth c cells slots Q D cI cS ad A nL pc L (vs.reverse ++ rest) h := by
  obtain ⟨hx, hb, hml, hr, hown, hts, hK, hlocks, hE⟩ := hX
  intro hoL hoS H ls locs hw hS hl
  have hoV : ∀ v ∈ vs, okV v := fun v hv => hoS v (List.mem_append_left _ (List.mem_reverse.mpr hv))
  have hoR : ∀ v ∈ rest, okV v := fun v hv => hoS v (List.mem_append_right _ hv)
  have hwin := wld_in hw
  have hsub := inA_sub hw
  have cw0 := callB_of (R := R) (s := s) (args := args) (own := own) (index := idx) (y := y) (bytes := bytes) (maxL := maxL) (ret := ret') (ws := Cond.code y bytes maxL ret' :: TB) (rm := rmd d') (mc := 0) (ms := 0) (Ts := TB) vs.length hts (good_all (by
      intro w hw
      rcases List.mem_cons.mp hw with rfl | hw
      · exact hmy.1
      · exact hw)) rfl rfl rfl (hts _ hmy.2.1) (hts _ hsw.1) hmy.2.2.1 ⟨by
      show d' + 1 ≤ R.frames
      have := hM.1
      omega, by
      show 8 + (maxL + 11) + 40 * d' ≤ R.locals
      have := hM.2.1
      have := hmy.2.2.2
      omega⟩
  have cw := And.intro cw0 (hts _ hsw.2)
  have hrun := va_runS (As := vs.map (tv ad)) (rest := rest.map (tv ad)) (g := F0 m pc ls ((vs.reverse ++ rest).map (tv ad))) (H := H) (locs := locs) (cells := cells) (slots := slots) (e := e) (below := below) (meth := meth)
    ⟨hx, hb, hml, hown, hts⟩ (hc l D cI cS ad hoV) cw ⟨PM_blind, fun U hU hW => ⟨by simp, by rw [hU]; exact hwin, va_K.moved hW.alike hK, by rw [hU]; exact EXT_down hE hS hW hsub⟩⟩ rfl (by simp) hl.1 (by simp) (lv_room (cat_sum hrest)) hd ⟨hM.2.2.1, hM.2.2.2⟩
  exact wm_back (idx := idx) hw hS hl hoL hoR hrun hk
end CALLS
end
section
/-! ===== the rules: what a judgement K over the mini machine obeys; a method's walk speaks of any such K ===== -/
def dk (cc : ByteArray) (pc : Nat) (I : Instr) (n : Nat) : Bool := decide (decode cc pc = .ok (I, n))
def cmpB : ClassFile.Cond → Int → Int → Prop
  | .eq, x, y | .ne, x, y => x = y
  | .lt, x, y | .ge, x, y => x < y
  | .le, x, y | .gt, x, y => x ≤ y
def jt : ClassFile.Cond → Nat → Nat → Nat
  | .eq, a, _ | .lt, a, _ | .le, a, _ => a
  | .ne, _, b | .ge, _, b | .gt, _, b => b
def swT (pc : Nat) (dflt lo hi : Int) (offs : List Int) (x : Int) : Nat :=
  if x < lo ∨ hi < x then ((pc : Int) + dflt).toNat else ((pc : Int) + offs.getD (x - lo).toNat 0).toNat
abbrev KT : Type := Nat → ML → List MV → MH → Prop
def R_seg (cc : ByteArray) (nL : Nat) (fl : Nat → Option (Nat × Nat)) (K : KT) : Prop := ∀ (is : List Instr) (pc : Nat) (L L' : ML) (st st' : List MV) (h h' : MH) (P : Prop), sits cc pc is = true → mrun fl nL is L st h = some ((L', st', h'), P) → P → K (pc + plen is) L' st' h' → K pc L st h
def R_sub (K : KT) : Prop := ∀ (pc : Nat) (L L' : ML) (st : List MV) (h : MH), (∀ q ∈ L', q ∈ L) → K pc L' st h → K pc L st h
def R_goto (cc : ByteArray) (K : KT) : Prop := ∀ (pc : Nat) (off : Int) (tgt : Nat) (L : ML) (st : List MV) (h : MH), dk cc pc (.goto off) 3 = true → (pc : Int) + off = (tgt : Int) → K tgt L st h → K pc L st h
def R_icmp (cc : ByteArray) (K : KT) : Prop := ∀ (pc : Nat) (cd : ClassFile.Cond) (off : Int) (tgt : Nat) (L : ML) (st : List MV) (h : MH) (x y : Int), dk cc pc (.if_icmp cd off) 3 = true → (pc : Int) + off = (tgt : Int) → (cmpB cd x y → K (jt cd tgt (pc + 3)) L st h) → (¬ cmpB cd x y → K (jt cd (pc + 3) tgt) L st h) → K pc L (vI y :: vI x :: st) h
def R_ifz (cc : ByteArray) (K : KT) : Prop := ∀ (pc : Nat) (cd : ClassFile.Cond) (off : Int) (tgt : Nat) (L : ML) (st : List MV) (h : MH) (x : Int), dk cc pc (.ifCond cd off) 3 = true → (pc : Int) + off = (tgt : Int) → (cmpB cd x 0 → K (jt cd tgt (pc + 3)) L st h) → (¬ cmpB cd x 0 → K (jt cd (pc + 3) tgt) L st h) → K pc L (vI x :: st) h
def R_null (cc : ByteArray) (K : KT) : Prop := ∀ (pc : Nat) (off : Int) (tgt : Nat) (L : ML) (st : List MV) (h : MH) (o : Option Nat), dk cc pc (.ifnull off) 3 = true → (pc : Int) + off = (tgt : Int) → (o = none → K tgt L st h) → (∀ i, o = some i → K (pc + 3) L st h) → K pc L (vO o :: st) h
def R_sw (cc : ByteArray) (K : KT) : Prop := ∀ (pc : Nat) (dflt lo hi : Int) (offs : Array Int) (len : Nat) (L : ML) (st : List MV) (h : MH) (x : Int), dk cc pc (.tableswitch dflt lo hi offs) len = true → ((0 ≤ (pc : Int) + dflt) ∧ (∀ o ∈ offs.toList, 0 ≤ (pc : Int) + o) ∧ hi - lo < offs.toList.length) → K (swT pc dflt lo hi offs.toList x) L st h → K pc L (vI x :: st) h
def R_ldc (own : String) (cc : ByteArray) (K : KT) : Prop := ∀ (pc : Nat) (L : ML) (st : List MV) (h : MH), own = "HunkSlides" → dk cc pc (.ldc sgIdx) 2 = true → K (pc + 2) L (vR 101 :: st) h → K pc L st h
def R_callV (own : String) (cc : ByteArray) (d : Nat) (K : KT) : Prop := ∀ (pc idx d' ci i maxL : Nat) (y : MethodName) (bytes : ByteArray) (ret' : Option FieldType) (vs rest : List MV) (L : ML) (h h' : MH) (r : Option MV), MY y bytes maxL ret' vs.length → VW own idx y → d' < d →
    CON d' y bytes maxL ret' (vR i :: vs) h r h' → kd i = ci + 2 → (vwCl[ci]?).map (fun q => q.1) = some y.cls → rest.length ≤ 4 → dk cc pc (.invokevirtual idx) 3 = true → K (pc + 3) L (r.toList ++ rest) h' → K pc L (vs.reverse ++ vR i :: rest) h
def R_callS (own : String) (cc : ByteArray) (d : Nat) (K : KT) : Prop := ∀ (pc idx d' maxL : Nat) (y : MethodName) (bytes : ByteArray) (ret' : Option FieldType) (vs rest : List MV) (L : ML) (h h' : MH) (r : Option MV), MY y bytes maxL ret' vs.length → SW own idx y → d' < d →
    CON d' y bytes maxL ret' vs h r h' → rest.length ≤ 4 → dk cc pc (.invokestatic idx) 3 = true → K (pc + 3) L (r.toList ++ rest) h' → K pc L (vs.reverse ++ rest) h
def R_callG (own : String) (cc : ByteArray) (d : Nat) (K : KT) : Prop := ∀ (pc idx d' maxL : Nat) (y : MethodName) (bytes : ByteArray) (ret' : Option FieldType) (vs rest : List MV) (L : ML) (h h' : MH) (r : Option MV), y.cls = "java/lang/String" → MY y bytes maxL ret' vs.length → VW own idx y → d' < d →
    CON d' y bytes maxL ret' (vR 101 :: vs) h r h' → rest.length ≤ 4 → dk cc pc (.invokevirtual idx) 3 = true → K (pc + 3) L (r.toList ++ rest) h' → K pc L (vs.reverse ++ vR 101 :: rest) h
def R_ret (cc : ByteArray) (ret : Option FieldType) (Post : Option MV → MH → Prop) (K : KT) : Prop :=
  (∀ (pc : Nat) (L : ML) (h : MH) (z : Int), dk cc pc .ireturn 1 = true → ret = some .int → Post (some (vI z)) h → K pc L [vI z] h) ∧
  (∀ (pc : Nat) (L : ML) (h : MH) (z : Int), dk cc pc .ireturn 1 = true → ret = some .boolean → (z = 0 ∨ z = 1) → Post (some (vI z)) h → K pc L [vI z] h) ∧
  (∀ (pc : Nat) (L : ML) (h : MH) (o : Option Nat), dk cc pc .areturn 1 = true → (∃ n, ret = some (.object n)) → Post (some (vO o)) h → K pc L [vO o] h) ∧
  (∀ (pc : Nat) (L : ML) (h : MH) (z : UInt64), dk cc pc .dreturn 1 = true → ret = some .double → Post (some (vD z)) h → K pc L [vD z] h) ∧
  (∀ (pc : Nat) (L : ML) (h : MH), dk cc pc .return_ 1 = true → ret = none → Post none h → K pc L [] h)
def Rules (own : String) (cc : ByteArray) (nL : Nat) (ret : Option FieldType) (fl : Nat → Option (Nat × Nat)) (d : Nat) (K : KT) : Prop :=
  R_seg cc nL fl K ∧ R_sub K ∧ R_goto cc K ∧ R_icmp cc K ∧ R_ifz cc K ∧ R_null cc K ∧ R_sw cc K ∧ R_ldc own cc K ∧ R_callV own cc d K ∧ R_callS own cc d K ∧ R_callG own cc d K
section RULES
variable {p : Program} {l : Launch} {e : Env} {R : Room} {s : State} {m : MethodId} {args : Array Value} {below : List Frame} {meth : Method} {c : Code} {cells slots : Nat} {Q : State → Prop} {D : va_G} {cI cS : ClassId} {ad : Nat → Nat} {A : Nat → Prop} {nL : Nat}
variable {own : String} {cc : ByteArray} {ret : Option FieldType} {fl : Nat → Option (Nat × Nat)} {pc : Nat}
theorem dk_eq {I : Instr} {n : Nat} (h : dk cc pc I n = true) : decode cc pc = .ok (I, n) := of_decide_eq_true h
theorem wm_callG (hX : CX own cc nL ret p s m args meth c D cI cS ad A) {d : Nat} (hM : RMX d R cells slots) {idx d' maxL : Nat} {y : MethodName} {bytes : ByteArray} {ret' : Option FieldType} {vs rest : List MV} {L : ML} {h h' : MH} {r : Option MV} (hyc : y.cls = "java/lang/String") (hmy : MY y bytes maxL ret' vs.length) (hvw : VW own idx y) (hdd : d' < d)
    (hc : CON d' y bytes maxL ret' (vR 101 :: vs) h r h') (hrest : rest.length ≤ 4) (hd : decode cc pc = .ok (.invokevirtual idx, 3))
    (hk : WM p l e R s m args below meth c cells slots Q D cI cS ad A nL (pc + 3) L (r.toList ++ rest) h') : WM p l e R s m args below meth c cells slots Q D cI cS ad A nL pc L (vs.reverse ++ vR 101 :: rest) h := by
  obtain ⟨hx, hb, hml, hr, hown, hts, hK, hlocks, hE⟩ := hX
  intro hoL hoS H ls locs hw hS hl
  have hoV : ∀ v ∈ vR 101 :: vs, okV v := okc (v := vR 101) trivial (fun v hv => hoS v (List.mem_append_left _ (List.mem_reverse.mpr hv)))
  have hoR : ∀ v ∈ rest, okV v := fun v hv => hoS v (List.mem_append_right _ (List.mem_cons_of_mem _ hv))
  have hwin := wld_in hw
  have hsub := inA_sub hw
  have cw : CallW R s args own y.cls idx y bytes maxL ret' (Cond.code y bytes maxL ret' :: TB) (rmd d') 0 0 vs.length := by
    refine cwV (Ts := TB) vs.length hts (good_all ?_) rfl rfl rfl ⟨rfl, hmy.2.2.1⟩ ⟨?_, ?_⟩
    · intro w hw
      unfold wsV at hw
      simp only [List.cons_append, List.nil_append, List.mem_cons] at hw
      rcases hw with rfl | rfl | rfl | rfl | rfl | hw
      · exact hvw.1
      · exact hvw.2.1
      · exact hvw.2.2
      · exact hmy.2.1
      · exact hmy.1
      · exact hw
    · show d' + 1 ≤ R.frames
      have := hM.1
      omega
    · show 8 + (maxL + 11) + 40 * d' ≤ R.locals
      have := hM.2.1
      have := hmy.2.2.2
      omega
  have hrec := vk_recv (i := 0) hE.2.1 (by omega) hS
  have hrun := va_runV (As := vs.map (tv ad)) (rest := rest.map (tv ad)) (b := ad 101) (C := y.cls) (g := F0 m pc ls ((vs.reverse ++ vR 101 :: rest).map (tv ad))) (H := H) (locs := locs) (cells := cells) (slots := slots) (e := e) (below := below) (meth := meth)
    ⟨hx, hb, hml, hown, hts⟩ (hc l D cI cS ad hoV) cw ⟨PM_blind, by rw [hyc]; exact hrec, fun U hU hW => ⟨by simp [tv], by rw [hU]; exact hwin, va_K.moved hW.alike hK, by rw [hU]; exact EXT_down hE hS hW hsub⟩⟩ rfl (by simp) hl.1 (by simp [tv]) (lv_room (cat_sum hrest)) hd ⟨hM.2.2.1, hM.2.2.2⟩
  exact wm_back (idx := idx) hw hS hl hoL hoR hrun hk
theorem rules_ok (hX : CX own cc nL ret p s m args meth c D cI cS ad A) {d : Nat} (hM : RMX d R cells slots) (hf : flok own fl) : Rules own cc nL ret fl d (WM p l e R s m args below meth c cells slots Q D cI cS ad A nL) := by
  have hX0 := hX
  obtain ⟨hx, hb, hml, hr, hown, hts, hK, hlocks, hE⟩ := hX
  refine ⟨fun is pc L L' st st' h h' P => run_ok hX0 hf is pc L L' st st' h h' P, ?_, ?_, ?_, ?_, ?_, ?_, ?_, ?_, ?_, ?_⟩
  · intro pc L L' st h hs hk hoL hoS H ls locs hw hS hl
    refine hk (fun q hq => hoL q (hs q hq)) hoS H ls locs hw hS ⟨hl.1, hl.2.1, fun q hq => ?_⟩
    obtain ⟨q0, h1, rfl⟩ := List.mem_map.mp hq
    exact hl.2.2 _ (List.mem_map_of_mem (hs q0 h1))
  · intro pc off tgt L st h hd ht hk hoL hoS H ls locs hw hS hl
    exact lv_goto hx hb (dk_eq hd) ht (hk hoL hoS H ls locs hw hS hl)
  · intro pc cd off tgt L st h x y hd ht kt kf hoL hoS H ls locs hw hS hl
    have hy0 : inR y := hoS (vI y) List.mem_cons_self
    have hx0 : inR x := hoS (vI x) (List.mem_cons_of_mem _ List.mem_cons_self)
    have hoR : ∀ v ∈ st, okV v := fun v hv => hoS v (List.mem_cons_of_mem _ (List.mem_cons_of_mem _ hv))
    have d0 := dk_eq hd
    cases cd with
    | eq => exact lv_icmp_eq hx hb d0 ht (fun q => kt ((oi_eq hx0 hy0).mp q) hoL hoR H ls locs hw hS hl) (fun q => kf (fun z => q ((oi_eq hx0 hy0).mpr z)) hoL hoR H ls locs hw hS hl)
    | ne => exact lv_icmp_ne hx hb d0 ht (fun q => kf (fun z => q ((oi_eq hx0 hy0).mpr z)) hoL hoR H ls locs hw hS hl) (fun q => kt ((oi_eq hx0 hy0).mp q) hoL hoR H ls locs hw hS hl)
    | lt => exact lv_icmp_lt hx hb d0 ht (fun q => kt ((oi_lt hx0 hy0).mp q) hoL hoR H ls locs hw hS hl) (fun q => kf (fun z => q ((oi_lt hx0 hy0).mpr z)) hoL hoR H ls locs hw hS hl)
    | ge => exact lv_icmp_ge hx hb d0 ht (fun q => kf (fun z => by have := (oi_le hy0 hx0).mp q; unfold cmpB at z; omega) hoL hoR H ls locs hw hS hl) (fun q => kt (by unfold cmpB; have := mt (oi_le hy0 hx0).mpr q; omega) hoL hoR H ls locs hw hS hl)
    | gt => exact lv_icmp_gt hx hb d0 ht (fun q => kf (fun z => by have := (oi_lt hy0 hx0).mp q; unfold cmpB at z; omega) hoL hoR H ls locs hw hS hl) (fun q => kt (by unfold cmpB; have := mt (oi_lt hy0 hx0).mpr q; omega) hoL hoR H ls locs hw hS hl)
    | le => exact lv_icmp_le hx hb d0 ht (fun q => kt ((oi_le hx0 hy0).mp q) hoL hoR H ls locs hw hS hl) (fun q => kf (fun z => q ((oi_le hx0 hy0).mpr z)) hoL hoR H ls locs hw hS hl)
  · intro pc cd off tgt L st h x hd ht kt kf hoL hoS H ls locs hw hS hl
    have hy0 : inR (0 : Int) := by unfold inR; omega
    have hx0 : inR x := hoS (vI x) List.mem_cons_self
    have hoR : ∀ v ∈ st, okV v := fun v hv => hoS v (List.mem_cons_of_mem _ hv)
    have d0 := dk_eq hd
    cases cd with
    | eq => exact lv_if_eq hx hb d0 ht (fun q => kt ((oi_eq hx0 hy0).mp q) hoL hoR H ls locs hw hS hl) (fun q => kf (fun z => q ((oi_eq hx0 hy0).mpr z)) hoL hoR H ls locs hw hS hl)
    | ne => exact lv_if_ne hx hb d0 ht (fun q => kf (fun z => q ((oi_eq hx0 hy0).mpr z)) hoL hoR H ls locs hw hS hl) (fun q => kt ((oi_eq hx0 hy0).mp q) hoL hoR H ls locs hw hS hl)
    | lt => exact lv_if_lt hx hb d0 ht (fun q => kt ((oi_lt hx0 hy0).mp q) hoL hoR H ls locs hw hS hl) (fun q => kf (fun z => q ((oi_lt hx0 hy0).mpr z)) hoL hoR H ls locs hw hS hl)
    | ge => exact lv_if_ge hx hb d0 ht (fun q => kf (fun z => by have := (oi_le hy0 hx0).mp q; unfold cmpB at z; omega) hoL hoR H ls locs hw hS hl) (fun q => kt (by unfold cmpB; have := mt (oi_le hy0 hx0).mpr q; omega) hoL hoR H ls locs hw hS hl)
    | gt => exact lv_if_gt hx hb d0 ht (fun q => kf (fun z => by have := (oi_lt hy0 hx0).mp q; unfold cmpB at z; omega) hoL hoR H ls locs hw hS hl) (fun q => kt (by unfold cmpB; have := mt (oi_lt hy0 hx0).mpr q; omega) hoL hoR H ls locs hw hS hl)
    | le => exact lv_if_le hx hb d0 ht (fun q => kt ((oi_le hx0 hy0).mp q) hoL hoR H ls locs hw hS hl) (fun q => kf (fun z => q ((oi_le hx0 hy0).mpr z)) hoL hoR H ls locs hw hS hl)
  · intro pc off tgt L st h o hd ht kt kf hoL hoS H ls locs hw hS hl
    have hoR : ∀ v ∈ st, okV v := fun v hv => hoS v (List.mem_cons_of_mem _ hv)
    cases o with
    | none => exact lv_ifnullN hx hb (dk_eq hd) ht (kt rfl hoL hoR H ls locs hw hS hl)
    | some i => exact lv_ifnull hx hb (dk_eq hd) (kf i rfl hoL hoR H ls locs hw hS hl)
  · intro pc dflt lo hi offs len L st h x hd hq hk hoL hoS H ls locs hw hS hl
    have hx0 : inR x := hoS (vI x) List.mem_cons_self
    have hoR : ∀ v ∈ st, okV v := fun v hv => hoS v (List.mem_cons_of_mem _ hv)
    have k9 := hk hoL hoR H ls locs hw hS hl
    unfold swT at k9
    by_cases hc : x < lo ∨ hi < x
    · rw [if_pos hc] at k9
      exact lv_tableOut hx hb (dk_eq hd) (by rw [ti hx0]; exact hc) (tgt := ((pc : Int) + dflt).toNat) (by have := hq.1; omega) k9
    · rw [if_neg hc] at k9
      have hlen : (x - lo).toNat < offs.toList.length := by have := hq.2.2; omega
      have hget : offs[(x - lo).toNat]? = some (offs.toList.getD (x - lo).toNat 0) := by
        rw [← Array.getElem?_toList, List.getD_eq_getElem?_getD, List.getElem?_eq_getElem hlen]
        rfl
      have hmem : offs.toList.getD (x - lo).toNat 0 ∈ offs.toList := by
        rw [List.getD_eq_getElem?_getD, List.getElem?_eq_getElem hlen]
        exact List.getElem_mem hlen
      have hpos := hq.2.1 _ hmem
      exact lv_tableIn hx hb (dk_eq hd) (by rw [ti hx0]; omega) (by rw [ti hx0]; omega) (off := offs.toList.getD (x - lo).toNat 0) (by rw [ti hx0]; exact hget) (tgt := ((pc : Int) + offs.toList.getD (x - lo).toNat 0).toNat) (by omega) k9
  · intro pc L st h ho hd hk hoL hoS H ls locs hw hS hl
    subst ho
    exact va_ldcS hx hb hown hE.1 (dk_eq hd) (hk hoL (okc (v := vR 101) trivial hoS) H ls locs hw hS hl)
  · intro pc idx d' ci i maxL y bytes ret' vs rest L h h' r h1 h2 h3 h4 h5 h6 h7 h8 hk
    exact wm_callV hX0 hM h1 h2 h3 h4 h5 h6 h7 (dk_eq h8) hk
  · intro pc idx d' maxL y bytes ret' vs rest L h h' r h1 h2 h3 h4 h7 h8 hk
    exact wm_callS hX0 hM h1 h2 h3 h4 h7 (dk_eq h8) hk
  · intro pc idx d' maxL y bytes ret' vs rest L h h' r h0 h1 h2 h3 h4 h7 h8 hk
    exact wm_callG hX0 hM h0 h1 h2 h3 h4 h7 (dk_eq h8) hk
end RULES
def entL : Nat → List MV → ML
  | _, [] => []
  | i, v :: vs => (i, v) :: entL (i + 1) vs
theorem entL_args (ad : Nat → Nat) : ∀ (vs : List MV) (i : Nat), vs.all (fun v => !c2 v) = true → lv_args i (vs.map (tv ad)) = (entL i vs).map (tl ad) := by
  intro vs
  induction vs with
  | nil => intro i _; rfl
  | cons v vs ih =>
    intro i h
    simp only [List.all_cons, Bool.and_eq_true] at h
    have hc : (tv ad v).category = 1 := tv_cat1 (by simpa using h.1)
    simp only [List.map_cons, lv_args, entL, hc]
    rw [← ih (i + 1) h.2]
    rfl
theorem entL_len (ad : Nat → Nat) : ∀ (vs : List MV), vs.all (fun v => !c2 v) = true → (lg_sl (vs.map (tv ad))).length = vs.length := by
  intro vs
  induction vs with
  | nil => intro _; rfl
  | cons v vs ih =>
    intro h
    simp only [List.all_cons, Bool.and_eq_true] at h
    have hc : (tv ad v).category = 1 := tv_cat1 (by simpa using h.1)
    have := ih h.2
    unfold lg_sl at this ⊢
    simp only [List.map_cons, List.flatMap_cons, hc, List.length_append, List.length_cons]
    rw [this]
    simp
    omega
theorem entL_ok : ∀ (vs : List MV) (i : Nat), (∀ v ∈ vs, okV v) → ∀ q ∈ entL i vs, okV q.2 := by
  intro vs
  induction vs with
  | nil => intro i _ q hq; cases hq
  | cons v vs ih =>
    intro i h q hq
    rcases List.mem_cons.mp hq with rfl | hq
    · exact h v List.mem_cons_self
    · exact ih (i + 1) (fun v hv => h v (List.mem_cons_of_mem _ hv)) q hq
/-- a method's contract out of its walk -/
theorem con_of {own : String} {cc : ByteArray} {nL : Nat} {ret : Option FieldType} {fl : Nat → Option (Nat × Nat)} {d : Nat} {y : MethodName} {vs : List MV} {h : MH} {r : Option MV} {h' : MH} (hy : plainName y.cls = true) (hyo : y.cls = own) (hf : flok own fl) (hc : vs.all (fun v => !c2 v) = true) (hn : vs.length ≤ nL)
    (hK : ∀ K : KT, Rules own cc nL ret fl d K → R_ret cc ret (fun r' h2 => r' = r ∧ h2 = h') K → K 0 (entL 0 vs) [] h) : CON d y cc nL ret vs h r h' := by
  intro l D cI cS ad hov
  refine Met.ofW hy rfl ?_
  intro p e s m args below meth c s₁ B hml hv
  obtain ⟨rfl, hw, hKK, hE⟩ := hv
  have hx := B.exec
  have hb := B.bytes
  have hr := B.returns
  have hts := atoms_spec (ws := Cond.code y cc nL ret :: TB) B.pre
  have hown : s.vm.findClass own = some m.cls := by rw [← hyo]; exact findClass_of_methodNamed B.named
  have hlocks := B.notSynchronized
  have hX : CX own cc nL ret p s m (vs.map (tv ad)).toArray meth c D cI cS ad (inA ad) := ⟨hx, hb, hml, hr, hown, fun w hw => hts w (List.mem_cons_of_mem _ hw), hKK, hlocks, hE⟩
  have hM : RMX d (headSpec (Cond.code y cc nL ret :: TB) (rmd d)).room 0 0 := ⟨Nat.le_refl _, Nat.le_refl _, Nat.le_refl _, Nat.le_refl _⟩
  have hRu := rules_ok (l := l) (e := e) (below := below) (Q := MQ below (QM D cI cS ad r h') (vs.map (tv ad)).toArray s 0 0 (inA ad)) hX hM hf
  rw [lg_entry_eq]
  have hl := lv_entry (vs.map (tv ad)) (n := nL) (by rw [entL_len ad vs hc]; exact hn)
  generalize (lg_sl (vs.map (tv ad)) ++ List.replicate (nL - (lg_sl (vs.map (tv ad))).length) Slot.unset).toArray = ls at hl ⊢
  rw [entL_args ad vs 0 hc] at hl
  refine hK _ hRu ?_ (entL_ok vs 0 hov) (fun v hv => by cases hv) s.heap ls [] hw va_S.rf hl
  refine ⟨?_, ?_, ?_, ?_, ?_⟩
  · intro pc L h z hd hr2 ⟨e1, e2⟩ hoL hoS H ls locs hw hS hl
    subst e1; subst e2
    exact W.iret hx hb (by rw [hr, hr2]) (fun t ht hW => ⟨rfl, fun v hv => by cases hv; exact hoS _ List.mem_cons_self, by rw [ht]; exact hw, hS.F ht⟩) hS.2.2 (dk_eq hd)
  · intro pc L h z hd hr2 hz ⟨e1, e2⟩ hoL hoS H ls locs hw hS hl
    subst e1; subst e2
    exact W.zret (ty := .boolean) hx hb (by rw [hr, hr2]) (by rcases hz with rfl | rfl <;> decide) (fun t ht hW => ⟨rfl, fun v hv => by cases hv; exact hoS _ List.mem_cons_self, by rw [ht]; exact hw, hS.F ht⟩) hS.2.2 (dk_eq hd)
  · intro pc L h o hd hr2 ⟨e1, e2⟩ hoL hoS H ls locs hw hS hl
    subst e1; subst e2
    obtain ⟨n, hr2⟩ := hr2
    refine W.aret (v := tv ad (vO o)) (rt := .object n) hx hb (by rw [hr, hr2]) (Or.inl ⟨n, rfl⟩) ?_ (fun t ht hW => ⟨rfl, fun v hv => by cases hv; exact trivial, by rw [ht]; exact hw, hS.F ht⟩) hS.2.2 (dk_eq hd)
    cases o with
    | none => exact Or.inl rfl
    | some i => exact Or.inr ⟨_, rfl⟩
  · intro pc L h z hd hr2 ⟨e1, e2⟩ hoL hoS H ls locs hw hS hl
    subst e1; subst e2
    exact W.dret hx hb (by rw [hr, hr2]) (fun t ht hW => ⟨rfl, fun v hv => by cases hv; exact trivial, by rw [ht]; exact hw, hS.F ht⟩) hS.2.2 (dk_eq hd)
  · intro pc L h hd hr2 ⟨e1, e2⟩ hoL hoS H ls locs hw hS hl
    subst e1; subst e2
    exact W.vret hx hb (by rw [hr, hr2]) (fun t ht hW => ⟨rfl, fun v hv => (by cases hv), by rw [ht]; exact hw, hS.F ht⟩) hS.2.2 (dk_eq hd)
end

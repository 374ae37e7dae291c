section
-- ===== PART A: goes FIRST, ahead of the names: the tables' words, and 'selects' of the private methods out of them =====
/-- a private method of a class that the tables say can be made, by its rows of tables_1 -/
def lw_okq (q : MethodName × Nat) : Prop := (q.1.cls ≠ "java/lang/invoke/MethodHandle" ∧ q.1.cls ≠ "java/lang/invoke/VarHandle") ∧ Cond.instantiable q.1.cls q.2 ∈ tables_1 ∧ Cond.privateMethod q.1 ∈ tables_1 ∧ Cond.instanceMethod q.1 ∈ tables_1
theorem lw_p0 : lw_okq (⟨"HunkSlides", "padSign", "(I)I"⟩, 9) := ⟨⟨by decide +kernel, by decide +kernel⟩, List.mem_of_getElem? (i := 16) (by decide +kernel), List.mem_of_getElem? (i := 214) (by decide +kernel), List.mem_of_getElem? (i := 215) (by decide +kernel)⟩
theorem lw_p1 : lw_okq (⟨"HunkSlides$History", "dropOldest", "()V"⟩, 2) := ⟨⟨by decide +kernel, by decide +kernel⟩, List.mem_of_getElem? (i := 68) (by decide +kernel), List.mem_of_getElem? (i := 322) (by decide +kernel), List.mem_of_getElem? (i := 323) (by decide +kernel)⟩
theorem lw_p2 : lw_okq (⟨"HunkSlides$History", "slot", "(I)LHunkSlides$State;"⟩, 2) := ⟨⟨by decide +kernel, by decide +kernel⟩, List.mem_of_getElem? (i := 68) (by decide +kernel), List.mem_of_getElem? (i := 326) (by decide +kernel), List.mem_of_getElem? (i := 327) (by decide +kernel)⟩
theorem lw_p3 : lw_okq (⟨"HunkSlides", "distanceNow", "()I"⟩, 9) := ⟨⟨by decide +kernel, by decide +kernel⟩, List.mem_of_getElem? (i := 16) (by decide +kernel), List.mem_of_getElem? (i := 375) (by decide +kernel), List.mem_of_getElem? (i := 376) (by decide +kernel)⟩
theorem lw_p4 : lw_okq (⟨"HunkSlides$Comparison", "keptFrom", "(II)I"⟩, 2) := ⟨⟨by decide +kernel, by decide +kernel⟩, List.mem_of_getElem? (i := 84) (by decide +kernel), List.mem_of_getElem? (i := 397) (by decide +kernel), List.mem_of_getElem? (i := 398) (by decide +kernel)⟩
theorem lw_p5 : lw_okq (⟨"HunkSlides", "show", "()V"⟩, 9) := ⟨⟨by decide +kernel, by decide +kernel⟩, List.mem_of_getElem? (i := 16) (by decide +kernel), List.mem_of_getElem? (i := 419) (by decide +kernel), List.mem_of_getElem? (i := 420) (by decide +kernel)⟩
theorem lw_p6 : lw_okq (⟨"HunkSlides$View", "findHunks", "()V"⟩, 5) := ⟨⟨by decide +kernel, by decide +kernel⟩, List.mem_of_getElem? (i := 99) (by decide +kernel), List.mem_of_getElem? (i := 436) (by decide +kernel), List.mem_of_getElem? (i := 437) (by decide +kernel)⟩
theorem lw_p7 : lw_okq (⟨"HunkSlides$View", "inHunk", "(I)Z"⟩, 5) := ⟨⟨by decide +kernel, by decide +kernel⟩, List.mem_of_getElem? (i := 99) (by decide +kernel), List.mem_of_getElem? (i := 444) (by decide +kernel), List.mem_of_getElem? (i := 445) (by decide +kernel)⟩
theorem lw_p8 : lw_okq (⟨"HunkSlides$View", "linesWithin", "(III)I"⟩, 5) := ⟨⟨by decide +kernel, by decide +kernel⟩, List.mem_of_getElem? (i := 99) (by decide +kernel), List.mem_of_getElem? (i := 464) (by decide +kernel), List.mem_of_getElem? (i := 465) (by decide +kernel)⟩
theorem lw_p9 : lw_okq (⟨"HunkSlides$View", "bestTop", "(I)I"⟩, 5) := ⟨⟨by decide +kernel, by decide +kernel⟩, List.mem_of_getElem? (i := 99) (by decide +kernel), List.mem_of_getElem? (i := 476) (by decide +kernel), List.mem_of_getElem? (i := 477) (by decide +kernel)⟩
theorem lw_p10 : lw_okq (⟨"HunkSlides$View", "barAt", "(IIZ)I"⟩, 5) := ⟨⟨by decide +kernel, by decide +kernel⟩, List.mem_of_getElem? (i := 99) (by decide +kernel), List.mem_of_getElem? (i := 484) (by decide +kernel), List.mem_of_getElem? (i := 485) (by decide +kernel)⟩
theorem lw_p11 : lw_okq (⟨"HunkSlides$View", "worthAt", "(II)I"⟩, 5) := ⟨⟨by decide +kernel, by decide +kernel⟩, List.mem_of_getElem? (i := 99) (by decide +kernel), List.mem_of_getElem? (i := 488) (by decide +kernel), List.mem_of_getElem? (i := 489) (by decide +kernel)⟩
theorem lw_p12 : lw_okq (⟨"HunkSlides$View", "moveTo", "(II)V"⟩, 5) := ⟨⟨by decide +kernel, by decide +kernel⟩, List.mem_of_getElem? (i := 99) (by decide +kernel), List.mem_of_getElem? (i := 492) (by decide +kernel), List.mem_of_getElem? (i := 493) (by decide +kernel)⟩
theorem lw_p13 : lw_okq (⟨"HunkSlides$Laying", "layOne", "(LHunkSlides$View;IIZ)V"⟩, 10) := ⟨⟨by decide +kernel, by decide +kernel⟩, List.mem_of_getElem? (i := 123) (by decide +kernel), List.mem_of_getElem? (i := 504) (by decide +kernel), List.mem_of_getElem? (i := 505) (by decide +kernel)⟩
theorem lw_p14 : lw_okq (⟨"HunkSlides$Laying", "takeParts", "(LHunkSlides$View;IIZ)V"⟩, 10) := ⟨⟨by decide +kernel, by decide +kernel⟩, List.mem_of_getElem? (i := 123) (by decide +kernel), List.mem_of_getElem? (i := 519) (by decide +kernel), List.mem_of_getElem? (i := 520) (by decide +kernel)⟩
theorem lw_p15 : lw_okq (⟨"HunkSlides$Laying", "search", "(I)I"⟩, 10) := ⟨⟨by decide +kernel, by decide +kernel⟩, List.mem_of_getElem? (i := 123) (by decide +kernel), List.mem_of_getElem? (i := 540) (by decide +kernel), List.mem_of_getElem? (i := 541) (by decide +kernel)⟩
def lw_privs_1 : List (MethodName × Nat) := [(⟨"HunkSlides", "padSign", "(I)I"⟩, 9), (⟨"HunkSlides$History", "dropOldest", "()V"⟩, 2), (⟨"HunkSlides$History", "slot", "(I)LHunkSlides$State;"⟩, 2), (⟨"HunkSlides", "distanceNow", "()I"⟩, 9), (⟨"HunkSlides$Comparison", "keptFrom", "(II)I"⟩, 2), (⟨"HunkSlides", "show", "()V"⟩, 9), (⟨"HunkSlides$View", "findHunks", "()V"⟩, 5), (⟨"HunkSlides$View", "inHunk", "(I)Z"⟩, 5), (⟨"HunkSlides$View", "linesWithin", "(III)I"⟩, 5), (⟨"HunkSlides$View", "bestTop", "(I)I"⟩, 5), (⟨"HunkSlides$View", "barAt", "(IIZ)I"⟩, 5), (⟨"HunkSlides$View", "worthAt", "(II)I"⟩, 5), (⟨"HunkSlides$View", "moveTo", "(II)V"⟩, 5), (⟨"HunkSlides$Laying", "layOne", "(LHunkSlides$View;IIZ)V"⟩, 10), (⟨"HunkSlides$Laying", "takeParts", "(LHunkSlides$View;IIZ)V"⟩, 10), (⟨"HunkSlides$Laying", "search", "(I)I"⟩, 10)]
theorem lw_r1 : ∀ q ∈ lw_privs_1, lw_okq q := List.forall_mem_cons.mpr ⟨lw_p0, List.forall_mem_cons.mpr ⟨lw_p1, List.forall_mem_cons.mpr ⟨lw_p2, List.forall_mem_cons.mpr ⟨lw_p3, List.forall_mem_cons.mpr ⟨lw_p4, List.forall_mem_cons.mpr ⟨lw_p5, List.forall_mem_cons.mpr ⟨lw_p6, List.forall_mem_cons.mpr ⟨lw_p7, List.forall_mem_cons.mpr ⟨lw_p8, List.forall_mem_cons.mpr ⟨lw_p9, List.forall_mem_cons.mpr ⟨lw_p10, List.forall_mem_cons.mpr ⟨lw_p11, List.forall_mem_cons.mpr ⟨lw_p12, List.forall_mem_cons.mpr ⟨lw_p13, List.forall_mem_cons.mpr ⟨lw_p14, List.forall_mem_cons.mpr ⟨lw_p15, fun _ h => absurd h List.not_mem_nil⟩⟩⟩⟩⟩⟩⟩⟩⟩⟩⟩⟩⟩⟩⟩⟩
theorem lw_p16 : lw_okq (⟨"HunkSlides$Laying", "fitsAt", "(I)Z"⟩, 10) := ⟨⟨by decide +kernel, by decide +kernel⟩, List.mem_of_getElem? (i := 123) (by decide +kernel), List.mem_of_getElem? (i := 544) (by decide +kernel), List.mem_of_getElem? (i := 545) (by decide +kernel)⟩
theorem lw_p17 : lw_okq (⟨"HunkSlides$Laying", "replaceAt", "(I)V"⟩, 10) := ⟨⟨by decide +kernel, by decide +kernel⟩, List.mem_of_getElem? (i := 123) (by decide +kernel), List.mem_of_getElem? (i := 550) (by decide +kernel), List.mem_of_getElem? (i := 551) (by decide +kernel)⟩
theorem lw_p18 : lw_okq (⟨"HunkSlides$Comparison", "entry", "(II)I"⟩, 2) := ⟨⟨by decide +kernel, by decide +kernel⟩, List.mem_of_getElem? (i := 84) (by decide +kernel), List.mem_of_getElem? (i := 586) (by decide +kernel), List.mem_of_getElem? (i := 587) (by decide +kernel)⟩
theorem lw_p19 : lw_okq (⟨"HunkSlides", "heldNumber", "(I)I"⟩, 9) := ⟨⟨by decide +kernel, by decide +kernel⟩, List.mem_of_getElem? (i := 16) (by decide +kernel), List.mem_of_getElem? (i := 636) (by decide +kernel), List.mem_of_getElem? (i := 637) (by decide +kernel)⟩
theorem lw_p20 : lw_okq (⟨"HunkSlides", "shownNumber", "(I)I"⟩, 9) := ⟨⟨by decide +kernel, by decide +kernel⟩, List.mem_of_getElem? (i := 16) (by decide +kernel), List.mem_of_getElem? (i := 652) (by decide +kernel), List.mem_of_getElem? (i := 653) (by decide +kernel)⟩
theorem lw_p21 : lw_okq (⟨"HunkSlidesModel", "remembers", "()V"⟩, 17) := ⟨⟨by decide +kernel, by decide +kernel⟩, List.mem_of_getElem? (i := 728) (by decide +kernel), List.mem_of_getElem? (i := 809) (by decide +kernel), List.mem_of_getElem? (i := 810) (by decide +kernel)⟩
theorem lw_p22 : lw_okq (⟨"HunkSlidesModel", "lines", "(I)I"⟩, 17) := ⟨⟨by decide +kernel, by decide +kernel⟩, List.mem_of_getElem? (i := 728) (by decide +kernel), List.mem_of_getElem? (i := 813) (by decide +kernel), List.mem_of_getElem? (i := 814) (by decide +kernel)⟩
theorem lw_p23 : lw_okq (⟨"HunkSlidesModel", "counts", "()I"⟩, 17) := ⟨⟨by decide +kernel, by decide +kernel⟩, List.mem_of_getElem? (i := 728) (by decide +kernel), List.mem_of_getElem? (i := 825) (by decide +kernel), List.mem_of_getElem? (i := 826) (by decide +kernel)⟩
theorem lw_p24 : lw_okq (⟨"HunkSlidesModel", "olds", "()I"⟩, 17) := ⟨⟨by decide +kernel, by decide +kernel⟩, List.mem_of_getElem? (i := 728) (by decide +kernel), List.mem_of_getElem? (i := 829) (by decide +kernel), List.mem_of_getElem? (i := 830) (by decide +kernel)⟩
theorem lw_p25 : lw_okq (⟨"HunkSlidesModel", "old", "(I)I"⟩, 17) := ⟨⟨by decide +kernel, by decide +kernel⟩, List.mem_of_getElem? (i := 728) (by decide +kernel), List.mem_of_getElem? (i := 833) (by decide +kernel), List.mem_of_getElem? (i := 834) (by decide +kernel)⟩
theorem lw_p26 : lw_okq (⟨"HunkSlidesModel", "lineOf", "(II)I"⟩, 17) := ⟨⟨by decide +kernel, by decide +kernel⟩, List.mem_of_getElem? (i := 728) (by decide +kernel), List.mem_of_getElem? (i := 837) (by decide +kernel), List.mem_of_getElem? (i := 838) (by decide +kernel)⟩
theorem lw_p27 : lw_okq (⟨"HunkSlidesModel", "views", "()V"⟩, 17) := ⟨⟨by decide +kernel, by decide +kernel⟩, List.mem_of_getElem? (i := 728) (by decide +kernel), List.mem_of_getElem? (i := 849) (by decide +kernel), List.mem_of_getElem? (i := 850) (by decide +kernel)⟩
theorem lw_p28 : lw_okq (⟨"HunkSlidesModel", "shows", "(II)V"⟩, 17) := ⟨⟨by decide +kernel, by decide +kernel⟩, List.mem_of_getElem? (i := 728) (by decide +kernel), List.mem_of_getElem? (i := 853) (by decide +kernel), List.mem_of_getElem? (i := 854) (by decide +kernel)⟩
theorem lw_p29 : lw_okq (⟨"HunkSlidesModel", "hunks", "()I"⟩, 17) := ⟨⟨by decide +kernel, by decide +kernel⟩, List.mem_of_getElem? (i := 728) (by decide +kernel), List.mem_of_getElem? (i := 857) (by decide +kernel), List.mem_of_getElem? (i := 858) (by decide +kernel)⟩
theorem lw_p30 : lw_okq (⟨"HunkSlidesModel", "begins", "(I)Z"⟩, 17) := ⟨⟨by decide +kernel, by decide +kernel⟩, List.mem_of_getElem? (i := 728) (by decide +kernel), List.mem_of_getElem? (i := 861) (by decide +kernel), List.mem_of_getElem? (i := 862) (by decide +kernel)⟩
theorem lw_p31 : lw_okq (⟨"HunkSlidesModel", "settles", "(I)V"⟩, 17) := ⟨⟨by decide +kernel, by decide +kernel⟩, List.mem_of_getElem? (i := 728) (by decide +kernel), List.mem_of_getElem? (i := 865) (by decide +kernel), List.mem_of_getElem? (i := 866) (by decide +kernel)⟩
def lw_privs_2 : List (MethodName × Nat) := [(⟨"HunkSlides$Laying", "fitsAt", "(I)Z"⟩, 10), (⟨"HunkSlides$Laying", "replaceAt", "(I)V"⟩, 10), (⟨"HunkSlides$Comparison", "entry", "(II)I"⟩, 2), (⟨"HunkSlides", "heldNumber", "(I)I"⟩, 9), (⟨"HunkSlides", "shownNumber", "(I)I"⟩, 9), (⟨"HunkSlidesModel", "remembers", "()V"⟩, 17), (⟨"HunkSlidesModel", "lines", "(I)I"⟩, 17), (⟨"HunkSlidesModel", "counts", "()I"⟩, 17), (⟨"HunkSlidesModel", "olds", "()I"⟩, 17), (⟨"HunkSlidesModel", "old", "(I)I"⟩, 17), (⟨"HunkSlidesModel", "lineOf", "(II)I"⟩, 17), (⟨"HunkSlidesModel", "views", "()V"⟩, 17), (⟨"HunkSlidesModel", "shows", "(II)V"⟩, 17), (⟨"HunkSlidesModel", "hunks", "()I"⟩, 17), (⟨"HunkSlidesModel", "begins", "(I)Z"⟩, 17), (⟨"HunkSlidesModel", "settles", "(I)V"⟩, 17)]
theorem lw_r2 : ∀ q ∈ lw_privs_2, lw_okq q := List.forall_mem_cons.mpr ⟨lw_p16, List.forall_mem_cons.mpr ⟨lw_p17, List.forall_mem_cons.mpr ⟨lw_p18, List.forall_mem_cons.mpr ⟨lw_p19, List.forall_mem_cons.mpr ⟨lw_p20, List.forall_mem_cons.mpr ⟨lw_p21, List.forall_mem_cons.mpr ⟨lw_p22, List.forall_mem_cons.mpr ⟨lw_p23, List.forall_mem_cons.mpr ⟨lw_p24, List.forall_mem_cons.mpr ⟨lw_p25, List.forall_mem_cons.mpr ⟨lw_p26, List.forall_mem_cons.mpr ⟨lw_p27, List.forall_mem_cons.mpr ⟨lw_p28, List.forall_mem_cons.mpr ⟨lw_p29, List.forall_mem_cons.mpr ⟨lw_p30, List.forall_mem_cons.mpr ⟨lw_p31, fun _ h => absurd h List.not_mem_nil⟩⟩⟩⟩⟩⟩⟩⟩⟩⟩⟩⟩⟩⟩⟩⟩
theorem lw_p32 : lw_okq (⟨"HunkSlidesModel", "start", "(I)I"⟩, 17) := ⟨⟨by decide +kernel, by decide +kernel⟩, List.mem_of_getElem? (i := 728) (by decide +kernel), List.mem_of_getElem? (i := 869) (by decide +kernel), List.mem_of_getElem? (i := 870) (by decide +kernel)⟩
theorem lw_p33 : lw_okq (⟨"HunkSlidesModel", "isPlain", "(I)Z"⟩, 17) := ⟨⟨by decide +kernel, by decide +kernel⟩, List.mem_of_getElem? (i := 728) (by decide +kernel), List.mem_of_getElem? (i := 873) (by decide +kernel), List.mem_of_getElem? (i := 874) (by decide +kernel)⟩
theorem lw_p34 : lw_okq (⟨"HunkSlidesModel", "marked", "(II)I"⟩, 17) := ⟨⟨by decide +kernel, by decide +kernel⟩, List.mem_of_getElem? (i := 728) (by decide +kernel), List.mem_of_getElem? (i := 877) (by decide +kernel), List.mem_of_getElem? (i := 878) (by decide +kernel)⟩
theorem lw_p35 : lw_okq (⟨"HunkSlidesModel", "size", "(I)I"⟩, 17) := ⟨⟨by decide +kernel, by decide +kernel⟩, List.mem_of_getElem? (i := 728) (by decide +kernel), List.mem_of_getElem? (i := 881) (by decide +kernel), List.mem_of_getElem? (i := 882) (by decide +kernel)⟩
theorem lw_p36 : lw_okq (⟨"HunkSlidesModel", "bestPlace", "(I)I"⟩, 17) := ⟨⟨by decide +kernel, by decide +kernel⟩, List.mem_of_getElem? (i := 728) (by decide +kernel), List.mem_of_getElem? (i := 885) (by decide +kernel), List.mem_of_getElem? (i := 886) (by decide +kernel)⟩
theorem lw_p37 : lw_okq (⟨"HunkSlidesModel", "slides", "(IZ)I"⟩, 17) := ⟨⟨by decide +kernel, by decide +kernel⟩, List.mem_of_getElem? (i := 728) (by decide +kernel), List.mem_of_getElem? (i := 889) (by decide +kernel), List.mem_of_getElem? (i := 890) (by decide +kernel)⟩
theorem lw_p38 : lw_okq (⟨"HunkSlidesModel", "whyNotFrom", "(IIZ)I"⟩, 17) := ⟨⟨by decide +kernel, by decide +kernel⟩, List.mem_of_getElem? (i := 728) (by decide +kernel), List.mem_of_getElem? (i := 893) (by decide +kernel), List.mem_of_getElem? (i := 894) (by decide +kernel)⟩
theorem lw_p39 : lw_okq (⟨"HunkSlidesModel", "worth", "(II)I"⟩, 17) := ⟨⟨by decide +kernel, by decide +kernel⟩, List.mem_of_getElem? (i := 728) (by decide +kernel), List.mem_of_getElem? (i := 897) (by decide +kernel), List.mem_of_getElem? (i := 898) (by decide +kernel)⟩
theorem lw_p40 : lw_okq (⟨"HunkSlidesModel", "lays", "(ZI)I"⟩, 17) := ⟨⟨by decide +kernel, by decide +kernel⟩, List.mem_of_getElem? (i := 728) (by decide +kernel), List.mem_of_getElem? (i := 901) (by decide +kernel), List.mem_of_getElem? (i := 902) (by decide +kernel)⟩
theorem lw_p41 : lw_okq (⟨"HunkSlidesModel", "around", "(IZI)I"⟩, 17) := ⟨⟨by decide +kernel, by decide +kernel⟩, List.mem_of_getElem? (i := 728) (by decide +kernel), List.mem_of_getElem? (i := 905) (by decide +kernel), List.mem_of_getElem? (i := 906) (by decide +kernel)⟩
theorem lw_p42 : lw_okq (⟨"HunkSlidesModel", "linesBut", "(III)I"⟩, 17) := ⟨⟨by decide +kernel, by decide +kernel⟩, List.mem_of_getElem? (i := 728) (by decide +kernel), List.mem_of_getElem? (i := 909) (by decide +kernel), List.mem_of_getElem? (i := 910) (by decide +kernel)⟩
theorem lw_p43 : lw_okq (⟨"HunkSlidesModel", "looks", "(IIIII)I"⟩, 17) := ⟨⟨by decide +kernel, by decide +kernel⟩, List.mem_of_getElem? (i := 728) (by decide +kernel), List.mem_of_getElem? (i := 913) (by decide +kernel), List.mem_of_getElem? (i := 914) (by decide +kernel)⟩
theorem lw_p44 : lw_okq (⟨"HunkSlidesModel", "fits", "(IIII)Z"⟩, 17) := ⟨⟨by decide +kernel, by decide +kernel⟩, List.mem_of_getElem? (i := 728) (by decide +kernel), List.mem_of_getElem? (i := 917) (by decide +kernel), List.mem_of_getElem? (i := 918) (by decide +kernel)⟩
theorem lw_p45 : lw_okq (⟨"HunkSlidesModel", "replaces", "(IIIII)V"⟩, 17) := ⟨⟨by decide +kernel, by decide +kernel⟩, List.mem_of_getElem? (i := 728) (by decide +kernel), List.mem_of_getElem? (i := 921) (by decide +kernel), List.mem_of_getElem? (i := 922) (by decide +kernel)⟩
theorem lw_p46 : lw_okq (⟨"HunkSlidesModel", "byDiagonals", "()I"⟩, 17) := ⟨⟨by decide +kernel, by decide +kernel⟩, List.mem_of_getElem? (i := 728) (by decide +kernel), List.mem_of_getElem? (i := 933) (by decide +kernel), List.mem_of_getElem? (i := 934) (by decide +kernel)⟩
theorem lw_p47 : lw_okq (⟨"HunkSlidesModel", "hunkAt", "(I)I"⟩, 17) := ⟨⟨by decide +kernel, by decide +kernel⟩, List.mem_of_getElem? (i := 728) (by decide +kernel), List.mem_of_getElem? (i := 941) (by decide +kernel), List.mem_of_getElem? (i := 942) (by decide +kernel)⟩
def lw_privs_3 : List (MethodName × Nat) := [(⟨"HunkSlidesModel", "start", "(I)I"⟩, 17), (⟨"HunkSlidesModel", "isPlain", "(I)Z"⟩, 17), (⟨"HunkSlidesModel", "marked", "(II)I"⟩, 17), (⟨"HunkSlidesModel", "size", "(I)I"⟩, 17), (⟨"HunkSlidesModel", "bestPlace", "(I)I"⟩, 17), (⟨"HunkSlidesModel", "slides", "(IZ)I"⟩, 17), (⟨"HunkSlidesModel", "whyNotFrom", "(IIZ)I"⟩, 17), (⟨"HunkSlidesModel", "worth", "(II)I"⟩, 17), (⟨"HunkSlidesModel", "lays", "(ZI)I"⟩, 17), (⟨"HunkSlidesModel", "around", "(IZI)I"⟩, 17), (⟨"HunkSlidesModel", "linesBut", "(III)I"⟩, 17), (⟨"HunkSlidesModel", "looks", "(IIIII)I"⟩, 17), (⟨"HunkSlidesModel", "fits", "(IIII)Z"⟩, 17), (⟨"HunkSlidesModel", "replaces", "(IIIII)V"⟩, 17), (⟨"HunkSlidesModel", "byDiagonals", "()I"⟩, 17), (⟨"HunkSlidesModel", "hunkAt", "(I)I"⟩, 17)]
theorem lw_r3 : ∀ q ∈ lw_privs_3, lw_okq q := List.forall_mem_cons.mpr ⟨lw_p32, List.forall_mem_cons.mpr ⟨lw_p33, List.forall_mem_cons.mpr ⟨lw_p34, List.forall_mem_cons.mpr ⟨lw_p35, List.forall_mem_cons.mpr ⟨lw_p36, List.forall_mem_cons.mpr ⟨lw_p37, List.forall_mem_cons.mpr ⟨lw_p38, List.forall_mem_cons.mpr ⟨lw_p39, List.forall_mem_cons.mpr ⟨lw_p40, List.forall_mem_cons.mpr ⟨lw_p41, List.forall_mem_cons.mpr ⟨lw_p42, List.forall_mem_cons.mpr ⟨lw_p43, List.forall_mem_cons.mpr ⟨lw_p44, List.forall_mem_cons.mpr ⟨lw_p45, List.forall_mem_cons.mpr ⟨lw_p46, List.forall_mem_cons.mpr ⟨lw_p47, fun _ h => absurd h List.not_mem_nil⟩⟩⟩⟩⟩⟩⟩⟩⟩⟩⟩⟩⟩⟩⟩⟩
theorem lw_p48 : lw_okq (⟨"HunkSlidesModel", "linesOf", "(I)I"⟩, 17) := ⟨⟨by decide +kernel, by decide +kernel⟩, List.mem_of_getElem? (i := 728) (by decide +kernel), List.mem_of_getElem? (i := 957) (by decide +kernel), List.mem_of_getElem? (i := 958) (by decide +kernel)⟩
theorem lw_p49 : lw_okq (⟨"HunkSlidesModel", "ofHunks", "(I)I"⟩, 17) := ⟨⟨by decide +kernel, by decide +kernel⟩, List.mem_of_getElem? (i := 728) (by decide +kernel), List.mem_of_getElem? (i := 961) (by decide +kernel), List.mem_of_getElem? (i := 962) (by decide +kernel)⟩
theorem lw_p50 : lw_okq (⟨"HunkSlidesModel", "longestKept", "()I"⟩, 17) := ⟨⟨by decide +kernel, by decide +kernel⟩, List.mem_of_getElem? (i := 728) (by decide +kernel), List.mem_of_getElem? (i := 965) (by decide +kernel), List.mem_of_getElem? (i := 966) (by decide +kernel)⟩
def lw_privs_4 : List (MethodName × Nat) := [(⟨"HunkSlidesModel", "linesOf", "(I)I"⟩, 17), (⟨"HunkSlidesModel", "ofHunks", "(I)I"⟩, 17), (⟨"HunkSlidesModel", "longestKept", "()I"⟩, 17)]
theorem lw_r4 : ∀ q ∈ lw_privs_4, lw_okq q := List.forall_mem_cons.mpr ⟨lw_p48, List.forall_mem_cons.mpr ⟨lw_p49, List.forall_mem_cons.mpr ⟨lw_p50, fun _ h => absurd h List.not_mem_nil⟩⟩⟩
def lw_privs : List (MethodName × Nat) := lw_privs_1 ++ (lw_privs_2 ++ (lw_privs_3 ++ (lw_privs_4)))
def lw_tbl : List Cond := k2_sels lw_privs ++ tables_1
theorem lw_privs_ok : ∀ q ∈ lw_privs, lw_okq q := by
  show ∀ q ∈ lw_privs_1 ++ (lw_privs_2 ++ (lw_privs_3 ++ (lw_privs_4))), lw_okq q
  exact List.forall_mem_append.mpr ⟨lw_r1, List.forall_mem_append.mpr ⟨lw_r2, List.forall_mem_append.mpr ⟨lw_r3, lw_r4⟩⟩⟩
/-- the streams that the claim lets the run draw from -/
abbrev lw_cs : List Choice := [Jvm.Choice.named "NaN.bits"]
theorem lw_bits : nanBits ∈ lw_cs := by first | decide | exact List.mem_cons_self | simp [lw_cs, nanBits]
end
section
def RX0 : String := "HunkSlides$Comparison"
def TX0 : u_T := fun k => match k with
  | 0 => ("HunkSlides$Comparison", "most", "LHunkSlides$Row;", true)
  | _ => ("HunkSlides$Comparison", "farthest", "LHunkSlides$Row;", true)
def tyX0 : Nat → FieldType := fun k => match k with
  | 0 => .object "HunkSlides$Row"
  | _ => .object "HunkSlides$Row"
abbrev wsX00 : List Cond := u_ws RX0 TX0 2
theorem nmX0 : ∀ a, a < 2 → ∀ b, b < 2 → a ≠ b → (TX0 a).2.1 ≠ (TX0 b).2.1 := by decide +kernel
theorem tyX0_ok : ∀ k, k < 2 → parseFieldDescriptor (TX0 k).2.2.1 = some (tyX0 k) := by decide +kernel
abbrev cX0_init : ByteArray := prog_2_method_1_code
def yX0_init : MethodName := ⟨RX0, "<init>", "()V"⟩
abbrev cX0_compare : ByteArray := prog_2_method_2_code
def yX0_compare : MethodName := ⟨RX0, "compare", "(LHunkSlides$Row;LHunkSlides$Row;)V"⟩
abbrev cX0_step : ByteArray := prog_2_method_3_code
def yX0_step : MethodName := ⟨RX0, "step", "(LHunkSlides$Row;LHunkSlides$Row;II)I"⟩
abbrev cX0_keptOf : ByteArray := prog_2_method_4_code
def yX0_keptOf : MethodName := ⟨RX0, "keptOf", "(LHunkSlides$Row;LHunkSlides$Row;)I"⟩
abbrev cX0_apart : ByteArray := prog_2_method_5_code
def yX0_apart : MethodName := ⟨RX0, "apart", "(LHunkSlides$Row;LHunkSlides$Row;)I"⟩
abbrev cX0_apartBySteps : ByteArray := prog_2_method_6_code
def yX0_apartBySteps : MethodName := ⟨RX0, "apartBySteps", "(LHunkSlides$Row;LHunkSlides$Row;)I"⟩
abbrev cX0_keptFrom : ByteArray := prog_2_method_7_code
def yX0_keptFrom : MethodName := ⟨RX0, "keptFrom", "(II)I"⟩
abbrev cX0_entry : ByteArray := prog_2_method_8_code
def yX0_entry : MethodName := ⟨RX0, "entry", "(II)I"⟩
abbrev cX0_followKept : ByteArray := prog_2_method_9_code
def yX0_followKept : MethodName := ⟨RX0, "followKept", "(LHunkSlides$Row;LHunkSlides$Row;II)I"⟩
def RX1 : String := "HunkSlides$History"
def TX1 : u_T := fun k => match k with
  | 0 => ("HunkSlides$History", "states", "[LHunkSlides$State;", true)
  | _ => ("HunkSlides$History", "size", "I", false)
def tyX1 : Nat → FieldType := fun k => match k with
  | 0 => .array (.object "HunkSlides$State")
  | _ => .int
abbrev wsX10 : List Cond := u_ws RX1 TX1 2
theorem nmX1 : ∀ a, a < 2 → ∀ b, b < 2 → a ≠ b → (TX1 a).2.1 ≠ (TX1 b).2.1 := by decide +kernel
theorem tyX1_ok : ∀ k, k < 2 → parseFieldDescriptor (TX1 k).2.2.1 = some (tyX1 k) := by decide +kernel
abbrev cX1_init : ByteArray := prog_3_method_1_code
def yX1_init : MethodName := ⟨RX1, "<init>", "()V"⟩
abbrev cX1_size : ByteArray := prog_3_method_2_code
def yX1_size : MethodName := ⟨RX1, "size", "()I"⟩
abbrev cX1_isEmpty : ByteArray := prog_3_method_3_code
def yX1_isEmpty : MethodName := ⟨RX1, "isEmpty", "()Z"⟩
abbrev cX1_record : ByteArray := prog_3_method_4_code
def yX1_record : MethodName := ⟨RX1, "record", "(LHunkSlides$State;)V"⟩
abbrev cX1_takeBack : ByteArray := prog_3_method_5_code
def yX1_takeBack : MethodName := ⟨RX1, "takeBack", "(LHunkSlides$State;)V"⟩
abbrev cX1_dropOldest : ByteArray := prog_3_method_6_code
def yX1_dropOldest : MethodName := ⟨RX1, "dropOldest", "()V"⟩
abbrev cX1_slot : ByteArray := prog_3_method_7_code
def yX1_slot : MethodName := ⟨RX1, "slot", "(I)LHunkSlides$State;"⟩
abbrev cX1_copy : ByteArray := prog_3_method_8_code
def yX1_copy : MethodName := ⟨RX1, "copy", "(LHunkSlides$State;LHunkSlides$State;)V"⟩
def RX2 : String := "HunkSlides$Laying"
def TX2 : u_T := fun k => match k with
  | 0 => ("HunkSlides$Laying", "text", "LHunkSlides$Row;", true)
  | 1 => ("HunkSlides$Laying", "putOut", "LHunkSlides$Row;", true)
  | 2 => ("HunkSlides$Laying", "putIn", "LHunkSlides$Row;", true)
  | 3 => ("HunkSlides$Laying", "places", "LHunkSlides$Row;", true)
  | 4 => ("HunkSlides$Laying", "lower", "LHunkSlides$Row;", true)
  | 5 => ("HunkSlides$Laying", "laid", "I", false)
  | 6 => ("HunkSlides$Laying", "longest", "I", false)
  | 7 => ("HunkSlides$Laying", "shift", "I", false)
  | 8 => ("HunkSlides$Laying", "growth", "I", false)
  | _ => ("HunkSlides$Laying", "first", "I", false)
def tyX2 : Nat → FieldType := fun k => match k with
  | 0 => .object "HunkSlides$Row"
  | 1 => .object "HunkSlides$Row"
  | 2 => .object "HunkSlides$Row"
  | 3 => .object "HunkSlides$Row"
  | 4 => .object "HunkSlides$Row"
  | 5 => .int
  | 6 => .int
  | 7 => .int
  | 8 => .int
  | _ => .int
abbrev wsX20 : List Cond := u_ws RX2 TX2 10
theorem nmX2 : ∀ a, a < 10 → ∀ b, b < 10 → a ≠ b → (TX2 a).2.1 ≠ (TX2 b).2.1 := by decide +kernel
theorem tyX2_ok : ∀ k, k < 10 → parseFieldDescriptor (TX2 k).2.2.1 = some (tyX2 k) := by decide +kernel
abbrev cX2_init : ByteArray := prog_4_method_1_code
def yX2_init : MethodName := ⟨RX2, "<init>", "()V"⟩
abbrev cX2_layAll : ByteArray := prog_4_method_2_code
def yX2_layAll : MethodName := ⟨RX2, "layAll", "(LHunkSlides$View;LHunkSlides$Row;IZ)V"⟩
abbrev cX2_laid : ByteArray := prog_4_method_3_code
def yX2_laid : MethodName := ⟨RX2, "laid", "()I"⟩
abbrev cX2_longest : ByteArray := prog_4_method_4_code
def yX2_longest : MethodName := ⟨RX2, "longest", "()I"⟩
abbrev cX2_result : ByteArray := prog_4_method_5_code
def yX2_result : MethodName := ⟨RX2, "result", "()LHunkSlides$Row;"⟩
abbrev cX2_placeOf : ByteArray := prog_4_method_6_code
def yX2_placeOf : MethodName := ⟨RX2, "placeOf", "(I)I"⟩
abbrev cX2_lowerOf : ByteArray := prog_4_method_7_code
def yX2_lowerOf : MethodName := ⟨RX2, "lowerOf", "(I)I"⟩
abbrev cX2_layOne : ByteArray := prog_4_method_8_code
def yX2_layOne : MethodName := ⟨RX2, "layOne", "(LHunkSlides$View;IIZ)V"⟩
abbrev cX2_takeParts : ByteArray := prog_4_method_9_code
def yX2_takeParts : MethodName := ⟨RX2, "takeParts", "(LHunkSlides$View;IIZ)V"⟩
abbrev cX2_search : ByteArray := prog_4_method_10_code
def yX2_search : MethodName := ⟨RX2, "search", "(I)I"⟩
abbrev cX2_fitsAt : ByteArray := prog_4_method_11_code
def yX2_fitsAt : MethodName := ⟨RX2, "fitsAt", "(I)Z"⟩
abbrev cX2_replaceAt : ByteArray := prog_4_method_12_code
def yX2_replaceAt : MethodName := ⟨RX2, "replaceAt", "(I)V"⟩
def RX3 : String := "HunkSlides$Row"
def TX3 : u_T := fun k => match k with
  | 0 => ("HunkSlides$Row", "values", "[I", true)
  | _ => ("HunkSlides$Row", "size", "I", false)
def tyX3 : Nat → FieldType := fun k => match k with
  | 0 => .array .int
  | _ => .int
abbrev wsX30 : List Cond := u_ws RX3 TX3 2
theorem nmX3 : ∀ a, a < 2 → ∀ b, b < 2 → a ≠ b → (TX3 a).2.1 ≠ (TX3 b).2.1 := by decide +kernel
theorem tyX3_ok : ∀ k, k < 2 → parseFieldDescriptor (TX3 k).2.2.1 = some (tyX3 k) := by decide +kernel
abbrev cX3_init : ByteArray := prog_5_method_1_code
def yX3_init : MethodName := ⟨RX3, "<init>", "(I)V"⟩
abbrev cX3_size : ByteArray := prog_5_method_2_code
def yX3_size : MethodName := ⟨RX3, "size", "()I"⟩
abbrev cX3_isEmpty : ByteArray := prog_5_method_3_code
def yX3_isEmpty : MethodName := ⟨RX3, "isEmpty", "()Z"⟩
abbrev cX3_at : ByteArray := prog_5_method_4_code
def yX3_at : MethodName := ⟨RX3, "at", "(I)I"⟩
abbrev cX3_emptyOut : ByteArray := prog_5_method_5_code
def yX3_emptyOut : MethodName := ⟨RX3, "emptyOut", "()V"⟩
abbrev cX3_add : ByteArray := prog_5_method_6_code
def yX3_add : MethodName := ⟨RX3, "add", "(I)V"⟩
abbrev cX3_change : ByteArray := prog_5_method_7_code
def yX3_change : MethodName := ⟨RX3, "change", "(II)V"⟩
abbrev cX3_putIn : ByteArray := prog_5_method_8_code
def yX3_putIn : MethodName := ⟨RX3, "putIn", "(II)V"⟩
abbrev cX3_putOut : ByteArray := prog_5_method_9_code
def yX3_putOut : MethodName := ⟨RX3, "putOut", "(I)V"⟩
abbrev cX3_become : ByteArray := prog_5_method_10_code
def yX3_become : MethodName := ⟨RX3, "become", "(LHunkSlides$Row;)V"⟩
abbrev cX3_becomeZeros : ByteArray := prog_5_method_11_code
def yX3_becomeZeros : MethodName := ⟨RX3, "becomeZeros", "(I)V"⟩
def RX4 : String := "HunkSlides$State"
def TX4 : u_T := fun k => match k with
  | 0 => ("HunkSlides$State", "oldText", "LHunkSlides$Row;", true)
  | 1 => ("HunkSlides$State", "newText", "LHunkSlides$Row;", true)
  | 2 => ("HunkSlides$State", "thirdText", "LHunkSlides$Row;", true)
  | 3 => ("HunkSlides$State", "around", "I", false)
  | 4 => ("HunkSlides$State", "slide", "I", false)
  | 5 => ("HunkSlides$State", "laid", "I", false)
  | _ => ("HunkSlides$State", "leftOut", "I", false)
def tyX4 : Nat → FieldType := fun k => match k with
  | 0 => .object "HunkSlides$Row"
  | 1 => .object "HunkSlides$Row"
  | 2 => .object "HunkSlides$Row"
  | 3 => .int
  | 4 => .int
  | 5 => .int
  | _ => .int
abbrev wsX40 : List Cond := u_ws RX4 TX4 7
theorem nmX4 : ∀ a, a < 7 → ∀ b, b < 7 → a ≠ b → (TX4 a).2.1 ≠ (TX4 b).2.1 := by decide +kernel
theorem tyX4_ok : ∀ k, k < 7 → parseFieldDescriptor (TX4 k).2.2.1 = some (tyX4 k) := by decide +kernel
abbrev cX4_init : ByteArray := prog_6_method_1_code
def yX4_init : MethodName := ⟨RX4, "<init>", "()V"⟩
abbrev cX4_text : ByteArray := prog_6_method_2_code
def yX4_text : MethodName := ⟨RX4, "text", "(I)LHunkSlides$Row;"⟩
abbrev cX4_setting : ByteArray := prog_6_method_3_code
def yX4_setting : MethodName := ⟨RX4, "setting", "(I)I"⟩
abbrev cX4_changeSetting : ByteArray := prog_6_method_4_code
def yX4_changeSetting : MethodName := ⟨RX4, "changeSetting", "(II)V"⟩
abbrev cX4_laid : ByteArray := prog_6_method_5_code
def yX4_laid : MethodName := ⟨RX4, "laid", "()I"⟩
abbrev cX4_leftOut : ByteArray := prog_6_method_6_code
def yX4_leftOut : MethodName := ⟨RX4, "leftOut", "()I"⟩
abbrev cX4_addPatches : ByteArray := prog_6_method_7_code
def yX4_addPatches : MethodName := ⟨RX4, "addPatches", "(II)V"⟩
abbrev cX4_become : ByteArray := prog_6_method_8_code
def yX4_become : MethodName := ⟨RX4, "become", "(LHunkSlides$State;)V"⟩
def RX5 : String := "HunkSlides$View"
def TX5 : u_T := fun k => match k with
  | 0 => ("HunkSlides$View", "kinds", "LHunkSlides$Row;", true)
  | 1 => ("HunkSlides$View", "signs", "LHunkSlides$Row;", true)
  | 2 => ("HunkSlides$View", "tops", "LHunkSlides$Row;", true)
  | 3 => ("HunkSlides$View", "ends", "LHunkSlides$Row;", true)
  | _ => ("HunkSlides$View", "plain", "LHunkSlides$Row;", true)
def tyX5 : Nat → FieldType := fun k => match k with
  | 0 => .object "HunkSlides$Row"
  | 1 => .object "HunkSlides$Row"
  | 2 => .object "HunkSlides$Row"
  | 3 => .object "HunkSlides$Row"
  | _ => .object "HunkSlides$Row"
abbrev wsX50 : List Cond := u_ws RX5 TX5 5
theorem nmX5 : ∀ a, a < 5 → ∀ b, b < 5 → a ≠ b → (TX5 a).2.1 ≠ (TX5 b).2.1 := by decide +kernel
theorem tyX5_ok : ∀ k, k < 5 → parseFieldDescriptor (TX5 k).2.2.1 = some (tyX5 k) := by decide +kernel
abbrev cX5_init : ByteArray := prog_7_method_1_code
def yX5_init : MethodName := ⟨RX5, "<init>", "()V"⟩
abbrev cX5_gather : ByteArray := prog_7_method_2_code
def yX5_gather : MethodName := ⟨RX5, "gather", "(LHunkSlides$Row;LHunkSlides$Row;LHunkSlides$Comparison;)V"⟩
abbrev cX5_findHunks : ByteArray := prog_7_method_3_code
def yX5_findHunks : MethodName := ⟨RX5, "findHunks", "()V"⟩
abbrev cX5_settle : ByteArray := prog_7_method_4_code
def yX5_settle : MethodName := ⟨RX5, "settle", "()V"⟩
abbrev cX5_moveTo : ByteArray := prog_7_method_5_code
def yX5_moveTo : MethodName := ⟨RX5, "moveTo", "(II)V"⟩
abbrev cX5_bestTop : ByteArray := prog_7_method_6_code
def yX5_bestTop : MethodName := ⟨RX5, "bestTop", "(I)I"⟩
abbrev cX5_size : ByteArray := prog_7_method_7_code
def yX5_size : MethodName := ⟨RX5, "size", "()I"⟩
abbrev cX5_kind : ByteArray := prog_7_method_8_code
def yX5_kind : MethodName := ⟨RX5, "kind", "(I)I"⟩
abbrev cX5_sign : ByteArray := prog_7_method_9_code
def yX5_sign : MethodName := ⟨RX5, "sign", "(I)I"⟩
abbrev cX5_oldAhead : ByteArray := prog_7_method_10_code
def yX5_oldAhead : MethodName := ⟨RX5, "oldAhead", "(I)I"⟩
abbrev cX5_newAhead : ByteArray := prog_7_method_11_code
def yX5_newAhead : MethodName := ⟨RX5, "newAhead", "(I)I"⟩
abbrev cX5_linesOfKind : ByteArray := prog_7_method_12_code
def yX5_linesOfKind : MethodName := ⟨RX5, "linesOfKind", "(I)I"⟩
abbrev cX5_linesWithin : ByteArray := prog_7_method_13_code
def yX5_linesWithin : MethodName := ⟨RX5, "linesWithin", "(III)I"⟩
abbrev cX5_hunkOf : ByteArray := prog_7_method_14_code
def yX5_hunkOf : MethodName := ⟨RX5, "hunkOf", "(I)I"⟩
abbrev cX5_longestKept : ByteArray := prog_7_method_15_code
def yX5_longestKept : MethodName := ⟨RX5, "longestKept", "()I"⟩
abbrev cX5_inHunk : ByteArray := prog_7_method_16_code
def yX5_inHunk : MethodName := ⟨RX5, "inHunk", "(I)Z"⟩
abbrev cX5_hunks : ByteArray := prog_7_method_17_code
def yX5_hunks : MethodName := ⟨RX5, "hunks", "()I"⟩
abbrev cX5_has : ByteArray := prog_7_method_18_code
def yX5_has : MethodName := ⟨RX5, "has", "(I)Z"⟩
abbrev cX5_top : ByteArray := prog_7_method_19_code
def yX5_top : MethodName := ⟨RX5, "top", "(I)I"⟩
abbrev cX5_end : ByteArray := prog_7_method_20_code
def yX5_end : MethodName := ⟨RX5, "end", "(I)I"⟩
abbrev cX5_linesOf : ByteArray := prog_7_method_21_code
def yX5_linesOf : MethodName := ⟨RX5, "linesOf", "(II)I"⟩
abbrev cX5_isPlain : ByteArray := prog_7_method_22_code
def yX5_isPlain : MethodName := ⟨RX5, "isPlain", "(I)Z"⟩
abbrev cX5_plainHunks : ByteArray := prog_7_method_23_code
def yX5_plainHunks : MethodName := ⟨RX5, "plainHunks", "()I"⟩
abbrev cX5_slidingHunks : ByteArray := prog_7_method_24_code
def yX5_slidingHunks : MethodName := ⟨RX5, "slidingHunks", "()I"⟩
abbrev cX5_worthOfAll : ByteArray := prog_7_method_25_code
def yX5_worthOfAll : MethodName := ⟨RX5, "worthOfAll", "()I"⟩
abbrev cX5_worth : ByteArray := prog_7_method_26_code
def yX5_worth : MethodName := ⟨RX5, "worth", "(I)I"⟩
abbrev cX5_greatestWorth : ByteArray := prog_7_method_27_code
def yX5_greatestWorth : MethodName := ⟨RX5, "greatestWorth", "(I)I"⟩
abbrev cX5_worthAt : ByteArray := prog_7_method_28_code
def yX5_worthAt : MethodName := ⟨RX5, "worthAt", "(II)I"⟩
abbrev cX5_reach : ByteArray := prog_7_method_29_code
def yX5_reach : MethodName := ⟨RX5, "reach", "(IZ)I"⟩
abbrev cX5_hindrance : ByteArray := prog_7_method_30_code
def yX5_hindrance : MethodName := ⟨RX5, "hindrance", "(IZ)I"⟩
abbrev cX5_barAt : ByteArray := prog_7_method_31_code
def yX5_barAt : MethodName := ⟨RX5, "barAt", "(IIZ)I"⟩
abbrev cX5_around : ByteArray := prog_7_method_32_code
def yX5_around : MethodName := ⟨RX5, "around", "(IIZ)I"⟩
def RX6 : String := "HunkSlides"
def TX6 : u_T := fun k => match k with
  | 0 => ("HunkSlides", "pad", "LHunkSlides$Row;", true)
  | 1 => ("HunkSlides", "now", "LHunkSlides$State;", true)
  | 2 => ("HunkSlides", "snapshot", "LHunkSlides$State;", true)
  | 3 => ("HunkSlides", "saved", "Z", false)
  | 4 => ("HunkSlides", "history", "LHunkSlides$History;", true)
  | 5 => ("HunkSlides", "spare", "LHunkSlides$Row;", true)
  | 6 => ("HunkSlides", "comparison", "LHunkSlides$Comparison;", true)
  | 7 => ("HunkSlides", "shown", "LHunkSlides$View;", true)
  | _ => ("HunkSlides", "laying", "LHunkSlides$Laying;", true)
def tyX6 : Nat → FieldType := fun k => match k with
  | 0 => .object "HunkSlides$Row"
  | 1 => .object "HunkSlides$State"
  | 2 => .object "HunkSlides$State"
  | 3 => .boolean
  | 4 => .object "HunkSlides$History"
  | 5 => .object "HunkSlides$Row"
  | 6 => .object "HunkSlides$Comparison"
  | 7 => .object "HunkSlides$View"
  | _ => .object "HunkSlides$Laying"
abbrev wsX60 : List Cond := u_ws RX6 TX6 9
theorem nmX6 : ∀ a, a < 9 → ∀ b, b < 9 → a ≠ b → (TX6 a).2.1 ≠ (TX6 b).2.1 := by decide +kernel
theorem tyX6_ok : ∀ k, k < 9 → parseFieldDescriptor (TX6 k).2.2.1 = some (tyX6 k) := by decide +kernel
abbrev cX6_init : ByteArray := prog_1_method_1_code
def yX6_init : MethodName := ⟨RX6, "<init>", "()V"⟩
abbrev cX6_append : ByteArray := prog_1_method_2_code
def yX6_append : MethodName := ⟨RX6, "append", "(I)I"⟩
abbrev cX6_clear : ByteArray := prog_1_method_3_code
def yX6_clear : MethodName := ⟨RX6, "clear", "()I"⟩
abbrev cX6_fault : ByteArray := prog_1_method_4_code
def yX6_fault : MethodName := ⟨RX6, "fault", "()I"⟩
abbrev cX6_load : ByteArray := prog_1_method_5_code
def yX6_load : MethodName := ⟨RX6, "load", "(I)I"⟩
abbrev cX6_edit : ByteArray := prog_1_method_6_code
def yX6_edit : MethodName := ⟨RX6, "edit", "(III)I"⟩
abbrev cX6_swap : ByteArray := prog_1_method_7_code
def yX6_swap : MethodName := ⟨RX6, "swap", "(II)I"⟩
abbrev cX6_set : ByteArray := prog_1_method_8_code
def yX6_set : MethodName := ⟨RX6, "set", "(II)I"⟩
abbrev cX6_lay : ByteArray := prog_1_method_9_code
def yX6_lay : MethodName := ⟨RX6, "lay", "(Z)I"⟩
abbrev cX6_line : ByteArray := prog_1_method_10_code
def yX6_line : MethodName := ⟨RX6, "line", "(II)I"⟩
abbrev cX6_distance : ByteArray := prog_1_method_11_code
def yX6_distance : MethodName := ⟨RX6, "distance", "(I)I"⟩
abbrev cX6_view : ByteArray := prog_1_method_12_code
def yX6_view : MethodName := ⟨RX6, "view", "(II)I"⟩
abbrev cX6_hunk : ByteArray := prog_1_method_13_code
def yX6_hunk : MethodName := ⟨RX6, "hunk", "(II)I"⟩
abbrev cX6_whyNot : ByteArray := prog_1_method_14_code
def yX6_whyNot : MethodName := ⟨RX6, "whyNot", "(IZ)I"⟩
abbrev cX6_count : ByteArray := prog_1_method_15_code
def yX6_count : MethodName := ⟨RX6, "count", "(I)I"⟩
abbrev cX6_alike : ByteArray := prog_1_method_16_code
def yX6_alike : MethodName := ⟨RX6, "alike", "()D"⟩
abbrev cX6_ifLaid : ByteArray := prog_1_method_17_code
def yX6_ifLaid : MethodName := ⟨RX6, "ifLaid", "(IZI)I"⟩
abbrev cX6_ifAround : ByteArray := prog_1_method_18_code
def yX6_ifAround : MethodName := ⟨RX6, "ifAround", "(I)I"⟩
abbrev cX6_least : ByteArray := prog_1_method_19_code
def yX6_least : MethodName := ⟨RX6, "least", "()I"⟩
abbrev cX6_undo : ByteArray := prog_1_method_20_code
def yX6_undo : MethodName := ⟨RX6, "undo", "()I"⟩
abbrev cX6_save : ByteArray := prog_1_method_21_code
def yX6_save : MethodName := ⟨RX6, "save", "()I"⟩
abbrev cX6_restore : ByteArray := prog_1_method_22_code
def yX6_restore : MethodName := ⟨RX6, "restore", "()I"⟩
abbrev cX6_isText : ByteArray := prog_1_method_23_code
def yX6_isText : MethodName := ⟨RX6, "isText", "(I)Z"⟩
abbrev cX6_isSign : ByteArray := prog_1_method_24_code
def yX6_isSign : MethodName := ⟨RX6, "isSign", "(I)Z"⟩
abbrev cX6_padSign : ByteArray := prog_1_method_25_code
def yX6_padSign : MethodName := ⟨RX6, "padSign", "(I)I"⟩
abbrev cX6_distanceNow : ByteArray := prog_1_method_26_code
def yX6_distanceNow : MethodName := ⟨RX6, "distanceNow", "()I"⟩
abbrev cX6_show : ByteArray := prog_1_method_27_code
def yX6_show : MethodName := ⟨RX6, "show", "()V"⟩
abbrev cX6_shownNumber : ByteArray := prog_1_method_28_code
def yX6_shownNumber : MethodName := ⟨RX6, "shownNumber", "(I)I"⟩
abbrev cX6_heldNumber : ByteArray := prog_1_method_29_code
def yX6_heldNumber : MethodName := ⟨RX6, "heldNumber", "(I)I"⟩
def RX7 : String := "HunkSlidesModel"
def TX7 : u_T := fun k => match k with
  | 0 => ("HunkSlidesModel", "s", "[I", true)
  | 1 => ("HunkSlidesModel", "past", "[I", true)
  | 2 => ("HunkSlidesModel", "known", "I", false)
  | 3 => ("HunkSlidesModel", "snap", "[I", true)
  | 4 => ("HunkSlidesModel", "isSaved", "Z", false)
  | 5 => ("HunkSlidesModel", "pad", "[I", true)
  | 6 => ("HunkSlidesModel", "length", "I", false)
  | 7 => ("HunkSlidesModel", "keep", "[I", true)
  | 8 => ("HunkSlidesModel", "without", "I", false)
  | 9 => ("HunkSlidesModel", "sign", "[I", true)
  | 10 => ("HunkSlidesModel", "kind", "[I", true)
  | 11 => ("HunkSlidesModel", "many", "I", false)
  | 12 => ("HunkSlidesModel", "third", "[I", true)
  | 13 => ("HunkSlidesModel", "thirds", "I", false)
  | 14 => ("HunkSlidesModel", "found", "[I", true)
  | 15 => ("HunkSlidesModel", "lower", "[I", true)
  | _ => ("HunkSlidesModel", "isLong", "Z", false)
def tyX7 : Nat → FieldType := fun k => match k with
  | 0 => .array .int
  | 1 => .array .int
  | 2 => .int
  | 3 => .array .int
  | 4 => .boolean
  | 5 => .array .int
  | 6 => .int
  | 7 => .array .int
  | 8 => .int
  | 9 => .array .int
  | 10 => .array .int
  | 11 => .int
  | 12 => .array .int
  | 13 => .int
  | 14 => .array .int
  | 15 => .array .int
  | _ => .boolean
abbrev wsX70 : List Cond := u_ws RX7 TX7 17
theorem nmX7 : ∀ a, a < 17 → ∀ b, b < 17 → a ≠ b → (TX7 a).2.1 ≠ (TX7 b).2.1 := by decide +kernel
theorem tyX7_ok : ∀ k, k < 17 → parseFieldDescriptor (TX7 k).2.2.1 = some (tyX7 k) := by decide +kernel
abbrev cX7_init : ByteArray := prog_9_method_1_code
def yX7_init : MethodName := ⟨RX7, "<init>", "()V"⟩
abbrev cX7_in : ByteArray := prog_9_method_3_code
def yX7_in : MethodName := ⟨RX7, "in", "(III)Z"⟩
abbrev cX7_remembers : ByteArray := prog_9_method_4_code
def yX7_remembers : MethodName := ⟨RX7, "remembers", "()V"⟩
abbrev cX7_lines : ByteArray := prog_9_method_5_code
def yX7_lines : MethodName := ⟨RX7, "lines", "(I)I"⟩
abbrev cX7_lineOf : ByteArray := prog_9_method_6_code
def yX7_lineOf : MethodName := ⟨RX7, "lineOf", "(II)I"⟩
abbrev cX7_olds : ByteArray := prog_9_method_7_code
def yX7_olds : MethodName := ⟨RX7, "olds", "()I"⟩
abbrev cX7_old : ByteArray := prog_9_method_8_code
def yX7_old : MethodName := ⟨RX7, "old", "(I)I"⟩
abbrev cX7_counts : ByteArray := prog_9_method_9_code
def yX7_counts : MethodName := ⟨RX7, "counts", "()I"⟩
abbrev cX7_shows : ByteArray := prog_9_method_10_code
def yX7_shows : MethodName := ⟨RX7, "shows", "(II)V"⟩
abbrev cX7_views : ByteArray := prog_9_method_11_code
def yX7_views : MethodName := ⟨RX7, "views", "()V"⟩
abbrev cX7_begins : ByteArray := prog_9_method_12_code
def yX7_begins : MethodName := ⟨RX7, "begins", "(I)Z"⟩
abbrev cX7_hunks : ByteArray := prog_9_method_13_code
def yX7_hunks : MethodName := ⟨RX7, "hunks", "()I"⟩
abbrev cX7_start : ByteArray := prog_9_method_14_code
def yX7_start : MethodName := ⟨RX7, "start", "(I)I"⟩
abbrev cX7_size : ByteArray := prog_9_method_15_code
def yX7_size : MethodName := ⟨RX7, "size", "(I)I"⟩
abbrev cX7_marked : ByteArray := prog_9_method_16_code
def yX7_marked : MethodName := ⟨RX7, "marked", "(II)I"⟩
abbrev cX7_isPlain : ByteArray := prog_9_method_17_code
def yX7_isPlain : MethodName := ⟨RX7, "isPlain", "(I)Z"⟩
abbrev cX7_whyNotFrom : ByteArray := prog_9_method_18_code
def yX7_whyNotFrom : MethodName := ⟨RX7, "whyNotFrom", "(IIZ)I"⟩
abbrev cX7_slides : ByteArray := prog_9_method_19_code
def yX7_slides : MethodName := ⟨RX7, "slides", "(IZ)I"⟩
abbrev cX7_worth : ByteArray := prog_9_method_20_code
def yX7_worth : MethodName := ⟨RX7, "worth", "(II)I"⟩
abbrev cX7_bestPlace : ByteArray := prog_9_method_21_code
def yX7_bestPlace : MethodName := ⟨RX7, "bestPlace", "(I)I"⟩
abbrev cX7_settles : ByteArray := prog_9_method_22_code
def yX7_settles : MethodName := ⟨RX7, "settles", "(I)V"⟩
abbrev cX7_around : ByteArray := prog_9_method_23_code
def yX7_around : MethodName := ⟨RX7, "around", "(IZI)I"⟩
abbrev cX7_linesBut : ByteArray := prog_9_method_24_code
def yX7_linesBut : MethodName := ⟨RX7, "linesBut", "(III)I"⟩
abbrev cX7_fits : ByteArray := prog_9_method_25_code
def yX7_fits : MethodName := ⟨RX7, "fits", "(IIII)Z"⟩
abbrev cX7_looks : ByteArray := prog_9_method_26_code
def yX7_looks : MethodName := ⟨RX7, "looks", "(IIIII)I"⟩
abbrev cX7_replaces : ByteArray := prog_9_method_27_code
def yX7_replaces : MethodName := ⟨RX7, "replaces", "(IIIII)V"⟩
abbrev cX7_lays : ByteArray := prog_9_method_28_code
def yX7_lays : MethodName := ⟨RX7, "lays", "(ZI)I"⟩
abbrev cX7_append : ByteArray := prog_9_method_29_code
def yX7_append : MethodName := ⟨RX7, "append", "(I)I"⟩
abbrev cX7_clear : ByteArray := prog_9_method_30_code
def yX7_clear : MethodName := ⟨RX7, "clear", "()I"⟩
abbrev cX7_signOf : ByteArray := prog_9_method_31_code
def yX7_signOf : MethodName := ⟨RX7, "signOf", "(I)I"⟩
abbrev cX7_fault : ByteArray := prog_9_method_32_code
def yX7_fault : MethodName := ⟨RX7, "fault", "()I"⟩
abbrev cX7_load : ByteArray := prog_9_method_33_code
def yX7_load : MethodName := ⟨RX7, "load", "(I)I"⟩
abbrev cX7_edit : ByteArray := prog_9_method_34_code
def yX7_edit : MethodName := ⟨RX7, "edit", "(III)I"⟩
abbrev cX7_swap : ByteArray := prog_9_method_35_code
def yX7_swap : MethodName := ⟨RX7, "swap", "(II)I"⟩
abbrev cX7_set : ByteArray := prog_9_method_36_code
def yX7_set : MethodName := ⟨RX7, "set", "(II)I"⟩
abbrev cX7_lay : ByteArray := prog_9_method_37_code
def yX7_lay : MethodName := ⟨RX7, "lay", "(Z)I"⟩
abbrev cX7_line : ByteArray := prog_9_method_38_code
def yX7_line : MethodName := ⟨RX7, "line", "(II)I"⟩
abbrev cX7_byDiagonals : ByteArray := prog_9_method_39_code
def yX7_byDiagonals : MethodName := ⟨RX7, "byDiagonals", "()I"⟩
abbrev cX7_distance : ByteArray := prog_9_method_40_code
def yX7_distance : MethodName := ⟨RX7, "distance", "(I)I"⟩
abbrev cX7_view : ByteArray := prog_9_method_41_code
def yX7_view : MethodName := ⟨RX7, "view", "(II)I"⟩
abbrev cX7_hunkAt : ByteArray := prog_9_method_42_code
def yX7_hunkAt : MethodName := ⟨RX7, "hunkAt", "(I)I"⟩
abbrev cX7_hunk : ByteArray := prog_9_method_43_code
def yX7_hunk : MethodName := ⟨RX7, "hunk", "(II)I"⟩
abbrev cX7_whyNot : ByteArray := prog_9_method_44_code
def yX7_whyNot : MethodName := ⟨RX7, "whyNot", "(IZ)I"⟩
abbrev cX7_linesOf : ByteArray := prog_9_method_45_code
def yX7_linesOf : MethodName := ⟨RX7, "linesOf", "(I)I"⟩
abbrev cX7_ofHunks : ByteArray := prog_9_method_46_code
def yX7_ofHunks : MethodName := ⟨RX7, "ofHunks", "(I)I"⟩
abbrev cX7_longestKept : ByteArray := prog_9_method_47_code
def yX7_longestKept : MethodName := ⟨RX7, "longestKept", "()I"⟩
abbrev cX7_count : ByteArray := prog_9_method_48_code
def yX7_count : MethodName := ⟨RX7, "count", "(I)I"⟩
abbrev cX7_alike : ByteArray := prog_9_method_49_code
def yX7_alike : MethodName := ⟨RX7, "alike", "()D"⟩
abbrev cX7_ifLaid : ByteArray := prog_9_method_50_code
def yX7_ifLaid : MethodName := ⟨RX7, "ifLaid", "(IZI)I"⟩
abbrev cX7_ifAround : ByteArray := prog_9_method_51_code
def yX7_ifAround : MethodName := ⟨RX7, "ifAround", "(I)I"⟩
abbrev cX7_least : ByteArray := prog_9_method_52_code
def yX7_least : MethodName := ⟨RX7, "least", "()I"⟩
abbrev cX7_undo : ByteArray := prog_9_method_53_code
def yX7_undo : MethodName := ⟨RX7, "undo", "()I"⟩
abbrev cX7_save : ByteArray := prog_9_method_54_code
def yX7_save : MethodName := ⟨RX7, "save", "()I"⟩
abbrev cX7_restore : ByteArray := prog_9_method_55_code
def yX7_restore : MethodName := ⟨RX7, "restore", "()I"⟩
def RJ11 : String := "java/lang/Character"
abbrev cJ11_isValidCodePoint_9a6ad : ByteArray := prog_10_method_11_code
def yJ11_isValidCodePoint_9a6ad : MethodName := ⟨RJ11, "isValidCodePoint", "(I)Z"⟩
abbrev cJ11_highSurrogate_5068e : ByteArray := prog_10_method_28_code
def yJ11_highSurrogate_5068e : MethodName := ⟨RJ11, "highSurrogate", "(I)C"⟩
abbrev cJ11_lowSurrogate_5068e : ByteArray := prog_10_method_29_code
def yJ11_lowSurrogate_5068e : MethodName := ⟨RJ11, "lowSurrogate", "(I)C"⟩
def RJ9 : String := "java/lang/Math"
abbrev cJ9_max_7cf53 : ByteArray := prog_11_method_65_code
def yJ9_max_7cf53 : MethodName := ⟨RJ9, "max", "(II)I"⟩
abbrev cJ9_min_7cf53 : ByteArray := prog_11_method_69_code
def yJ9_min_7cf53 : MethodName := ⟨RJ9, "min", "(II)I"⟩
def RJ0 : String := "java/lang/String"
abbrev cJ0_length_8abf5 : ByteArray := prog_12_method_54_code
def yJ0_length_8abf5 : MethodName := ⟨RJ0, "length", "()I"⟩
abbrev cJ0_indexOf_0f7a4 : ByteArray := prog_12_method_79_code
def yJ0_indexOf_0f7a4 : MethodName := ⟨RJ0, "indexOf", "(I)I"⟩
abbrev cJ0_indexOf_7cf53 : ByteArray := prog_12_method_80_code
def yJ0_indexOf_7cf53 : MethodName := ⟨RJ0, "indexOf", "(II)I"⟩
abbrev cJ0_coder_7d493 : ByteArray := prog_12_method_152_code
def yJ0_coder_7d493 : MethodName := ⟨RJ0, "coder", "()B"⟩
abbrev cJ0_isLatin1_aae02 : ByteArray := prog_12_method_154_code
def yJ0_isLatin1_aae02 : MethodName := ⟨RJ0, "isLatin1", "()Z"⟩
abbrev cJ0_checkBoundsBeginEnd_23922 : ByteArray := prog_12_method_158_code
def yJ0_checkBoundsBeginEnd_23922 : MethodName := ⟨RJ0, "checkBoundsBeginEnd", "(III)V"⟩
def RJ1 : String := "java/lang/StringLatin1"
abbrev cJ1_canEncode_9a6ad : ByteArray := prog_13_method_4_code
def yJ1_canEncode_9a6ad : MethodName := ⟨RJ1, "canEncode", "(I)Z"⟩
abbrev cJ1_indexOf_4cfef : ByteArray := prog_13_method_22_code
def yJ1_indexOf_4cfef : MethodName := ⟨RJ1, "indexOf", "([BIII)I"⟩
abbrev cJ1_indexOfChar_4cfef : ByteArray := prog_13_method_23_code
def yJ1_indexOfChar_4cfef : MethodName := ⟨RJ1, "indexOfChar", "([BIII)I"⟩
def RJ2 : String := "java/lang/StringUTF16"
abbrev cJ2_getChar_3b067 : ByteArray := prog_14_method_5_code
def yJ2_getChar_3b067 : MethodName := ⟨RJ2, "getChar", "([BI)C"⟩
abbrev cJ2_length_9d52b : ByteArray := prog_14_method_6_code
def yJ2_length_9d52b : MethodName := ⟨RJ2, "length", "([B)I"⟩
abbrev cJ2_indexOf_4cfef : ByteArray := prog_14_method_40_code
def yJ2_indexOf_4cfef : MethodName := ⟨RJ2, "indexOf", "([BIII)I"⟩
abbrev cJ2_indexOfChar_4cfef : ByteArray := prog_14_method_47_code
def yJ2_indexOfChar_4cfef : MethodName := ⟨RJ2, "indexOfChar", "([BIII)I"⟩
abbrev cJ2_indexOfCharUnsafe_4cfef : ByteArray := prog_14_method_48_code
def yJ2_indexOfCharUnsafe_4cfef : MethodName := ⟨RJ2, "indexOfCharUnsafe", "([BIII)I"⟩
abbrev cJ2_indexOfSupplementary_4cfef : ByteArray := prog_14_method_49_code
def yJ2_indexOfSupplementary_4cfef : MethodName := ⟨RJ2, "indexOfSupplementary", "([BIII)I"⟩
abbrev cJ2_checkBoundsBeginEnd_d044e : ByteArray := prog_14_method_93_code
def yJ2_checkBoundsBeginEnd_d044e : MethodName := ⟨RJ2, "checkBoundsBeginEnd", "(II[B)V"⟩
def RJ3 : String := "jdk/internal/util/Preconditions"
abbrev cJ3_checkFromToIndex_8c36e : ByteArray := prog_15_method_12_code
def yJ3_checkFromToIndex_8c36e : MethodName := ⟨RJ3, "checkFromToIndex", "(IIILjava/util/function/BiFunction;)I"⟩
def RL : String := "HunkSlidesLaw"
def yL_law : MethodName := ⟨RL, "law", "([I)Z"⟩
abbrev vwCl : List vw_C := [(RX0, TX0, 2), (RX1, TX1, 2), (RX2, TX2, 10), (RX3, TX3, 2), (RX4, TX4, 7), (RX5, TX5, 5), (RX6, TX6, 9), (RX7, TX7, 17)]
end
section
def NC : Nat := 87
def kdL : List Nat := [8, 5, 0, 6, 5, 0, 5, 0, 5, 0, 6, 5, 0, 5, 0, 5, 0, 3, 1, 6, 5, 0, 5, 0, 5, 0, 6, 5, 0, 5, 0, 5, 0, 6, 5, 0, 5, 0, 5, 0, 6, 5, 0, 5, 0, 5, 0, 5, 0, 2, 5, 0, 5, 0, 7, 5, 0, 5, 0, 5, 0, 5, 0, 5, 0, 4, 5, 0, 5, 0, 5, 0, 5, 0, 5, 0, 9, 0, 0, 0, 0, 0, 0, 0, 0, 0, 0]
def alL : List Nat := [0, 0, 40, 0, 0, 14, 0, 14, 0, 14, 0, 0, 14, 0, 14, 0, 14, 0, 4, 0, 0, 14, 0, 14, 0, 14, 0, 0, 14, 0, 14, 0, 14, 0, 0, 14, 0, 14, 0, 14, 0, 0, 14, 0, 14, 0, 14, 0, 14, 0, 0, 225, 0, 59, 0, 0, 28, 0, 28, 0, 28, 0, 28, 0, 28, 0, 0, 28, 0, 28, 0, 28, 0, 28, 0, 28, 0, 49, 196, 49, 40, 225, 28, 28, 60, 28, 28]
def rfL : List (List Nat) := [[1, 3, 10, 0, 17, 47, 49, 54, 65], [2, 0], [], [4, 6, 8, 0, 0, 0, 0], [5, 0], [], [7, 0], [], [9, 0], [], [11, 13, 15, 0, 0, 0, 0], [12, 0], [], [14, 0], [], [16, 0], [], [18, 0], [19, 26, 33, 40], [20, 22, 24, 0, 0, 0, 0], [21, 0], [], [23, 0], [], [25, 0], [], [27, 29, 31, 0, 0, 0, 0], [28, 0], [], [30, 0], [], [32, 0], [], [34, 36, 38, 0, 0, 0, 0], [35, 0], [], [37, 0], [], [39, 0], [], [41, 43, 45, 0, 0, 0, 0], [42, 0], [], [44, 0], [], [46, 0], [], [48, 0], [], [50, 52], [51, 0], [], [53, 0], [], [55, 57, 59, 61, 63], [56, 0], [], [58, 0], [], [60, 0], [], [62, 0], [], [64, 0], [], [66, 68, 70, 72, 74, 0, 0, 0, 0, 0], [67, 0], [], [69, 0], [], [71, 0], [], [73, 0], [], [75, 0], [], [77, 78, 0, 79, 0, 80, 0, 81, 0, 82, 83, 0, 84, 0, 85, 86, 0], [], [], [], [], [], [], [], [], [], []]
def fcL : List (List Nat) := [[2, 2], [2, 0], [2, 2, 2, 2, 2, 0, 0, 0, 0, 0], [2, 0], [2, 2, 2, 0, 0, 0, 0], [2, 2, 2, 2, 2], [2, 2, 2, 1, 2, 2, 2, 2, 2], [2, 2, 0, 2, 1, 2, 0, 2, 0, 2, 2, 0, 2, 0, 2, 2, 1]]
/-! ===== the mini machine: numbers as Int, cells by their places in the world behind the constructors ===== -/
abbrev MV : Type := Int ⊕ (Option Nat ⊕ UInt64)
abbrev MH : Type := Nat → Nat → Int
abbrev ML : Type := List (Nat × MV)
abbrev vI (z : Int) : MV := Sum.inl z
abbrev vR (i : Nat) : MV := Sum.inr (Sum.inl (some i))
abbrev vO (o : Option Nat) : MV := Sum.inr (Sum.inl o)
abbrev vD (d : UInt64) : MV := Sum.inr (Sum.inr d)
def inR (z : Int) : Prop := -2147483648 ≤ z ∧ z ≤ 2147483647
def wr (z : Int) : Int := Int.bmod z 4294967296
def up (h : MH) (i j : Nat) (v : Int) : MH := fun a b => if a = i ∧ b = j then v else h a b
def c2 : MV → Bool
  | .inr (.inr _) => true
  | _ => false
def tv (ad : Nat → Nat) : MV → Value
  | .inl z => .int (Int32.ofInt z)
  | .inr (.inl (some i)) => .ref (ad i)
  | .inr (.inl none) => .null
  | .inr (.inr d) => .double d
def okV : MV → Prop
  | .inl z => inR z
  | _ => True
def tl (ad : Nat → Nat) (q : Nat × MV) : Nat × Value := (q.1, tv ad q.2)
def kd (i : Nat) : Nat := kdL.getD i 1000
def al (i : Nat) : Nat := alL.getD i 0
def rf (i k : Nat) : Nat := (rfL.getD i []).getD k 0
def fc (ci k : Nat) : Nat := (fcL.getD ci []).getD k 3
def fn (ci : Nat) : Nat := (fcL.getD ci []).length
def lkL : ML → Nat → Option MV
  | [], _ => none
  | q :: l, i => bif q.1 == i then some q.2 else lkL l i
def sto (L : ML) (i : Nat) (v : MV) : ML := (i, v) :: L.filter (fun q => !(q.1 == i) && !(q.1 + 1 == i && c2 q.2))
def sto2 (L : ML) (i : Nat) (v : MV) : ML := (i, v) :: L.filter (fun q => !(q.1 == i) && (!(q.1 == i + 1) && !(q.1 + 1 == i && c2 q.2)))
def ilen : Instr → Nat
  | .bipush _ | .iload _ | .istore _ | .aload _ | .astore _ | .dload _ | .dstore _ | .ldc _ | .newarray _ => 2
  | .sipush _ | .iinc _ _ | .getfield _ | .putfield _ | .invokevirtual _ | .invokespecial _ | .invokestatic _ | .goto _ | .if_icmp _ _ | .ifCond _ _ | .ifnull _ | .ifnonnull _ | .new _ | .anewarray _ => 3
  | _ => 1
def plen : List Instr → Nat
  | [] => 0
  | I :: is => ilen I + plen is
def sits (cc : ByteArray) : Nat → List Instr → Bool
  | _, [] => true
  | pc, I :: is => decide (decode cc pc = .ok (I, ilen I)) && sits cc (pc + ilen I) is
abbrev MR : Type := Option ((ML × List MV × MH) × Prop)
/-- one instruction of a straight stretch; the Prop is what must hold for it -/
def mstep (fl : Nat → Option (Nat × Nat)) (nL : Nat) : Instr → ML → List MV → MH → MR
  | .iconst n, L, st, h => bif decide (-100 ≤ n) && decide (n ≤ 100) then some ((L, vI n :: st, h), True) else none
  | .bipush n, L, st, h => bif decide (-128 ≤ n) && decide (n ≤ 127) then some ((L, vI n :: st, h), True) else none
  | .sipush n, L, st, h => bif decide (-32768 ≤ n) && decide (n ≤ 32767) then some ((L, vI n :: st, h), True) else none
  | .iload_n k, L, st, h => match lkL L k.val with
    | some (.inl z) => some ((L, vI z :: st, h), True)
    | _ => none
  | .iload k, L, st, h => match lkL L k with
    | some (.inl z) => some ((L, vI z :: st, h), True)
    | _ => none
  | .aload_n k, L, st, h => match lkL L k.val with
    | some (.inr (.inl o)) => some ((L, vO o :: st, h), True)
    | _ => none
  | .aload k, L, st, h => match lkL L k with
    | some (.inr (.inl o)) => some ((L, vO o :: st, h), True)
    | _ => none
  | .dload k, L, st, h => match lkL L k with
    | some (.inr (.inr d)) => some ((L, vD d :: st, h), True)
    | _ => none
  | .istore_n k, L, .inl z :: st, h => bif decide (k.val < nL) then some ((sto L k.val (vI z), st, h), True) else none
  | .istore k, L, .inl z :: st, h => bif decide (k < nL) then some ((sto L k (vI z), st, h), True) else none
  | .astore_n k, L, .inr (.inl (some i)) :: st, h => bif decide (k.val < nL) then some ((sto L k.val (vR i), st, h), True) else none
  | .astore k, L, .inr (.inl (some i)) :: st, h => bif decide (k < nL) then some ((sto L k (vR i), st, h), True) else none
  | .dstore k, L, .inr (.inr d) :: st, h => bif decide (k + 1 < nL) then some ((sto2 L k (vD d), st, h), True) else none
  | .iinc k n, L, st, h => match lkL L k with
    | some (.inl z) => bif decide (k < nL) then some ((sto L k (vI (wr (z + n))), st, h), True) else none
    | _ => none
  | .iadd, L, .inl y :: .inl x :: st, h => some ((L, vI (wr (x + y)) :: st, h), True)
  | .isub, L, .inl y :: .inl x :: st, h => some ((L, vI (wr (x - y)) :: st, h), True)
  | .imul, L, .inl y :: .inl x :: st, h => some ((L, vI (wr (x * y)) :: st, h), True)
  | .ineg, L, .inl x :: st, h => some ((L, vI (wr (-x)) :: st, h), True)
  | .i2c, L, .inl x :: st, h => some ((L, vI (x % 65536) :: st, h), True)
  | .dup, L, .inl z :: st, h => some ((L, vI z :: vI z :: st, h), True)
  | .dup, L, .inr (.inl o) :: st, h => some ((L, vO o :: vO o :: st, h), True)
  | .dup2, L, .inl y :: .inr (.inl o) :: st, h => some ((L, vI y :: vO o :: vI y :: vO o :: st, h), True)
  | .pop, L, .inl _ :: st, h => some ((L, st, h), True)
  | .aconst_null, L, st, h => some ((L, vO none :: st, h), True)
  | .getfield idx, L, .inr (.inl (some i)) :: st, h => match fl idx with
    | some (ci, k) => bif fc ci k == 2 then some ((L, vR (rf i k) :: st, h), kd i = ci + 2) else some ((L, vI (h i k) :: st, h), kd i = ci + 2)
    | none => none
  | .putfield idx, L, .inl v :: .inr (.inl (some i)) :: st, h => match fl idx with
    | some (ci, k) => bif fc ci k == 0 then some ((L, st, up h i k v), kd i = ci + 2) else bif fc ci k == 1 then some ((L, st, up h i k v), kd i = ci + 2 ∧ (v = 0 ∨ v = 1)) else none
    | none => none
  | .iaload, L, .inl j :: .inr (.inl (some a)) :: st, h => some ((L, vI (h a j.toNat) :: st, h), kd a = 0 ∧ 0 ≤ j ∧ j < (al a : Int))
  | .iastore, L, .inl v :: .inl j :: .inr (.inl (some a)) :: st, h => some ((L, st, up h a j.toNat v), kd a = 0 ∧ 0 ≤ j ∧ j < (al a : Int))
  | .arraylength, L, .inr (.inl (some a)) :: st, h => some ((L, vI (al a : Int) :: st, h), kd a ≤ 1)
  | .aaload, L, .inl j :: .inr (.inl (some a)) :: st, h => some ((L, vR (rf a j.toNat) :: st, h), kd a = 1 ∧ 0 ≤ j ∧ j < (al a : Int))
  | .i2d, L, .inl x :: st, h => some ((L, vD (FP.i2d (Int32.ofInt x)) :: st, h), True)
  | .dconst n, L, st, h => bif n.val == 1 then some ((L, vD FP.dconst1 :: st, h), True) else none
  | .dmul, L, .inr (.inr y) :: .inr (.inr x) :: st, h => some ((L, vD (FP.dmul x y) :: st, h), vf_n64 (FP.dmul x y))
  | .ddiv, L, .inr (.inr y) :: .inr (.inr x) :: st, h => some ((L, vD (FP.ddiv x y) :: st, h), vf_n64 (FP.ddiv x y))
  | .dcmp op, L, .inr (.inr y) :: .inr (.inr x) :: st, h => some ((L, vI (Op.cmpValue (FP.dcmp x y) op).toInt :: st, h), True)
  | _, _, _, _ => none
def mrun (fl : Nat → Option (Nat × Nat)) (nL : Nat) : List Instr → ML → List MV → MH → MR
  | [], L, st, h => some ((L, st, h), True)
  | I :: is, L, st, h => match mstep fl nL I L st h with
    | none => none
    | some ((L1, st1, h1), P) => match mrun fl nL is L1 st1 h1 with
      | none => none
      | some (c, P') => some (c, P ∧ P')
end
section
def sgIdx : Nat := 223
/-! ===== Int32 against Int ===== -/
theorem ti {z : Int} (h : inR z) : (Int32.ofInt z).toInt = z := by
  unfold inR at h
  rw [Int32.toInt_ofInt]
  have : (Int32.size : Int) = 4294967296 := rfl
  first
    | (rw [this]; exact Int.bmod_eq_of_le (by omega) (by omega))
    | (exact Int.bmod_eq_of_le (by omega) (by omega))
theorem inR_wr (z : Int) : inR (wr z) := by
  unfold inR wr
  have h1 := @Int.le_bmod z 4294967296 (by omega)
  have h2 := @Int.bmod_lt z 4294967296 (by omega)
  omega
theorem wr_id {z : Int} (h : -2147483648 ≤ z ∧ z ≤ 2147483647) : wr z = z := by
  unfold wr
  exact Int.bmod_eq_of_le (by omega) (by omega)
theorem oi_wr (z : Int) : Int32.ofInt (wr z) = Int32.ofInt z := by
  apply Int32.toInt_inj.mp
  rw [ti (inR_wr z), Int32.toInt_ofInt]
  rfl
theorem inR_toInt (x : Int32) : inR x.toInt := by
  unfold inR
  have h1 := Int32.le_toInt x
  have h2 := Int32.toInt_lt x
  omega
theorem oi_toInt (x : Int32) : Int32.ofInt x.toInt = x := Int32.ofInt_toInt x
theorem oi_add (x y : Int) : Int32.ofInt x + Int32.ofInt y = Int32.ofInt (wr (x + y)) := by rw [oi_wr, Int32.ofInt_add]
theorem oi_sub (x y : Int) : Int32.ofInt x - Int32.ofInt y = Int32.ofInt (wr (x - y)) := by rw [oi_wr, Int32.ofInt_sub]
theorem oi_mul (x y : Int) : Int32.ofInt x * Int32.ofInt y = Int32.ofInt (wr (x * y)) := by rw [oi_wr, Int32.ofInt_mul]
theorem oi_neg (x : Int) : -Int32.ofInt x = Int32.ofInt (wr (-x)) := by rw [oi_wr, Int32.ofInt_neg]
theorem oi_eq {x y : Int} (hx : inR x) (hy : inR y) : Int32.ofInt x = Int32.ofInt y ↔ x = y :=
  ⟨fun h => by rw [← ti hx, ← ti hy, h], fun h => by rw [h]⟩
theorem oi_lt {x y : Int} (hx : inR x) (hy : inR y) : Int32.ofInt x < Int32.ofInt y ↔ x < y := by rw [Int32.lt_iff_toInt_lt, ti hx, ti hy]
theorem oi_le {x y : Int} (hx : inR x) (hy : inR y) : Int32.ofInt x ≤ Int32.ofInt y ↔ x ≤ y := by rw [Int32.le_iff_toInt_le, ti hx, ti hy]
theorem oi_nat (n : Nat) : Int32.ofInt (n : Int) = Int32.ofNat n := rfl
theorem oi_clamp {z : Int} (h0 : 0 ≤ z) (h1 : inR z) : (Int32.ofInt z).toNatClampNeg = z.toNat := by
  show (Int32.ofInt z).toInt.toNat = _
  rw [ti h1]
theorem oi_in {z : Int} {n : Nat} (h1 : inR z) (h : 0 ≤ z ∧ z < (n : Int)) : vp_in (Int32.ofInt z) n := by
  rw [vp_in_iff, ti h1]
  exact h
theorem inR_lit {n : Int} (h : -32768 ≤ n ∧ n ≤ 32767) : inR n := by unfold inR; omega
theorem oi_i2c {x : Int} (h : inR x) : ((Int32.ofInt x).toUInt32 % 65536).toInt32 = Int32.ofInt (x % 65536) := by
  apply Int32.toInt_inj.mp
  rw [pk_char, ti (by unfold inR; omega)]
  rw [nI_toInt (by omega)]
  have h2 : ((Int32.ofInt x).toBitVec.toNat : Int) = x % 4294967296 := by
    have h3 : (Int32.ofInt x).toBitVec.toInt = x := ti h
    have h4 := BitVec.toInt_eq_toNat_cond (Int32.ofInt x).toBitVec
    have h5 := (Int32.ofInt x).toBitVec.isLt
    rw [h3] at h4
    unfold inR at h
    split at h4 <;> omega
  omega
/-! ===== the world of cells, and one instruction of the mini machine against the machine ===== -/
def TB : List Cond := lw_tbl.filter goodWord
theorem TB_in {w : Cond} (h : w ∈ TB) : w ∈ lw_tbl := (List.mem_filter.mp h).1
theorem TB_good : GoodIn TB TB := fun w h => ⟨h, good_of_word (List.mem_filter.mp h).2⟩
def cellE (cI cS : ClassId) (ad : Nat → Nat) (h : MH) (i : Nat) : va_E :=
  if kd i = 0 then .inl (cI, al i, .inl (fun j => Int32.ofInt (h i j)))
  else if kd i = 1 then .inl (cS, al i, .inr (.inr (.inr (.inr (fun j => some (ad (rf i j)))))))
  else .inr (kd i - 2, (List.range (fn (kd i - 2))).map (fun k => if fc (kd i - 2) k = 2 then .ref (ad (rf i k)) else .int (Int32.ofInt (h i k))))
def wsOf (cI cS : ClassId) (ad : Nat → Nat) (h : MH) : va_W := (List.range NC).map (fun i => (ad i, cellE cI cS ad h i))
theorem kd_lt {i n : Nat} (h : kd i = n) (hn : n < 1000) : i < NC := by
  rcases Nat.lt_or_ge i NC with q | q
  · exact q
  · exfalso
    unfold kd at h
    rw [List.getD_eq_getElem?_getD, List.getElem?_eq_none (by exact q)] at h
    simp at h
    omega
theorem wsOf_at {cI cS : ClassId} {ad : Nat → Nat} {h : MH} {i : Nat} (hi : i < NC) : (wsOf cI cS ad h)[i]? = some (ad i, cellE cI cS ad h i) := by
  simp [wsOf, hi]
theorem up_ne {h : MH} {i k : Nat} {v : Int} {a : Nat} (ha : a ≠ i) : up h i k v a = h a := by
  funext b
  simp [up, ha]
theorem cellE_up {cI cS : ClassId} {ad : Nat → Nat} {h : MH} {i k : Nat} {v : Int} {a : Nat} (ha : a ≠ i) : cellE cI cS ad (up h i k v) a = cellE cI cS ad h a := by
  unfold cellE
  rw [up_ne ha]
theorem wsOf_up {cI cS : ClassId} {ad : Nat → Nat} {h : MH} {i k : Nat} {v : Int} : wsOf cI cS ad (up h i k v) = (wsOf cI cS ad h).set i (ad i, cellE cI cS ad (up h i k v) i) := by
  apply List.ext_getElem?
  intro j
  have hlen : (wsOf cI cS ad h).length = NC := by simp [wsOf]
  by_cases hj : j < NC
  · by_cases hij : j = i
    · subst hij
      rw [wsOf_at hj, List.getElem?_set_self (by rw [hlen]; exact hj)]
    · rw [List.getElem?_set_ne (Ne.symm hij), wsOf_at hj, wsOf_at hj, cellE_up hij]
  · rw [List.getElem?_eq_none (by simp [wsOf]; omega), List.getElem?_eq_none (by simp [wsOf]; omega)]
theorem cellE_i {cI cS : ClassId} {ad : Nat → Nat} {h : MH} {i : Nat} (hk : kd i = 0) : cellE cI cS ad h i = .inl (cI, al i, .inl (fun j => Int32.ofInt (h i j))) := by
  unfold cellE; rw [if_pos hk]
theorem cellE_s {cI cS : ClassId} {ad : Nat → Nat} {h : MH} {i : Nat} (hk : kd i = 1) : cellE cI cS ad h i = .inl (cS, al i, .inr (.inr (.inr (.inr (fun j => some (ad (rf i j))))))) := by
  unfold cellE; rw [if_neg (by omega), if_pos hk]
theorem cellE_o {cI cS : ClassId} {ad : Nat → Nat} {h : MH} {i ci : Nat} (hk : kd i = ci + 2) : cellE cI cS ad h i = .inr (ci, (List.range (fn ci)).map (fun k => if fc ci k = 2 then .ref (ad (rf i k)) else .int (Int32.ofInt (h i k)))) := by
  unfold cellE
  rw [if_neg (by omega), if_neg (by omega)]
  have : kd i - 2 = ci := by omega
  rw [this]
def sgTx : String := "abcdef.{}"
def EXT (ad : Nat → Nat) (A : Nat → Prop) (U : State) (H : Heap) : Prop := vk_R "HunkSlides" sgIdx sgTx (ad 101) U ∧ vk_S 1 [9] [[97, 98, 99, 100, 101, 102, 46, 123, 125]] (fun _ => ad 101) (fun _ => ad 102) A U H ∧ va_Z "java/lang/String" "COMPACT_STRINGS" "Z" (.int 1) A U H
abbrev tysOf (cI cS : ClassId) : List (ClassId × FieldType) := [(cI, .int), (cS, .object "HunkSlides$State")]
def wld (D : va_G) (cI cS : ClassId) (ad : Nat → Nat) (A : Nat → Prop) (h : MH) (H : Heap) : Prop := va_P D vwCl (wsOf cI cS ad h) H ∧ va_D A (wsOf cI cS ad h) ∧ ∀ i j, inR (h i j)
def CX (own : String) (cc : ByteArray) (nL : Nat) (ret : Option FieldType) (p : Program) (s : State) (m : MethodId) (args : Array Value) (meth : Method) (c : Code) (D : va_G) (cI cS : ClassId) (ad : Nat → Nat) (A : Nat → Prop) : Prop :=
  p.tables.exec = Jvm.exec ∧ c.code = cc ∧ c.maxLocals = nL ∧ meth.sig.returnType = ret ∧ s.vm.findClass own = some m.cls ∧ (∀ w ∈ TB, w.before args s = true) ∧ va_K D vwCl (tysOf cI cS) s ∧ meth.locks = false ∧ EXT ad A s s.heap
def FLD (own : String) (idx ci k : Nat) : Prop := ∃ (C : String) (T : u_T) (N : Nat) (ty : Nat → FieldType), vwCl[ci]? = some (C, T, N) ∧ k < N ∧ fn ci = N ∧ (T k).1 = C ∧ Cond.fieldLink own idx C (T k).2.1 (T k).2.2.1 ∈ TB ∧ (∀ w ∈ u_ws C T N, w ∈ TB) ∧
  (∀ k, k < N → parseFieldDescriptor (T k).2.2.1 = some (ty k)) ∧ (∀ a, a < N → ∀ b, b < N → a ≠ b → (T a).2.1 ≠ (T b).2.1) ∧ (fc ci k = 0 → ty k = .int) ∧ (fc ci k = 1 → ty k = .boolean) ∧ (fc ci k ≠ 2 → (T k).2.2.2 = false)
def flok (own : String) (fl : Nat → Option (Nat × Nat)) : Prop := ∀ idx ci k, fl idx = some (ci, k) → FLD own idx ci k
def WM (p : Program) (l : Launch) (e : Env) (R : Room) (s : State) (m : MethodId) (args : Array Value) (below : List Frame) (meth : Method) (c : Code) (cells slots : Nat) (Q : State → Prop) (D : va_G) (cI cS : ClassId) (ad : Nat → Nat) (A : Nat → Prop) (nL : Nat) (pc : Nat) (L : ML) (st : List MV) (h : MH) : Prop :=
  (∀ q ∈ L, okV q.2) → (∀ v ∈ st, okV v) → ∀ (H : Heap) (ls : Array Slot) (locs : List Loc), wld D cI cS ad A h H → va_S A s.heap H locs → lv_has ls nL (L.map (tl ad)) → W p l e R s m args below meth c H locs cells slots Q (F0 m pc ls (st.map (tv ad)))
theorem tv_cat (ad : Nat → Nat) (v : MV) : ((tv ad v).category == 2) = c2 v := by
  rcases v with z | (_ | i) | d <;> rfl
theorem tv_cat1 {ad : Nat → Nat} {v : MV} (h : c2 v = false) : (tv ad v).category = 1 := by
  rcases v with z | (_ | i) | d
  · rfl
  · rfl
  · rfl
  · cases h
theorem lk_at {ad : Nat → Nat} {ls : Array Slot} {nL : Nat} {v : MV} {i : Nat} : ∀ {L : ML}, lv_has ls nL (L.map (tl ad)) → lkL L i = some v → ls[i]? = some (.val (tv ad v)) := by
  intro L h hk
  have key : ∀ L : ML, lkL L i = some v → (i, v) ∈ L := by
    intro L
    induction L with
    | nil => intro h; cases h
    | cons q l ih =>
      intro h
      unfold lkL at h
      cases hq : q.1 == i with
      | true =>
        rw [hq] at h
        have hq2 : q.1 = i := by simpa using hq
        obtain ⟨a, b⟩ := q
        cases h
        cases hq2
        exact List.mem_cons_self
      | false =>
        rw [hq] at h
        exact List.mem_cons_of_mem _ (ih h)
  exact h.2.2 (tl ad (i, v)) (List.mem_map_of_mem (key L hk))
theorem lk_ok {v : MV} {i : Nat} : ∀ {L : ML}, (∀ q ∈ L, okV q.2) → lkL L i = some v → okV v := by
  intro L
  induction L with
  | nil => intro _ h; cases h
  | cons q l ih =>
    intro ho h
    unfold lkL at h
    cases hq : q.1 == i with
    | true =>
      rw [hq] at h
      cases h
      exact ho q List.mem_cons_self
    | false =>
      rw [hq] at h
      exact ih (fun q hq => ho q (List.mem_cons_of_mem _ hq)) h
theorem sto_map (ad : Nat → Nat) (L : ML) (i : Nat) (v : MV) : (i, tv ad v) :: (L.map (tl ad)).filter (fun q => !(q.1 == i) && !(q.1 + 1 == i && q.2.category == 2)) = (sto L i v).map (tl ad) := by
  unfold sto
  rw [List.map_cons, List.filter_map]
  congr 2
  apply List.filter_congr
  intro q _
  simp only [Function.comp, tl, tv_cat]
theorem sto2_map (ad : Nat → Nat) (L : ML) (i : Nat) (v : MV) : (i, tv ad v) :: (L.map (tl ad)).filter (fun q => !(q.1 == i) && (!(q.1 == i + 1) && !(q.1 + 1 == i && q.2.category == 2))) = (sto2 L i v).map (tl ad) := by
  unfold sto2
  rw [List.map_cons, List.filter_map]
  congr 2
  apply List.filter_congr
  intro q _
  simp only [Function.comp, tl, tv_cat]
theorem sto_ok {L : ML} {i : Nat} {v : MV} (ho : ∀ q ∈ L, okV q.2) (hv : okV v) : ∀ q ∈ sto L i v, okV q.2 := by
  intro q hq
  rcases List.mem_cons.mp hq with rfl | hq
  · exact hv
  · exact ho q (List.mem_filter.mp hq).1
theorem sto2_ok {L : ML} {i : Nat} {v : MV} (ho : ∀ q ∈ L, okV q.2) (hv : okV v) : ∀ q ∈ sto2 L i v, okV q.2 := by
  intro q hq
  rcases List.mem_cons.mp hq with rfl | hq
  · exact hv
  · exact ho q (List.mem_filter.mp hq).1
theorem okc {v : MV} {st : List MV} (hv : okV v) (h : ∀ v ∈ st, okV v) : ∀ w ∈ v :: st, okV w := List.forall_mem_cons.mpr ⟨hv, h⟩
theorem rng_up {h : MH} {i k : Nat} {v : Int} (hh : ∀ i j, inR (h i j)) (hv : inR v) : ∀ a b, inR (up h i k v a b) := by
  intro a b
  unfold up
  split
  · exact hv
  · exact hh a b
theorem al_le (i : Nat) : al i ≤ 1000 := by
  unfold al
  rw [List.getD_eq_getElem?_getD]
  cases hq : alL[i]? with
  | none => exact Nat.zero_le _
  | some x =>
    have : ∀ y ∈ alL, y ≤ 1000 := by decide
    exact this x (List.mem_of_getElem? hq)
end
section
section STEP
variable {p : Program} {l : Launch} {e : Env} {R : Room} {s : State} {m : MethodId} {args : Array Value} {below : List Frame} {meth : Method} {c : Code} {cells slots : Nat} {Q : State → Prop} {D : va_G} {cI cS : ClassId} {ad : Nat → Nat} {A : Nat → Prop} {nL : Nat}
variable {own : String} {cc : ByteArray} {ret : Option FieldType} {fl : Nat → Option (Nat × Nat)} {pc : Nat}
theorem wm_get (hX : CX own cc nL ret p s m args meth c D cI cS ad A) (hf : flok own fl) {idx ci k i : Nat} {L : ML} {st : List MV} {h : MH} (hfl : fl idx = some (ci, k)) (hki : kd i = ci + 2) (hd : decode cc pc = .ok (.getfield idx, 3))
    (hk : WM p l e R s m args below meth c cells slots Q D cI cS ad A nL (pc + 3) L ((if fc ci k = 2 then vR (rf i k) else vI (h i k)) :: st) h) : WM p l e R s m args below meth c cells slots Q D cI cS ad A nL pc L (vR i :: st) h := by
  obtain ⟨hx, hb, hml, hr, hown, hts, hK, hlocks, hE⟩ := hX
  obtain ⟨C, T, N, ty, g1, g2, g3, g4, g5, g6, g7, g8, g9, g10, g11⟩ := hf idx ci k hfl
  intro hoL hoS H ls locs hw hS hl
  have hi : i < NC := kd_lt hki (by
    have : ci < 8 := (List.getElem?_eq_some_iff.mp g1).1
    omega)
  refine va_get (ref := C) (D := D) (cl := vwCl) (tys := tysOf cI cS) (Ts := TB) hx hb hts g6 hown hK hw.1 i (by rw [wsOf_at hi, cellE_o hki]) g1 k g2 (hts _ g5) (fun _ q => by rw [g4] at q; exact q) (v := tv ad (if fc ci k = 2 then vR (rf i k) else vI (h i k))) ?_ hd ?_
  · rw [List.getElem?_map, List.getElem?_range (by omega)]
    show some (if fc ci k = 2 then _ else _) = _
    split <;> rfl
  · refine hk hoL ?_ H ls locs hw hS hl
    intro v hv
    rcases List.mem_cons.mp hv with rfl | hv
    · split
      · exact trivial
      · exact hw.2.2 i k
    · exact hoS v (List.mem_cons_of_mem _ hv)
theorem wm_put (hX : CX own cc nL ret p s m args meth c D cI cS ad A) (hf : flok own fl) {idx ci k i : Nat} {L : ML} {st : List MV} {h : MH} {v : Int} (hfl : fl idx = some (ci, k)) (hki : kd i = ci + 2) (hc : fc ci k = 0 ∨ (fc ci k = 1 ∧ (v = 0 ∨ v = 1))) (hd : decode cc pc = .ok (.putfield idx, 3))
    (hk : WM p l e R s m args below meth c cells slots Q D cI cS ad A nL (pc + 3) L st (up h i k v)) : WM p l e R s m args below meth c cells slots Q D cI cS ad A nL pc L (vI v :: vR i :: st) h := by
  obtain ⟨hx, hb, hml, hr, hown, hts, hK, hlocks, hE⟩ := hX
  obtain ⟨C, T, N, ty, g1, g2, g3, g4, g5, g6, g7, g8, g9, g10, g11⟩ := hf idx ci k hfl
  intro hoL hoS H ls locs hw hS hl
  have hi : i < NC := kd_lt hki (by
    have : ci < 8 := (List.getElem?_eq_some_iff.mp g1).1
    omega)
  have hv0 : inR v := hoS (vI v) List.mem_cons_self
  have hn2 : fc ci k ≠ 2 := by omega
  have hnar : narrow (ty k) (.int (Int32.ofInt v)) = .int (Int32.ofInt v) ∧ fits (ty k) (.int (Int32.ofInt v)) = true := by
    rcases hc with hc | ⟨hc, rfl | rfl⟩
    · rw [g9 hc]; exact ⟨rfl, rfl⟩
    · rw [g10 hc]; exact ⟨by decide, by decide⟩
    · rw [g10 hc]; exact ⟨by decide, by decide⟩
  refine va_put (ref := C) (D := D) (cl := vwCl) (tys := tysOf cI cS) (Ts := TB) (v := .int (Int32.ofInt v)) (ty := ty k) hx hb hts g6 ty g7 g8 hown hK hw.1 hw.2.1 hS i (by rw [wsOf_at hi, cellE_o hki]) g1 k g2 (hts _ g5) (fun _ q => by rw [g4] at q; exact q) (g11 hn2) (g7 k g2) hnar.1 hnar.2 (by simp; omega) hd ?_
  intro H1 locs1 hP1 hD1 hS1
  have hset : (wsOf cI cS ad h).set i (ad i, .inr (ci, ((List.range (fn ci)).map (fun k => if fc ci k = 2 then Value.ref (ad (rf i k)) else .int (Int32.ofInt (h i k)))).set k (.int (Int32.ofInt v)))) = wsOf cI cS ad (up h i k v) := by
    rw [wsOf_up]
    congr 2
    rw [cellE_o hki]
    congr 2
    apply List.ext_getElem?
    intro j
    by_cases hj : j < fn ci
    · by_cases hjk : j = k
      · subst hjk
        rw [List.getElem?_set_self (by simp; omega), List.getElem?_map, List.getElem?_range hj]
        show _ = some (if fc ci j = 2 then _ else _)
        rw [if_neg hn2]
        simp [up]
      · rw [List.getElem?_set_ne (Ne.symm hjk), List.getElem?_map, List.getElem?_map, List.getElem?_range hj]
        simp [up, hjk]
    · rw [List.getElem?_eq_none (by simp; omega), List.getElem?_eq_none (by simp; omega)]
  rw [hset] at hP1 hD1
  exact hk hoL (fun w hw => hoS w (List.mem_cons_of_mem _ (List.mem_cons_of_mem _ hw))) H1 ls locs1 ⟨hP1, hD1, rng_up hw.2.2 hv0⟩ hS1 hl
theorem wm_iald (hX : CX own cc nL ret p s m args meth c D cI cS ad A) {a : Nat} {j : Int} {L : ML} {st : List MV} {h : MH} (hka : kd a = 0) (hj : 0 ≤ j ∧ j < (al a : Int)) (hd : decode cc pc = .ok (.iaload, 1))
    (hk : WM p l e R s m args below meth c cells slots Q D cI cS ad A nL (pc + 1) L (vI (h a j.toNat) :: st) h) : WM p l e R s m args below meth c cells slots Q D cI cS ad A nL pc L (vI j :: vR a :: st) h := by
  obtain ⟨hx, hb, hml, hr, hown, hts, hK, hlocks, hE⟩ := hX
  intro hoL hoS H ls locs hw hS hl
  have hi : a < NC := kd_lt hka (by omega)
  have hj0 : inR j := hoS (vI j) List.mem_cons_self
  refine va_iald (D := D) (cl := vwCl) (tys := tysOf cI cS) hx hb hK hw.1 a 0 (by rw [wsOf_at hi, cellE_i hka]) rfl (oi_in hj0 hj) hd ?_
  rw [oi_clamp hj.1 hj0]
  exact hk hoL (okc (v := vI (h a j.toNat)) (hw.2.2 _ _) (fun w hw => hoS w (List.mem_cons_of_mem _ (List.mem_cons_of_mem _ hw)))) H ls locs hw hS hl
theorem wm_iast (hX : CX own cc nL ret p s m args meth c D cI cS ad A) {a : Nat} {j v : Int} {L : ML} {st : List MV} {h : MH} (hka : kd a = 0) (hj : 0 ≤ j ∧ j < (al a : Int)) (hd : decode cc pc = .ok (.iastore, 1))
    (hk : WM p l e R s m args below meth c cells slots Q D cI cS ad A nL (pc + 1) L st (up h a j.toNat v)) : WM p l e R s m args below meth c cells slots Q D cI cS ad A nL pc L (vI v :: vI j :: vR a :: st) h := by
  obtain ⟨hx, hb, hml, hr, hown, hts, hK, hlocks, hE⟩ := hX
  intro hoL hoS H ls locs hw hS hl
  have hi : a < NC := kd_lt hka (by omega)
  have hv0 : inR v := hoS (vI v) List.mem_cons_self
  have hj0 : inR j := hoS (vI j) (List.mem_cons_of_mem _ List.mem_cons_self)
  refine va_iast (D := D) (cl := vwCl) (tys := tysOf cI cS) hx hb hK hw.1 hw.2.1 hS a 0 (by rw [wsOf_at hi, cellE_i hka]) rfl (oi_in hj0 hj) hd ?_
  intro H1 locs1 hP1 hD1 hS1
  rw [oi_clamp hj.1 hj0] at hP1 hD1
  have hset : (wsOf cI cS ad h).set a (ad a, .inl (cI, al a, .inl (upd (fun j => Int32.ofInt (h a j)) j.toNat (Int32.ofInt v)))) = wsOf cI cS ad (up h a j.toNat v) := by
    rw [wsOf_up]
    congr 2
    rw [cellE_i hka]
    congr 4
    funext b
    unfold upd up
    by_cases hbj : b = j.toNat
    · simp [hbj]
    · simp [hbj]
  rw [hset] at hP1 hD1
  exact hk hoL (fun w hw => hoS w (List.mem_cons_of_mem _ (List.mem_cons_of_mem _ (List.mem_cons_of_mem _ hw)))) H1 ls locs1 ⟨hP1, hD1, rng_up hw.2.2 hv0⟩ hS1 hl
theorem wm_alen (hX : CX own cc nL ret p s m args meth c D cI cS ad A) {a : Nat} {L : ML} {st : List MV} {h : MH} (hka : kd a ≤ 1) (hd : decode cc pc = .ok (.arraylength, 1))
    (hk : WM p l e R s m args below meth c cells slots Q D cI cS ad A nL (pc + 1) L (vI (al a : Int) :: st) h) : WM p l e R s m args below meth c cells slots Q D cI cS ad A nL pc L (vR a :: st) h := by
  obtain ⟨hx, hb, hml, hr, hown, hts, hK, hlocks, hE⟩ := hX
  intro hoL hoS H ls locs hw hS hl
  have hi : a < NC := kd_lt (n := kd a) rfl (by omega)
  have hol : okV (vI (al a : Int)) := by
    have := al_le a
    show inR _
    unfold inR
    omega
  rcases (show kd a = 0 ∨ kd a = 1 by omega) with hk0 | hk0
  · refine va_alen (D := D) (cl := vwCl) (tys := tysOf cI cS) hx hb hK hw.1 a 0 (by rw [wsOf_at hi, cellE_i hk0]) rfl (v := Int32.ofInt (al a : Int)) rfl hd ?_
    exact hk hoL (okc hol (fun w hw => hoS w (List.mem_cons_of_mem _ hw))) H ls locs hw hS hl
  · refine va_alen (D := D) (cl := vwCl) (tys := tysOf cI cS) hx hb hK hw.1 a 1 (by rw [wsOf_at hi, cellE_s hk0]) rfl (v := Int32.ofInt (al a : Int)) rfl hd ?_
    exact hk hoL (okc hol (fun w hw => hoS w (List.mem_cons_of_mem _ hw))) H ls locs hw hS hl
theorem wm_aald (hX : CX own cc nL ret p s m args meth c D cI cS ad A) {a : Nat} {j : Int} {L : ML} {st : List MV} {h : MH} (hka : kd a = 1) (hj : 0 ≤ j ∧ j < (al a : Int)) (hd : decode cc pc = .ok (.aaload, 1))
    (hk : WM p l e R s m args below meth c cells slots Q D cI cS ad A nL (pc + 1) L (vR (rf a j.toNat) :: st) h) : WM p l e R s m args below meth c cells slots Q D cI cS ad A nL pc L (vI j :: vR a :: st) h := by
  obtain ⟨hx, hb, hml, hr, hown, hts, hK, hlocks, hE⟩ := hX
  intro hoL hoS H ls locs hw hS hl
  have hi : a < NC := kd_lt hka (by omega)
  have hj0 : inR j := hoS (vI j) List.mem_cons_self
  refine va_aldq (D := D) (cl := vwCl) (tys := tysOf cI cS) hx hb hK hw.1 a 1 (by rw [wsOf_at hi, cellE_s hka]) rfl (oi_in hj0 hj) hd ?_
  rw [oi_clamp hj.1 hj0]
  exact hk hoL (okc (v := vR (rf a j.toNat)) trivial (fun w hw => hoS w (List.mem_cons_of_mem _ (List.mem_cons_of_mem _ hw)))) H ls locs hw hS hl
theorem step_ok (hX : CX own cc nL ret p s m args meth c D cI cS ad A) (hf : flok own fl) {I : Instr} {L L' : ML} {st st' : List MV} {h h' : MH} {P : Prop} (hd : decode cc pc = .ok (I, ilen I)) (hs : mstep fl nL I L st h = some ((L', st', h'), P)) (hP : P)
    (hk : WM p l e R s m args below meth c cells slots Q D cI cS ad A nL (pc + ilen I) L' st' h') : WM p l e R s m args below meth c cells slots Q D cI cS ad A nL pc L st h := by
  have hX0 := hX
  obtain ⟨hx, hb, hml, hr, hown, hts, hK, hlocks, hE⟩ := hX
  unfold mstep at hs
  split at hs
  -- iconst
  · rename_i n
    cases hc : (decide (-100 ≤ n) && decide (n ≤ 100)) with
    | false => rw [hc] at hs; cases hs
    | true =>
      rw [hc] at hs; cases hs
      simp only [Bool.and_eq_true, decide_eq_true_eq] at hc
      intro hoL hoS H ls locs hw hS hl
      exact lv_iconst hx hb hd rfl (hk hoL (okc (v := vI n) (inR_lit (by omega)) hoS) H ls locs hw hS hl)
  · rename_i n
    cases hc : (decide (-128 ≤ n) && decide (n ≤ 127)) with
    | false => rw [hc] at hs; cases hs
    | true =>
      rw [hc] at hs; cases hs
      simp only [Bool.and_eq_true, decide_eq_true_eq] at hc
      intro hoL hoS H ls locs hw hS hl
      refine lv_bipush hx hb hd (v := Int32.ofInt n) ?_ (hk hoL (okc (v := vI n) (inR_lit (by omega)) hoS) H ls locs hw hS hl)
      apply Int32.toInt_inj.mp
      rw [ti (inR_lit (by omega)), Int8.toInt_toInt32, Int8.toInt_ofInt]
      exact Int.bmod_eq_of_le (by show -((256 : Int) / 2) ≤ n; omega) (by show n < ((256 : Int) + 1) / 2; omega)
  · rename_i n
    cases hc : (decide (-32768 ≤ n) && decide (n ≤ 32767)) with
    | false => rw [hc] at hs; cases hs
    | true =>
      rw [hc] at hs; cases hs
      simp only [Bool.and_eq_true, decide_eq_true_eq] at hc
      intro hoL hoS H ls locs hw hS hl
      refine lv_sipush hx hb hd (v := Int32.ofInt n) ?_ (hk hoL (okc (v := vI n) (inR_lit (by omega)) hoS) H ls locs hw hS hl)
      apply Int32.toInt_inj.mp
      rw [ti (inR_lit (by omega)), Int16.toInt_toInt32, Int16.toInt_ofInt]
      exact Int.bmod_eq_of_le (by show -((65536 : Int) / 2) ≤ n; omega) (by show n < ((65536 : Int) + 1) / 2; omega)
  -- loads
  · rename_i k
    split at hs
    · rename_i z hz; cases hs
      intro hoL hoS H ls locs hw hS hl
      exact lv_iload_n hx hb hd rfl (lk_at hl hz) (hk hoL (okc (v := vI z) (lk_ok hoL hz) hoS) H ls locs hw hS hl)
    · cases hs
  · rename_i k
    split at hs
    · rename_i z hz; cases hs
      intro hoL hoS H ls locs hw hS hl
      exact lv_iload hx hb hd (lk_at hl hz) (hk hoL (okc (v := vI z) (lk_ok hoL hz) hoS) H ls locs hw hS hl)
    · cases hs
  · rename_i k
    split at hs
    · rename_i o hz; cases hs
      intro hoL hoS H ls locs hw hS hl
      cases o with
      | none => exact lv_aload_nN hx hb hd rfl (lk_at hl hz) (hk hoL (okc (v := vO none) trivial hoS) H ls locs hw hS hl)
      | some i => exact lv_aload_n hx hb hd rfl (lk_at hl hz) (hk hoL (okc (v := vO (some i)) trivial hoS) H ls locs hw hS hl)
    · cases hs
  · rename_i k
    split at hs
    · rename_i o hz; cases hs
      intro hoL hoS H ls locs hw hS hl
      cases o with
      | none => exact lv_aloadN hx hb hd (lk_at hl hz) (hk hoL (okc (v := vO none) trivial hoS) H ls locs hw hS hl)
      | some i => exact lv_aload hx hb hd (lk_at hl hz) (hk hoL (okc (v := vO (some i)) trivial hoS) H ls locs hw hS hl)
    · cases hs
  · rename_i k
    split at hs
    · rename_i z hz; cases hs
      intro hoL hoS H ls locs hw hS hl
      exact lv_dload hx hb hd (lk_at hl hz) (hk hoL (okc (v := vD z) trivial hoS) H ls locs hw hS hl)
    · cases hs
  -- stores
  · rename_i k z st
    cases hc : decide (k.val < nL) with
    | false => rw [hc] at hs; cases hs
    | true =>
      rw [hc] at hs; cases hs
      intro hoL hoS H ls locs hw hS hl
      exact lv_istore_n hx hb hd rfl hl (of_decide_eq_true hc) (sto_map ad L k.val (vI z)) (fun ls' hl' => hk (sto_ok hoL (hoS _ List.mem_cons_self)) (fun w hw => hoS w (List.mem_cons_of_mem _ hw)) H ls' locs hw hS hl')
  · rename_i k z st
    cases hc : decide (k < nL) with
    | false => rw [hc] at hs; cases hs
    | true =>
      rw [hc] at hs; cases hs
      intro hoL hoS H ls locs hw hS hl
      exact lv_istore hx hb hd hl (of_decide_eq_true hc) (sto_map ad L k (vI z)) (fun ls' hl' => hk (sto_ok hoL (hoS _ List.mem_cons_self)) (fun w hw => hoS w (List.mem_cons_of_mem _ hw)) H ls' locs hw hS hl')
  · rename_i k z st
    cases hc : decide (k.val < nL) with
    | false => rw [hc] at hs; cases hs
    | true =>
      rw [hc] at hs; cases hs
      intro hoL hoS H ls locs hw hS hl
      exact lv_astore_n hx hb hd rfl hl (of_decide_eq_true hc) (sto_map ad L k.val (vR z)) (fun ls' hl' => hk (sto_ok hoL (hoS _ List.mem_cons_self)) (fun w hw => hoS w (List.mem_cons_of_mem _ hw)) H ls' locs hw hS hl')
  · rename_i k z st
    cases hc : decide (k < nL) with
    | false => rw [hc] at hs; cases hs
    | true =>
      rw [hc] at hs; cases hs
      intro hoL hoS H ls locs hw hS hl
      exact lv_astore hx hb hd hl (of_decide_eq_true hc) (sto_map ad L k (vR z)) (fun ls' hl' => hk (sto_ok hoL (hoS _ List.mem_cons_self)) (fun w hw => hoS w (List.mem_cons_of_mem _ hw)) H ls' locs hw hS hl')
  · rename_i k z st
    cases hc : decide (k + 1 < nL) with
    | false => rw [hc] at hs; cases hs
    | true =>
      rw [hc] at hs; cases hs
      intro hoL hoS H ls locs hw hS hl
      exact lv_dstore hx hb hd hl (of_decide_eq_true hc) (sto2_map ad L k (vD z)) (fun ls' hl' => hk (sto2_ok hoL (hoS _ List.mem_cons_self)) (fun w hw => hoS w (List.mem_cons_of_mem _ hw)) H ls' locs hw hS hl')
  -- iinc
  · rename_i k n
    split at hs
    · rename_i z hz
      cases hc : decide (k < nL) with
      | false => rw [hc] at hs; cases hs
      | true =>
        rw [hc] at hs; cases hs
        intro hoL hoS H ls locs hw hS hl
        obtain ⟨j, hj⟩ : ∃ j, (L.map (tl ad))[j]? = some (k, Value.int (Int32.ofInt z)) := by
          have key : ∀ L : ML, lkL L k = some (.inl z) → (k, vI z) ∈ L := by
            intro L
            induction L with
            | nil => intro h; cases h
            | cons q l ih =>
              intro h
              unfold lkL at h
              cases hq : q.1 == k with
              | true =>
                rw [hq] at h
                have hq2 : q.1 = k := by simpa using hq
                obtain ⟨a, b⟩ := q
                cases h
                cases hq2
                exact List.mem_cons_self
              | false =>
                rw [hq] at h
                exact List.mem_cons_of_mem _ (ih h)
          exact List.getElem?_of_mem (List.mem_map_of_mem (f := tl ad) (key L hz))
        have hz0 : inR z := lk_ok hoL hz
        exact lv_iinc hx hb hd hl hj (v := Int32.ofInt (wr (z + n))) (by rw [oi_wr, Int32.ofInt_add]) (of_decide_eq_true hc) (sto_map ad L k (vI (wr (z + n)))) (fun ls' hl' => hk (sto_ok hoL (inR_wr _)) hoS H ls' locs hw hS hl')
    · cases hs
  -- arithmetic
  · rename_i y x st
    cases hs
    intro hoL hoS H ls locs hw hS hl
    have k9 := hk hoL (okc (v := vI (wr (x + y))) (inR_wr _) (fun w hw => hoS w (List.mem_cons_of_mem _ (List.mem_cons_of_mem _ hw)))) H ls locs hw hS hl
    exact lv_iadd hx hb hd (by rw [oi_add]; exact k9)
  · rename_i y x st
    cases hs
    intro hoL hoS H ls locs hw hS hl
    have k9 := hk hoL (okc (v := vI (wr (x - y))) (inR_wr _) (fun w hw => hoS w (List.mem_cons_of_mem _ (List.mem_cons_of_mem _ hw)))) H ls locs hw hS hl
    exact lv_isub hx hb hd (by rw [oi_sub]; exact k9)
  · rename_i y x st
    cases hs
    intro hoL hoS H ls locs hw hS hl
    have k9 := hk hoL (okc (v := vI (wr (x * y))) (inR_wr _) (fun w hw => hoS w (List.mem_cons_of_mem _ (List.mem_cons_of_mem _ hw)))) H ls locs hw hS hl
    exact lv_imul hx hb hd (by rw [oi_mul]; exact k9)
  · rename_i x st
    cases hs
    intro hoL hoS H ls locs hw hS hl
    have k9 := hk hoL (okc (v := vI (wr (-x))) (inR_wr _) (fun w hw => hoS w (List.mem_cons_of_mem _ hw))) H ls locs hw hS hl
    exact lv_ineg hx hb hd (by rw [oi_neg]; exact k9)
  · rename_i x st
    cases hs
    intro hoL hoS H ls locs hw hS hl
    have hx0 : inR x := hoS _ List.mem_cons_self
    exact lv_i2c hx hb hd (oi_i2c hx0) (hk hoL (okc (v := vI (x % 65536)) (by show inR _; unfold inR; omega) (fun w hw => hoS w (List.mem_cons_of_mem _ hw))) H ls locs hw hS hl)
  -- stack
  · rename_i z st
    cases hs
    intro hoL hoS H ls locs hw hS hl
    exact lv_dup hx hb hd rfl (hk hoL (okc (v := vI z) (hoS _ List.mem_cons_self) hoS) H ls locs hw hS hl)
  · rename_i o st
    cases hs
    intro hoL hoS H ls locs hw hS hl
    exact lv_dup hx hb hd (tv_cat1 (v := vO o) rfl) (hk hoL (okc (v := vO o) trivial hoS) H ls locs hw hS hl)
  · rename_i y o st
    cases hs
    intro hoL hoS H ls locs hw hS hl
    exact lv_dup2_11 hx hb hd rfl (tv_cat1 (v := vO o) rfl) (hk hoL (okc (v := vI y) (hoS _ List.mem_cons_self) (okc (v := vO o) trivial hoS)) H ls locs hw hS hl)
  · rename_i z st
    cases hs
    intro hoL hoS H ls locs hw hS hl
    exact lv_pop hx hb hd rfl (hk hoL (fun w hw => hoS w (List.mem_cons_of_mem _ hw)) H ls locs hw hS hl)
  · skip
    cases hs
    intro hoL hoS H ls locs hw hS hl
    exact lv_null hx hb hd (hk hoL (okc (v := vO none) trivial hoS) H ls locs hw hS hl)
  -- fields, arrays
  · rename_i idx i st
    split at hs
    · rename_i ci k hfl
      cases hc : (fc ci k == 2) with
      | true =>
        rw [hc] at hs; cases hs
        refine wm_get hX0 hf hfl hP hd ?_
        rw [if_pos (by simpa using hc)]
        exact hk
      | false =>
        rw [hc] at hs; cases hs
        refine wm_get hX0 hf hfl hP hd ?_
        rw [if_neg (by simpa using hc)]
        exact hk
    · cases hs
  · rename_i idx v i st
    split at hs
    · rename_i ci k hfl
      cases hc : (fc ci k == 0) with
      | true =>
        rw [hc] at hs; cases hs
        exact wm_put hX0 hf hfl hP (Or.inl (by simpa using hc)) hd hk
      | false =>
        rw [hc] at hs
        cases hc1 : (fc ci k == 1) with
        | true =>
          rw [hc1] at hs; cases hs
          exact wm_put hX0 hf hfl hP.1 (Or.inr ⟨by simpa using hc1, hP.2⟩) hd hk
        | false => rw [hc1] at hs; cases hs
    · cases hs
  · rename_i j a st
    cases hs
    exact wm_iald hX0 hP.1 hP.2 hd hk
  · rename_i v j a st
    cases hs
    exact wm_iast hX0 hP.1 hP.2 hd hk
  · rename_i a st
    cases hs
    exact wm_alen hX0 hP hd hk
  · rename_i j a st
    cases hs
    exact wm_aald hX0 hP.1 hP.2 hd hk
  -- doubles
  · rename_i x st
    cases hs
    intro hoL hoS H ls locs hw hS hl
    exact lv_i2d hx hb hd (hk hoL (okc (v := vD _) trivial (fun w hw => hoS w (List.mem_cons_of_mem _ hw))) H ls locs hw hS hl)
  · rename_i n
    cases hc : (n.val == 1) with
    | false => rw [hc] at hs; cases hs
    | true =>
      rw [hc] at hs; cases hs
      have hn : n = 1 := by
        apply Fin.ext
        simpa using hc
      subst hn
      intro hoL hoS H ls locs hw hS hl
      exact lv_dconst1 hx hb hd (hk hoL (okc (v := vD _) trivial hoS) H ls locs hw hS hl)
  · rename_i y x st
    cases hs
    intro hoL hoS H ls locs hw hS hl
    exact lv_dmul hx hb hd hP (hk hoL (okc (v := vD _) trivial (fun w hw => hoS w (List.mem_cons_of_mem _ (List.mem_cons_of_mem _ hw)))) H ls locs hw hS hl)
  · rename_i y x st
    cases hs
    intro hoL hoS H ls locs hw hS hl
    exact lv_ddiv hx hb hd hP (hk hoL (okc (v := vD _) trivial (fun w hw => hoS w (List.mem_cons_of_mem _ (List.mem_cons_of_mem _ hw)))) H ls locs hw hS hl)
  · rename_i op y x st
    cases hs
    intro hoL hoS H ls locs hw hS hl
    have k9 := hk hoL (okc (v := vI (Op.cmpValue (FP.dcmp x y) op).toInt) (inR_toInt _) (fun w hw => hoS w (List.mem_cons_of_mem _ (List.mem_cons_of_mem _ hw)))) H ls locs hw hS hl
    refine lv_dcmp hx hb hd ?_
    simp only [List.map_cons, tv, oi_toInt] at k9
    exact k9
  · cases hs
theorem run_ok (hX : CX own cc nL ret p s m args meth c D cI cS ad A) (hf : flok own fl) : ∀ (is : List Instr) (pc : Nat) (L L' : ML) (st st' : List MV) (h h' : MH) (P : Prop), sits cc pc is = true → mrun fl nL is L st h = some ((L', st', h'), P) → P →
    WM p l e R s m args below meth c cells slots Q D cI cS ad A nL (pc + plen is) L' st' h' → WM p l e R s m args below meth c cells slots Q D cI cS ad A nL pc L st h := by
  intro is
  induction is with
  | nil =>
    intro pc L L' st st' h h' P hs hr hP hk
    cases hr
    exact hk
  | cons I is ih =>
    intro pc L L' st st' h h' P hs hr hP hk
    simp only [sits, Bool.and_eq_true, decide_eq_true_eq] at hs
    unfold mrun at hr
    split at hr
    · cases hr
    · rename_i L1 st1 h1 P1 he
      split at hr
      · cases hr
      · rename_i c9 P2 he2
        cases hr
        refine step_ok hX hf hs.1 he hP.1 ?_
        refine ih _ _ _ _ _ _ _ _ hs.2 he2 hP.2 ?_
        rw [show pc + ilen I + plen is = pc + plen (I :: is) by simp only [plen]; omega]
        exact hk
end STEP
end
section
/-! ===== contracts over the mini machine, and calls ===== -/
def rmd (d : Nat) : Room := { frames := d, cells := 0, slots := 0, locals := 40 * d }
def inA (ad : Nat → Nat) : Nat → Prop := fun q => ∃ i, i < NC ∧ q = ad i
def PM (D : va_G) (cI cS : ClassId) (ad : Nat → Nat) (h : MH) (U : State) : Prop := wld D cI cS ad (inA ad) h U.heap ∧ va_K D vwCl (tysOf cI cS) U ∧ EXT ad (inA ad) U U.heap
def QM (D : va_G) (cI cS : ClassId) (ad : Nat → Nat) (r : Option MV) (h' : MH) : Array Value → State → Outcome → State → Prop := fun _ st oc t => oc = .returned (r.map (tv ad)) ∧ (∀ v, r = some v → okV v) ∧ wld D cI cS ad (inA ad) h' t.heap ∧ va_F (inA ad) st t
/-- a method's contract: from the cells h with the arguments vs it answers r, the cells are h' then -/
def CON (d : Nat) (y : MethodName) (bytes : ByteArray) (maxL : Nat) (ret : Option FieldType) (vs : List MV) (h : MH) (r : Option MV) (h' : MH) : Prop :=
  ∀ (l : Launch) (D : va_G) (cI cS : ClassId) (ad : Nat → Nat), (∀ v ∈ vs, okV v) → Met l y (Cond.code y bytes maxL ret :: TB) (rmd d) (va_Pc (vs.map (tv ad)) (PM D cI cS ad h)) (QM D cI cS ad r h') 0 0 (inA ad)
def MY (y : MethodName) (bytes : ByteArray) (maxL : Nat) (ret : Option FieldType) (n : Nat) : Prop :=
  Cond.code y bytes maxL ret ∈ TB ∧ Cond.initialized y.cls ∈ TB ∧ (y.cls ≠ "java/lang/invoke/MethodHandle" ∧ y.cls ≠ "java/lang/invoke/VarHandle" ∧ (parseMethodDescriptor y.desc).map (fun d => d.parameters.length) = some n) ∧ maxL ≤ 21
def VW (own : String) (idx : Nat) (y : MethodName) : Prop := Cond.methodLink own idx y ∈ TB ∧ Cond.instanceMethod y ∈ TB ∧ Cond.selects y.cls y y ∈ TB
def SW (own : String) (idx : Nat) (y : MethodName) : Prop := Cond.methodLink own idx y ∈ TB ∧ Cond.static y ∈ TB
def RMX (d : Nat) (R : Room) (cells slots : Nat) : Prop := d ≤ R.frames ∧ 40 * d ≤ R.locals ∧ cells ≤ R.cells ∧ slots ≤ R.slots
theorem good_all {ws : List Cond} (h : ∀ w ∈ ws, w ∈ TB) : GoodIn TB ws := fun w hw => TB_good w (h w hw)
theorem EXT_down {ad : Nat → Nat} {A B : Nat → Prop} {s U : State} {H : Heap} {locs : List Loc} (hE : EXT ad A s s.heap) (hS : va_S A s.heap H locs) (hW : s.WarmedH U.vm) (hAB : ∀ q, B q → A q) : EXT ad B U H :=
  ⟨hE.1.warm hW, ((hE.2.1.moved hW.alike).kept hS.2.1).narrow hAB, ((hE.2.2.moved hW.alike).kept hS.2.1).narrow hAB⟩
theorem PM_blind {D : va_G} {cI cS : ClassId} {ad : Nat → Nat} {vs : List Value} {h : MH} : FrameBlind (va_Pc vs (PM D cI cS ad h)) := fun a U g mk q =>
  ⟨q.1, q.2.1, va_K.moved (u := U) (U := U.calling g mk a) (Vm.Alike.refl U.vm) q.2.2.1, q.2.2.2.1.same rfl, vk_S.moved (u := U) (U := U.calling g mk a) (Vm.Alike.refl U.vm) q.2.2.2.2.1, va_Z.moved (u := U) (U := U.calling g mk a) (Vm.Alike.refl U.vm) q.2.2.2.2.2⟩
section CALLS
variable {p : Program} {l : Launch} {e : Env} {R : Room} {s : State} {m : MethodId} {args : Array Value} {below : List Frame} {meth : Method} {c : Code} {cells slots : Nat} {Q : State → Prop} {D : va_G} {cI cS : ClassId} {ad : Nat → Nat} {A : Nat → Prop} {nL : Nat}
variable {own : String} {cc : ByteArray} {ret : Option FieldType} {fl : Nat → Option (Nat × Nat)} {pc : Nat}
theorem inA_sub {h : MH} {H : Heap} (hw : wld D cI cS ad A h H) : ∀ q, inA ad q → A q := by
  rintro q ⟨i, hi, rfl⟩
  exact hw.2.1.2 i _ (wsOf_at hi)
theorem wld_in {h : MH} {H : Heap} (hw : wld D cI cS ad A h H) : wld D cI cS ad (inA ad) h H := by
  refine ⟨hw.1, ⟨hw.2.1.1, ?_⟩, hw.2.2⟩
  intro k q hq
  have hk : k < NC := by
    have := (List.getElem?_eq_some_iff.mp hq).1
    simpa [wsOf] using this
  rw [wsOf_at hk] at hq
  cases hq
  exact ⟨k, hk, rfl⟩
/-- behind a call -/
theorem wm_back {idx : Nat} {r : Option MV} {L : ML} {rest : List MV} {h h' : MH} {g0 : List Value} {H : Heap} {ls : Array Slot} {locs : List Loc} {Qa : Array Value} (hw : wld D cI cS ad A h H) (hS : va_S A s.heap H locs) (hl : lv_has ls nL (L.map (tl ad))) (hoL : ∀ q ∈ L, okV q.2) (hoS : ∀ v ∈ rest, okV v)
    (hr : va_Run p l e R s m args below meth c H locs cells slots 0 0 (F0 m pc ls g0) (rest.map (tv ad)) (QM D cI cS ad r h' Qa) (inA ad))
    (hk : WM p l e R s m args below meth c cells slots Q D cI cS ad A nL (pc + 3) L (r.toList ++ rest) h') : W p l e R s m args below meth c H locs cells slots Q (F0 m pc ls g0) := by
  intro T hT X
  obtain ⟨v, st₀, t, T', LL, h0, X', hL, e1, e2, ⟨hv, hvr, hw', hF⟩, st⟩ := hr T hT X
  have hv2 : v = r.map (tv ad) := by
    have := hv
    simpa using this
  subst hv2
  have hsub := inA_sub hw
  obtain ⟨hz, hkp⟩ := hF
  rw [h0] at hz hkp
  have hw2 : wld D cI cS ad A h' T'.heap := by
    rw [e1]
    exact ⟨hw'.1, hw'.2.1.weaken (fun k q _ hq => hsub _ hq), hw'.2.2⟩
  have hS2 : va_S A s.heap T'.heap (locs ++ LL) := by
    refine ⟨Nat.le_trans hS.1 (by rw [e1]; exact hz), fun q h1 h2 => ?_, fun q hq => ?_⟩
    · rw [e1, hkp q (Nat.lt_of_lt_of_le h1 hS.1) (fun z => h2 (hsub q z))]
      exact hS.2.1 q h1 h2
    · rcases List.mem_append.mp hq with h | h
      · exact hS.2.2 q h
      · exact hsub _ (hL q h)
  have hoS2 : ∀ v ∈ r.toList ++ rest, okV v := by
    intro v hv
    rcases List.mem_append.mp hv with h | h
    · cases r with
      | none => cases h
      | some r0 =>
        have : v = r0 := by simpa using h
        subst this
        exact hvr _ rfl
    · exact hoS v h
  obtain ⟨t2, a1, b1⟩ := hk hoL hoS2 T'.heap ls (locs ++ LL) hw2 hS2 hl T' rfl X'
  refine ⟨t2, st t2 ?_, b1⟩
  have hst : (r.map (tv ad)).toList ++ rest.map (tv ad) = (r.toList ++ rest).map (tv ad) := by
    cases r <;> simp
  show Steps p.tables e below (T'.setTop { F0 m pc ls g0 with pc := pc + 3, stack := (r.map (tv ad)).toList ++ rest.map (tv ad) }) t2
  rw [hst]
  exact a1
theorem cat_sum {st : List MV} (h : st.length ≤ 4) : ((st.map (tv ad)).map fun v => v.category).sum ≤ 8 := by
  have key : ∀ st : List MV, ((st.map (tv ad)).map fun v => v.category).sum ≤ 2 * st.length := by
    intro st
    induction st with
    | nil => simp
    | cons v l ih =>
      have hc : (tv ad v).category ≤ 2 := by
        rcases v with z | (_ | i) | d
        · exact (show 1 ≤ 2 by omega)
        · exact (show 1 ≤ 2 by omega)
        · exact (show 1 ≤ 2 by omega)
        · exact Nat.le_refl 2
      simp only [List.map_cons, List.sum_cons, List.length_cons]
      omega
  have := key st
  omega
theorem wm_callV (hX : CX own cc nL ret p s m args meth c D cI cS ad A) {d : Nat} (hM : RMX d R cells slots) {idx d' ci i maxL : Nat} {y : MethodName} {bytes : ByteArray} {ret' : Option FieldType} {vs rest : List MV} {L : ML} {h h' : MH} {r : Option MV} (hmy : MY y bytes maxL ret' vs.length) (hvw : VW own idx y) (hdd : d' < d)
    (hc : CON d' y bytes maxL ret' (vR i :: vs) h r h') (hki : kd i = ci + 2) (hci : (vwCl[ci]?).map (fun q => q.1) = some y.cls) (hrest : rest.length ≤ 4) (hd : decode cc pc = .ok (.invokevirtual idx, 3))
    (hk : WM p l e R s m args below meth c cells slots Q D cI cS ad A nL (pc + 3) L (r.toList ++ rest) h') : WM p l e R s m args below meth c cells slots Q D cI cS ad A nL pc L (vs.reverse ++ vR i :: rest) h := by
  obtain ⟨hx, hb, hml, hr, hown, hts, hK, hlocks, hE⟩ := hX
  intro hoL hoS H ls locs hw hS hl
  obtain ⟨q, hq, hqn⟩ : ∃ q, vwCl[ci]? = some q ∧ q.1 = y.cls := by
    cases hq : vwCl[ci]? with
    | none => rw [hq] at hci; cases hci
    | some q => rw [hq] at hci; exact ⟨q, rfl, by simpa using hci⟩
  have hi : i < NC := kd_lt hki (by
    have : ci < 8 := (List.getElem?_eq_some_iff.mp hq).1
    omega)
  have hoV : ∀ v ∈ vR i :: vs, okV v := okc (v := vR i) trivial (fun v hv => hoS v (List.mem_append_left _ (List.mem_reverse.mpr hv)))
  have hoR : ∀ v ∈ rest, okV v := fun v hv => hoS v (List.mem_append_right _ (List.mem_cons_of_mem _ hv))
  have hwin := wld_in hw
  have hsub := inA_sub hw
  have cw : CallW R s args own y.cls idx y bytes maxL ret' (Cond.code y bytes maxL ret' :: TB) (rmd d') 0 0 vs.length := by
    refine cwV (Ts := TB) vs.length hts (good_all ?_) rfl rfl rfl ⟨rfl, hmy.2.2.1⟩ ⟨?_, ?_⟩
    · intro w hw
      unfold wsV at hw
      simp only [List.cons_append, List.nil_append, List.mem_cons] at hw
      rcases hw with rfl | rfl | rfl | rfl | rfl | hw
      · exact hvw.1
      · exact hvw.2.1
      · exact hvw.2.2
      · exact hmy.2.1
      · exact hmy.1
      · exact hw
    · show d' + 1 ≤ R.frames
      have := hM.1
      omega
    · show 8 + (maxL + 11) + 40 * d' ≤ R.locals
      have := hM.2.1
      have := hmy.2.2.2
      omega
  have hrun := va_runV (As := vs.map (tv ad)) (rest := rest.map (tv ad)) (b := ad i) (C := y.cls) (g := F0 m pc ls ((vs.reverse ++ vR i :: rest).map (tv ad))) (H := H) (locs := locs) (cells := cells) (slots := slots) (e := e) (below := below) (meth := meth)
    ⟨hx, hb, hml, hown, hts⟩ (hc l D cI cS ad hoV) cw ⟨PM_blind, ?_, fun U hU hW => ⟨by simp [tv], by rw [hU]; exact hwin, va_K.moved hW.alike hK, by rw [hU]; exact EXT_down hE hS hW hsub⟩⟩ rfl (by simp) hl.1 (by simp [tv]) (lv_room (cat_sum hrest)) hd ⟨hM.2.2.1, hM.2.2.2⟩
  · exact wm_back (idx := idx) hw hS hl hoL hoR hrun hk
  · have he : (wsOf cI cS ad h)[i]? = some (ad i, .inr (ci, (List.range (fn ci)).map (fun k => if fc ci k = 2 then Value.ref (ad (rf i k)) else .int (Int32.ofInt (h i k))))) := by rw [wsOf_at hi, cellE_o hki]
    have hrec := va_recv (D := D) hK hw.1 hq he
    rw [hqn] at hrec
    exact hrec
theorem wm_callS (hX : CX own cc nL ret p s m args meth c D cI cS ad A) {d : Nat} (hM : RMX d R cells slots) {idx d' maxL : Nat} {y : MethodName} {bytes : ByteArray} {ret' : Option FieldType} {vs rest : List MV} {L : ML} {h h' : MH} {r : Option MV} (hmy : MY y bytes maxL ret' vs.length) (hsw : SW own idx y) (hdd : d' < d)
    (hc : CON d' y bytes maxL ret' vs h r h') (hrest : rest.length ≤ 4) (hd : decode cc pc = .ok (.invokestatic idx, 3))
    (hk : WM p l e R s m args below meth c cells slots Q D cI cS ad A nL (pc + 3) L (r.toList ++ rest) h') : WM p l e R s m args below meth c cells slots Q D cI cS ad A nL pc L (vs.reverse ++ rest) h := by
  obtain ⟨hx, hb, hml, hr, hown, hts, hK, hlocks, hE⟩ := hX
  intro hoL hoS H ls locs hw hS hl
  have hoV : ∀ v ∈ vs, okV v := fun v hv => hoS v (List.mem_append_left _ (List.mem_reverse.mpr hv))
  have hoR : ∀ v ∈ rest, okV v := fun v hv => hoS v (List.mem_append_right _ hv)
  have hwin := wld_in hw
  have hsub := inA_sub hw
  have cw0 := callB_of (R := R) (s := s) (args := args) (own := own) (index := idx) (y := y) (bytes := bytes) (maxL := maxL) (ret := ret') (ws := Cond.code y bytes maxL ret' :: TB) (rm := rmd d') (mc := 0) (ms := 0) (Ts := TB) vs.length hts (good_all (by
      intro w hw
      rcases List.mem_cons.mp hw with rfl | hw
      · exact hmy.1
      · exact hw)) rfl rfl rfl (hts _ hmy.2.1) (hts _ hsw.1) hmy.2.2.1 ⟨by
      show d' + 1 ≤ R.frames
      have := hM.1
      omega, by
      show 8 + (maxL + 11) + 40 * d' ≤ R.locals
      have := hM.2.1
      have := hmy.2.2.2
      omega⟩
  have cw := And.intro cw0 (hts _ hsw.2)
  have hrun := va_runS (As := vs.map (tv ad)) (rest := rest.map (tv ad)) (g := F0 m pc ls ((vs.reverse ++ rest).map (tv ad))) (H := H) (locs := locs) (cells := cells) (slots := slots) (e := e) (below := below) (meth := meth)
    ⟨hx, hb, hml, hown, hts⟩ (hc l D cI cS ad hoV) cw ⟨PM_blind, fun U hU hW => ⟨by simp, by rw [hU]; exact hwin, va_K.moved hW.alike hK, by rw [hU]; exact EXT_down hE hS hW hsub⟩⟩ rfl (by simp) hl.1 (by simp) (lv_room (cat_sum hrest)) hd ⟨hM.2.2.1, hM.2.2.2⟩
  exact wm_back (idx := idx) hw hS hl hoL hoR hrun hk
end CALLS
end
section
/-! ===== the rules: what a judgement K over the mini machine obeys; a method's walk speaks of any such K ===== -/
def dk (cc : ByteArray) (pc : Nat) (I : Instr) (n : Nat) : Bool := decide (decode cc pc = .ok (I, n))
def cmpB : ClassFile.Cond → Int → Int → Prop
  | .eq, x, y | .ne, x, y => x = y
  | .lt, x, y | .ge, x, y => x < y
  | .le, x, y | .gt, x, y => x ≤ y
def jt : ClassFile.Cond → Nat → Nat → Nat
  | .eq, a, _ | .lt, a, _ | .le, a, _ => a
  | .ne, _, b | .ge, _, b | .gt, _, b => b
def swT (pc : Nat) (dflt lo hi : Int) (offs : List Int) (x : Int) : Nat :=
  if x < lo ∨ hi < x then ((pc : Int) + dflt).toNat else ((pc : Int) + offs.getD (x - lo).toNat 0).toNat
abbrev KT : Type := Nat → ML → List MV → MH → Prop
def R_seg (cc : ByteArray) (nL : Nat) (fl : Nat → Option (Nat × Nat)) (K : KT) : Prop := ∀ (is : List Instr) (pc : Nat) (L L' : ML) (st st' : List MV) (h h' : MH) (P : Prop), sits cc pc is = true → mrun fl nL is L st h = some ((L', st', h'), P) → P → K (pc + plen is) L' st' h' → K pc L st h
def R_sub (K : KT) : Prop := ∀ (pc : Nat) (L L' : ML) (st : List MV) (h : MH), (∀ q ∈ L', q ∈ L) → K pc L' st h → K pc L st h
def R_goto (cc : ByteArray) (K : KT) : Prop := ∀ (pc : Nat) (off : Int) (tgt : Nat) (L : ML) (st : List MV) (h : MH), dk cc pc (.goto off) 3 = true → (pc : Int) + off = (tgt : Int) → K tgt L st h → K pc L st h
def R_icmp (cc : ByteArray) (K : KT) : Prop := ∀ (pc : Nat) (cd : ClassFile.Cond) (off : Int) (tgt : Nat) (L : ML) (st : List MV) (h : MH) (x y : Int), dk cc pc (.if_icmp cd off) 3 = true → (pc : Int) + off = (tgt : Int) → (cmpB cd x y → K (jt cd tgt (pc + 3)) L st h) → (¬ cmpB cd x y → K (jt cd (pc + 3) tgt) L st h) → K pc L (vI y :: vI x :: st) h
def R_ifz (cc : ByteArray) (K : KT) : Prop := ∀ (pc : Nat) (cd : ClassFile.Cond) (off : Int) (tgt : Nat) (L : ML) (st : List MV) (h : MH) (x : Int), dk cc pc (.ifCond cd off) 3 = true → (pc : Int) + off = (tgt : Int) → (cmpB cd x 0 → K (jt cd tgt (pc + 3)) L st h) → (¬ cmpB cd x 0 → K (jt cd (pc + 3) tgt) L st h) → K pc L (vI x :: st) h
def R_null (cc : ByteArray) (K : KT) : Prop := ∀ (pc : Nat) (off : Int) (tgt : Nat) (L : ML) (st : List MV) (h : MH) (o : Option Nat), dk cc pc (.ifnull off) 3 = true → (pc : Int) + off = (tgt : Int) → (o = none → K tgt L st h) → (∀ i, o = some i → K (pc + 3) L st h) → K pc L (vO o :: st) h
def R_sw (cc : ByteArray) (K : KT) : Prop := ∀ (pc : Nat) (dflt lo hi : Int) (offs : Array Int) (len : Nat) (L : ML) (st : List MV) (h : MH) (x : Int), dk cc pc (.tableswitch dflt lo hi offs) len = true → ((0 ≤ (pc : Int) + dflt) ∧ (∀ o ∈ offs.toList, 0 ≤ (pc : Int) + o) ∧ hi - lo < offs.toList.length) → K (swT pc dflt lo hi offs.toList x) L st h → K pc L (vI x :: st) h
def R_ldc (own : String) (cc : ByteArray) (K : KT) : Prop := ∀ (pc : Nat) (L : ML) (st : List MV) (h : MH), own = "HunkSlides" → dk cc pc (.ldc sgIdx) 2 = true → K (pc + 2) L (vR 101 :: st) h → K pc L st h
def R_callV (own : String) (cc : ByteArray) (d : Nat) (K : KT) : Prop := ∀ (pc idx d' ci i maxL : Nat) (y : MethodName) (bytes : ByteArray) (ret' : Option FieldType) (vs rest : List MV) (L : ML) (h h' : MH) (r : Option MV), MY y bytes maxL ret' vs.length → VW own idx y → d' < d →
    CON d' y bytes maxL ret' (vR i :: vs) h r h' → kd i = ci + 2 → (vwCl[ci]?).map (fun q => q.1) = some y.cls → rest.length ≤ 4 → dk cc pc (.invokevirtual idx) 3 = true → K (pc + 3) L (r.toList ++ rest) h' → K pc L (vs.reverse ++ vR i :: rest) h
def R_callS (own : String) (cc : ByteArray) (d : Nat) (K : KT) : Prop := ∀ (pc idx d' maxL : Nat) (y : MethodName) (bytes : ByteArray) (ret' : Option FieldType) (vs rest : List MV) (L : ML) (h h' : MH) (r : Option MV), MY y bytes maxL ret' vs.length → SW own idx y → d' < d →
    CON d' y bytes maxL ret' vs h r h' → rest.length ≤ 4 → dk cc pc (.invokestatic idx) 3 = true → K (pc + 3) L (r.toList ++ rest) h' → K pc L (vs.reverse ++ rest) h
def R_callG (own : String) (cc : ByteArray) (d : Nat) (K : KT) : Prop := ∀ (pc idx d' maxL : Nat) (y : MethodName) (bytes : ByteArray) (ret' : Option FieldType) (vs rest : List MV) (L : ML) (h h' : MH) (r : Option MV), y.cls = "java/lang/String" → MY y bytes maxL ret' vs.length → VW own idx y → d' < d →
    CON d' y bytes maxL ret' (vR 101 :: vs) h r h' → rest.length ≤ 4 → dk cc pc (.invokevirtual idx) 3 = true → K (pc + 3) L (r.toList ++ rest) h' → K pc L (vs.reverse ++ vR 101 :: rest) h
def imax (x y : Int) : Int := if x < y then y else x
def imin (x y : Int) : Int := if y < x then y else x
def MW (own : String) (idx : Nat) (y : MethodName) (b : ByteArray) : Prop := Cond.methodLink own idx y ∈ TB ∧ Cond.static y ∈ TB ∧ Cond.initialized "java/lang/Math" ∈ TB ∧ Cond.code y b 2 (some .int) ∈ TB
def R_math (own : String) (cc : ByteArray) (d : Nat) (K : KT) : Prop :=
  (∀ (pc idx : Nat) (L : ML) (st : List MV) (h : MH) (x y : Int), 1 ≤ d → MW own idx Lib.Math.max.name Lib.Math.max.code → st.length ≤ 4 → dk cc pc (.invokestatic idx) 3 = true → K (pc + 3) L (vI (imax x y) :: st) h → K pc L (vI y :: vI x :: st) h) ∧
  (∀ (pc idx : Nat) (L : ML) (st : List MV) (h : MH) (x y : Int), 1 ≤ d → MW own idx Lib.Math.min.name Lib.Math.min.code → st.length ≤ 4 → dk cc pc (.invokestatic idx) 3 = true → K (pc + 3) L (vI (imin x y) :: st) h → K pc L (vI y :: vI x :: st) h)
def R_ret (cc : ByteArray) (ret : Option FieldType) (Post : Option MV → MH → Prop) (K : KT) : Prop :=
  (∀ (pc : Nat) (L : ML) (h : MH) (z : Int), dk cc pc .ireturn 1 = true → ret = some .int → Post (some (vI z)) h → K pc L [vI z] h) ∧
  (∀ (pc : Nat) (L : ML) (h : MH) (z : Int), dk cc pc .ireturn 1 = true → ret = some .boolean → (z = 0 ∨ z = 1) → Post (some (vI z)) h → K pc L [vI z] h) ∧
  (∀ (pc : Nat) (L : ML) (h : MH) (o : Option Nat), dk cc pc .areturn 1 = true → (∃ n, ret = some (.object n)) → Post (some (vO o)) h → K pc L [vO o] h) ∧
  (∀ (pc : Nat) (L : ML) (h : MH) (z : UInt64), dk cc pc .dreturn 1 = true → ret = some .double → Post (some (vD z)) h → K pc L [vD z] h) ∧
  (∀ (pc : Nat) (L : ML) (h : MH), dk cc pc .return_ 1 = true → ret = none → Post none h → K pc L [] h)
def Rules (own : String) (cc : ByteArray) (nL : Nat) (ret : Option FieldType) (fl : Nat → Option (Nat × Nat)) (d : Nat) (K : KT) : Prop :=
  R_seg cc nL fl K ∧ R_sub K ∧ R_goto cc K ∧ R_icmp cc K ∧ R_ifz cc K ∧ R_null cc K ∧ R_sw cc K ∧ R_ldc own cc K ∧ R_callV own cc d K ∧ R_callS own cc d K ∧ R_callG own cc d K ∧ R_math own cc d K
section RULES
variable {p : Program} {l : Launch} {e : Env} {R : Room} {s : State} {m : MethodId} {args : Array Value} {below : List Frame} {meth : Method} {c : Code} {cells slots : Nat} {Q : State → Prop} {D : va_G} {cI cS : ClassId} {ad : Nat → Nat} {A : Nat → Prop} {nL : Nat}
variable {own : String} {cc : ByteArray} {ret : Option FieldType} {fl : Nat → Option (Nat × Nat)} {pc : Nat}
theorem dk_eq {I : Instr} {n : Nat} (h : dk cc pc I n = true) : decode cc pc = .ok (I, n) := of_decide_eq_true h
theorem wm_callG (hX : CX own cc nL ret p s m args meth c D cI cS ad A) {d : Nat} (hM : RMX d R cells slots) {idx d' maxL : Nat} {y : MethodName} {bytes : ByteArray} {ret' : Option FieldType} {vs rest : List MV} {L : ML} {h h' : MH} {r : Option MV} (hyc : y.cls = "java/lang/String") (hmy : MY y bytes maxL ret' vs.length) (hvw : VW own idx y) (hdd : d' < d)
    (hc : CON d' y bytes maxL ret' (vR 101 :: vs) h r h') (hrest : rest.length ≤ 4) (hd : decode cc pc = .ok (.invokevirtual idx, 3))
    (hk : WM p l e R s m args below meth c cells slots Q D cI cS ad A nL (pc + 3) L (r.toList ++ rest) h') : WM p l e R s m args below meth c cells slots Q D cI cS ad A nL pc L (vs.reverse ++ vR 101 :: rest) h := by
  obtain ⟨hx, hb, hml, hr, hown, hts, hK, hlocks, hE⟩ := hX
  intro hoL hoS H ls locs hw hS hl
  have hoV : ∀ v ∈ vR 101 :: vs, okV v := okc (v := vR 101) trivial (fun v hv => hoS v (List.mem_append_left _ (List.mem_reverse.mpr hv)))
  have hoR : ∀ v ∈ rest, okV v := fun v hv => hoS v (List.mem_append_right _ (List.mem_cons_of_mem _ hv))
  have hwin := wld_in hw
  have hsub := inA_sub hw
  have cw : CallW R s args own y.cls idx y bytes maxL ret' (Cond.code y bytes maxL ret' :: TB) (rmd d') 0 0 vs.length := by
    refine cwV (Ts := TB) vs.length hts (good_all ?_) rfl rfl rfl ⟨rfl, hmy.2.2.1⟩ ⟨?_, ?_⟩
    · intro w hw
      unfold wsV at hw
      simp only [List.cons_append, List.nil_append, List.mem_cons] at hw
      rcases hw with rfl | rfl | rfl | rfl | rfl | hw
      · exact hvw.1
      · exact hvw.2.1
      · exact hvw.2.2
      · exact hmy.2.1
      · exact hmy.1
      · exact hw
    · show d' + 1 ≤ R.frames
      have := hM.1
      omega
    · show 8 + (maxL + 11) + 40 * d' ≤ R.locals
      have := hM.2.1
      have := hmy.2.2.2
      omega
  have hrec := vk_recv (i := 0) hE.2.1 (by omega) hS
  have hrun := va_runV (As := vs.map (tv ad)) (rest := rest.map (tv ad)) (b := ad 101) (C := y.cls) (g := F0 m pc ls ((vs.reverse ++ vR 101 :: rest).map (tv ad))) (H := H) (locs := locs) (cells := cells) (slots := slots) (e := e) (below := below) (meth := meth)
    ⟨hx, hb, hml, hown, hts⟩ (hc l D cI cS ad hoV) cw ⟨PM_blind, by rw [hyc]; exact hrec, fun U hU hW => ⟨by simp [tv], by rw [hU]; exact hwin, va_K.moved hW.alike hK, by rw [hU]; exact EXT_down hE hS hW hsub⟩⟩ rfl (by simp) hl.1 (by simp [tv]) (lv_room (cat_sum hrest)) hd ⟨hM.2.2.1, hM.2.2.2⟩
  exact wm_back (idx := idx) hw hS hl hoL hoR hrun hk
theorem rules_ok (hX : CX own cc nL ret p s m args meth c D cI cS ad A) {d : Nat} (hM : RMX d R cells slots) (hf : flok own fl) : Rules own cc nL ret fl d (WM p l e R s m args below meth c cells slots Q D cI cS ad A nL) := by
  have hX0 := hX
  obtain ⟨hx, hb, hml, hr, hown, hts, hK, hlocks, hE⟩ := hX
  refine ⟨fun is pc L L' st st' h h' P => run_ok hX0 hf is pc L L' st st' h h' P, ?_, ?_, ?_, ?_, ?_, ?_, ?_, ?_, ?_, ?_, ?_, ?_⟩
  · intro pc L L' st h hs hk hoL hoS H ls locs hw hS hl
    refine hk (fun q hq => hoL q (hs q hq)) hoS H ls locs hw hS ⟨hl.1, hl.2.1, fun q hq => ?_⟩
    obtain ⟨q0, h1, rfl⟩ := List.mem_map.mp hq
    exact hl.2.2 _ (List.mem_map_of_mem (hs q0 h1))
  · intro pc off tgt L st h hd ht hk hoL hoS H ls locs hw hS hl
    exact lv_goto hx hb (dk_eq hd) ht (hk hoL hoS H ls locs hw hS hl)
  · intro pc cd off tgt L st h x y hd ht kt kf hoL hoS H ls locs hw hS hl
    have hy0 : inR y := hoS (vI y) List.mem_cons_self
    have hx0 : inR x := hoS (vI x) (List.mem_cons_of_mem _ List.mem_cons_self)
    have hoR : ∀ v ∈ st, okV v := fun v hv => hoS v (List.mem_cons_of_mem _ (List.mem_cons_of_mem _ hv))
    have d0 := dk_eq hd
    cases cd with
    | eq => exact lv_icmp_eq hx hb d0 ht (fun q => kt ((oi_eq hx0 hy0).mp q) hoL hoR H ls locs hw hS hl) (fun q => kf (fun z => q ((oi_eq hx0 hy0).mpr z)) hoL hoR H ls locs hw hS hl)
    | ne => exact lv_icmp_ne hx hb d0 ht (fun q => kf (fun z => q ((oi_eq hx0 hy0).mpr z)) hoL hoR H ls locs hw hS hl) (fun q => kt ((oi_eq hx0 hy0).mp q) hoL hoR H ls locs hw hS hl)
    | lt => exact lv_icmp_lt hx hb d0 ht (fun q => kt ((oi_lt hx0 hy0).mp q) hoL hoR H ls locs hw hS hl) (fun q => kf (fun z => q ((oi_lt hx0 hy0).mpr z)) hoL hoR H ls locs hw hS hl)
    | ge => exact lv_icmp_ge hx hb d0 ht (fun q => kf (fun z => by have := (oi_le hy0 hx0).mp q; unfold cmpB at z; omega) hoL hoR H ls locs hw hS hl) (fun q => kt (by unfold cmpB; have := mt (oi_le hy0 hx0).mpr q; omega) hoL hoR H ls locs hw hS hl)
    | gt => exact lv_icmp_gt hx hb d0 ht (fun q => kf (fun z => by have := (oi_lt hy0 hx0).mp q; unfold cmpB at z; omega) hoL hoR H ls locs hw hS hl) (fun q => kt (by unfold cmpB; have := mt (oi_lt hy0 hx0).mpr q; omega) hoL hoR H ls locs hw hS hl)
    | le => exact lv_icmp_le hx hb d0 ht (fun q => kt ((oi_le hx0 hy0).mp q) hoL hoR H ls locs hw hS hl) (fun q => kf (fun z => q ((oi_le hx0 hy0).mpr z)) hoL hoR H ls locs hw hS hl)
  · intro pc cd off tgt L st h x hd ht kt kf hoL hoS H ls locs hw hS hl
    have hy0 : inR (0 : Int) := by unfold inR; omega
    have hx0 : inR x := hoS (vI x) List.mem_cons_self
    have hoR : ∀ v ∈ st, okV v := fun v hv => hoS v (List.mem_cons_of_mem _ hv)
    have d0 := dk_eq hd
    cases cd with
    | eq => exact lv_if_eq hx hb d0 ht (fun q => kt ((oi_eq hx0 hy0).mp q) hoL hoR H ls locs hw hS hl) (fun q => kf (fun z => q ((oi_eq hx0 hy0).mpr z)) hoL hoR H ls locs hw hS hl)
    | ne => exact lv_if_ne hx hb d0 ht (fun q => kf (fun z => q ((oi_eq hx0 hy0).mpr z)) hoL hoR H ls locs hw hS hl) (fun q => kt ((oi_eq hx0 hy0).mp q) hoL hoR H ls locs hw hS hl)
    | lt => exact lv_if_lt hx hb d0 ht (fun q => kt ((oi_lt hx0 hy0).mp q) hoL hoR H ls locs hw hS hl) (fun q => kf (fun z => q ((oi_lt hx0 hy0).mpr z)) hoL hoR H ls locs hw hS hl)
    | ge => exact lv_if_ge hx hb d0 ht (fun q => kf (fun z => by have := (oi_le hy0 hx0).mp q; unfold cmpB at z; omega) hoL hoR H ls locs hw hS hl) (fun q => kt (by unfold cmpB; have := mt (oi_le hy0 hx0).mpr q; omega) hoL hoR H ls locs hw hS hl)
    | gt => exact lv_if_gt hx hb d0 ht (fun q => kf (fun z => by have := (oi_lt hy0 hx0).mp q; unfold cmpB at z; omega) hoL hoR H ls locs hw hS hl) (fun q => kt (by unfold cmpB; have := mt (oi_lt hy0 hx0).mpr q; omega) hoL hoR H ls locs hw hS hl)
    | le => exact lv_if_le hx hb d0 ht (fun q => kt ((oi_le hx0 hy0).mp q) hoL hoR H ls locs hw hS hl) (fun q => kf (fun z => q ((oi_le hx0 hy0).mpr z)) hoL hoR H ls locs hw hS hl)
  · intro pc off tgt L st h o hd ht kt kf hoL hoS H ls locs hw hS hl
    have hoR : ∀ v ∈ st, okV v := fun v hv => hoS v (List.mem_cons_of_mem _ hv)
    cases o with
    | none => exact lv_ifnullN hx hb (dk_eq hd) ht (kt rfl hoL hoR H ls locs hw hS hl)
    | some i => exact lv_ifnull hx hb (dk_eq hd) (kf i rfl hoL hoR H ls locs hw hS hl)
  · intro pc dflt lo hi offs len L st h x hd hq hk hoL hoS H ls locs hw hS hl
    have hx0 : inR x := hoS (vI x) List.mem_cons_self
    have hoR : ∀ v ∈ st, okV v := fun v hv => hoS v (List.mem_cons_of_mem _ hv)
    have k9 := hk hoL hoR H ls locs hw hS hl
    unfold swT at k9
    by_cases hc : x < lo ∨ hi < x
    · rw [if_pos hc] at k9
      exact lv_tableOut hx hb (dk_eq hd) (by rw [ti hx0]; exact hc) (tgt := ((pc : Int) + dflt).toNat) (by have := hq.1; omega) k9
    · rw [if_neg hc] at k9
      have hlen : (x - lo).toNat < offs.toList.length := by have := hq.2.2; omega
      have hget : offs[(x - lo).toNat]? = some (offs.toList.getD (x - lo).toNat 0) := by
        rw [← Array.getElem?_toList, List.getD_eq_getElem?_getD, List.getElem?_eq_getElem hlen]
        rfl
      have hmem : offs.toList.getD (x - lo).toNat 0 ∈ offs.toList := by
        rw [List.getD_eq_getElem?_getD, List.getElem?_eq_getElem hlen]
        exact List.getElem_mem hlen
      have hpos := hq.2.1 _ hmem
      exact lv_tableIn hx hb (dk_eq hd) (by rw [ti hx0]; omega) (by rw [ti hx0]; omega) (off := offs.toList.getD (x - lo).toNat 0) (by rw [ti hx0]; exact hget) (tgt := ((pc : Int) + offs.toList.getD (x - lo).toNat 0).toNat) (by omega) k9
  · intro pc L st h ho hd hk hoL hoS H ls locs hw hS hl
    subst ho
    exact va_ldcS hx hb hown hE.1 (dk_eq hd) (hk hoL (okc (v := vR 101) trivial hoS) H ls locs hw hS hl)
  · intro pc idx d' ci i maxL y bytes ret' vs rest L h h' r h1 h2 h3 h4 h5 h6 h7 h8 hk
    exact wm_callV hX0 hM h1 h2 h3 h4 h5 h6 h7 (dk_eq h8) hk
  · intro pc idx d' maxL y bytes ret' vs rest L h h' r h1 h2 h3 h4 h7 h8 hk
    exact wm_callS hX0 hM h1 h2 h3 h4 h7 (dk_eq h8) hk
  · intro pc idx d' maxL y bytes ret' vs rest L h h' r h0 h1 h2 h3 h4 h7 h8 hk
    exact wm_callG hX0 hM h0 h1 h2 h3 h4 h7 (dk_eq h8) hk
  · intro pc idx L st h x y h1 hm hlen hd hk hoL hoS H ls locs hw hS hl
    have hy0 : inR y := hoS (vI y) List.mem_cons_self
    have hx0 : inR x := hoS (vI x) (List.mem_cons_of_mem _ List.mem_cons_self)
    have hoR : ∀ v ∈ st, okV v := fun v hv => hoS v (List.mem_cons_of_mem _ (List.mem_cons_of_mem _ hv))
    have hv : okV (vI (imax x y)) := by show inR _; unfold imax; split <;> assumption
    have k9 := hk hoL (okc hv hoR) H ls locs hw hS hl
    have hs := cat_sum (ad := ad) hlen
    refine va_mmax hx hb (hml.trans hl.1.symm) hown (hts _ hm.1) (hts _ hm.2.1) (hts _ hm.2.2.1) (hts _ hm.2.2.2) (by have := hM.1; omega) (by have := hM.2.1; omega) hM.2.2.1 hM.2.2.2 (dk_eq hd) ?_
    have e9 : (if Int32.ofInt x < Int32.ofInt y then Int32.ofInt y else Int32.ofInt x) = Int32.ofInt (imax x y) := by
      unfold imax
      by_cases hc : x < y
      · rw [if_pos hc, if_pos ((oi_lt hx0 hy0).mpr hc)]
      · rw [if_neg hc, if_neg (fun z => hc ((oi_lt hx0 hy0).mp z))]
    rw [e9]
    exact k9
  · intro pc idx L st h x y h1 hm hlen hd hk hoL hoS H ls locs hw hS hl
    have hy0 : inR y := hoS (vI y) List.mem_cons_self
    have hx0 : inR x := hoS (vI x) (List.mem_cons_of_mem _ List.mem_cons_self)
    have hoR : ∀ v ∈ st, okV v := fun v hv => hoS v (List.mem_cons_of_mem _ (List.mem_cons_of_mem _ hv))
    have hv : okV (vI (imin x y)) := by show inR _; unfold imin; split <;> assumption
    have k9 := hk hoL (okc hv hoR) H ls locs hw hS hl
    have hs := cat_sum (ad := ad) hlen
    refine va_mmin hx hb (hml.trans hl.1.symm) hown (hts _ hm.1) (hts _ hm.2.1) (hts _ hm.2.2.1) (hts _ hm.2.2.2) (by have := hM.1; omega) (by have := hM.2.1; omega) hM.2.2.1 hM.2.2.2 (dk_eq hd) ?_
    have e9 : (if Int32.ofInt y < Int32.ofInt x then Int32.ofInt y else Int32.ofInt x) = Int32.ofInt (imin x y) := by
      unfold imin
      by_cases hc : y < x
      · rw [if_pos hc, if_pos ((oi_lt hy0 hx0).mpr hc)]
      · rw [if_neg hc, if_neg (fun z => hc ((oi_lt hy0 hx0).mp z))]
    rw [e9]
    exact k9
end RULES
def entL : Nat → List MV → ML
  | _, [] => []
  | i, v :: vs => (i, v) :: entL (i + 1) vs
theorem entL_args (ad : Nat → Nat) : ∀ (vs : List MV) (i : Nat), vs.all (fun v => !c2 v) = true → lv_args i (vs.map (tv ad)) = (entL i vs).map (tl ad) := by
  intro vs
  induction vs with
  | nil => intro i _; rfl
  | cons v vs ih =>
    intro i h
    simp only [List.all_cons, Bool.and_eq_true] at h
    have hc : (tv ad v).category = 1 := tv_cat1 (by simpa using h.1)
    simp only [List.map_cons, lv_args, entL, hc]
    rw [← ih (i + 1) h.2]
    rfl
theorem entL_len (ad : Nat → Nat) : ∀ (vs : List MV), vs.all (fun v => !c2 v) = true → (lg_sl (vs.map (tv ad))).length = vs.length := by
  intro vs
  induction vs with
  | nil => intro _; rfl
  | cons v vs ih =>
    intro h
    simp only [List.all_cons, Bool.and_eq_true] at h
    have hc : (tv ad v).category = 1 := tv_cat1 (by simpa using h.1)
    have := ih h.2
    unfold lg_sl at this ⊢
    simp only [List.map_cons, List.flatMap_cons, hc, List.length_append, List.length_cons]
    rw [this]
    simp
    omega
theorem entL_ok : ∀ (vs : List MV) (i : Nat), (∀ v ∈ vs, okV v) → ∀ q ∈ entL i vs, okV q.2 := by
  intro vs
  induction vs with
  | nil => intro i _ q hq; cases hq
  | cons v vs ih =>
    intro i h q hq
    rcases List.mem_cons.mp hq with rfl | hq
    · exact h v List.mem_cons_self
    · exact ih (i + 1) (fun v hv => h v (List.mem_cons_of_mem _ hv)) q hq
/-- a method's contract out of its walk -/
theorem con_of {own : String} {cc : ByteArray} {nL : Nat} {ret : Option FieldType} {fl : Nat → Option (Nat × Nat)} {d : Nat} {y : MethodName} {vs : List MV} {h : MH} {r : Option MV} {h' : MH} (hy : plainName y.cls = true) (hyo : y.cls = own) (hf : flok own fl) (hc : vs.all (fun v => !c2 v) = true) (hn : vs.length ≤ nL)
    (hK : ∀ K : KT, Rules own cc nL ret fl d K → R_ret cc ret (fun r' h2 => r' = r ∧ h2 = h') K → K 0 (entL 0 vs) [] h) : CON d y cc nL ret vs h r h' := by
  intro l D cI cS ad hov
  refine Met.ofW hy rfl ?_
  intro p e s m args below meth c s₁ B hml hv
  obtain ⟨rfl, hw, hKK, hE⟩ := hv
  have hx := B.exec
  have hb := B.bytes
  have hr := B.returns
  have hts := atoms_spec (ws := Cond.code y cc nL ret :: TB) B.pre
  have hown : s.vm.findClass own = some m.cls := by rw [← hyo]; exact findClass_of_methodNamed B.named
  have hlocks := B.notSynchronized
  have hX : CX own cc nL ret p s m (vs.map (tv ad)).toArray meth c D cI cS ad (inA ad) := ⟨hx, hb, hml, hr, hown, fun w hw => hts w (List.mem_cons_of_mem _ hw), hKK, hlocks, hE⟩
  have hM : RMX d (headSpec (Cond.code y cc nL ret :: TB) (rmd d)).room 0 0 := ⟨Nat.le_refl _, Nat.le_refl _, Nat.le_refl _, Nat.le_refl _⟩
  have hRu := rules_ok (l := l) (e := e) (below := below) (Q := MQ below (QM D cI cS ad r h') (vs.map (tv ad)).toArray s 0 0 (inA ad)) hX hM hf
  rw [lg_entry_eq]
  have hl := lv_entry (vs.map (tv ad)) (n := nL) (by rw [entL_len ad vs hc]; exact hn)
  generalize (lg_sl (vs.map (tv ad)) ++ List.replicate (nL - (lg_sl (vs.map (tv ad))).length) Slot.unset).toArray = ls at hl ⊢
  rw [entL_args ad vs 0 hc] at hl
  refine hK _ hRu ?_ (entL_ok vs 0 hov) (fun v hv => by cases hv) s.heap ls [] hw va_S.rf hl
  refine ⟨?_, ?_, ?_, ?_, ?_⟩
  · intro pc L h z hd hr2 ⟨e1, e2⟩ hoL hoS H ls locs hw hS hl
    subst e1; subst e2
    exact W.iret hx hb (by rw [hr, hr2]) (fun t ht hW => ⟨rfl, fun v hv => by cases hv; exact hoS _ List.mem_cons_self, by rw [ht]; exact hw, hS.F ht⟩) hS.2.2 (dk_eq hd)
  · intro pc L h z hd hr2 hz ⟨e1, e2⟩ hoL hoS H ls locs hw hS hl
    subst e1; subst e2
    exact W.zret (ty := .boolean) hx hb (by rw [hr, hr2]) (by rcases hz with rfl | rfl <;> decide) (fun t ht hW => ⟨rfl, fun v hv => by cases hv; exact hoS _ List.mem_cons_self, by rw [ht]; exact hw, hS.F ht⟩) hS.2.2 (dk_eq hd)
  · intro pc L h o hd hr2 ⟨e1, e2⟩ hoL hoS H ls locs hw hS hl
    subst e1; subst e2
    obtain ⟨n, hr2⟩ := hr2
    refine W.aret (v := tv ad (vO o)) (rt := .object n) hx hb (by rw [hr, hr2]) (Or.inl ⟨n, rfl⟩) ?_ (fun t ht hW => ⟨rfl, fun v hv => by cases hv; exact trivial, by rw [ht]; exact hw, hS.F ht⟩) hS.2.2 (dk_eq hd)
    cases o with
    | none => exact Or.inl rfl
    | some i => exact Or.inr ⟨_, rfl⟩
  · intro pc L h z hd hr2 ⟨e1, e2⟩ hoL hoS H ls locs hw hS hl
    subst e1; subst e2
    exact W.dret hx hb (by rw [hr, hr2]) (fun t ht hW => ⟨rfl, fun v hv => by cases hv; exact trivial, by rw [ht]; exact hw, hS.F ht⟩) hS.2.2 (dk_eq hd)
  · intro pc L h hd hr2 ⟨e1, e2⟩ hoL hoS H ls locs hw hS hl
    subst e1; subst e2
    exact W.vret hx hb (by rw [hr, hr2]) (fun t ht hW => ⟨rfl, fun v hv => (by cases hv), by rw [ht]; exact hw, hS.F ht⟩) hS.2.2 (dk_eq hd)
end
section
/-! ===== what the functions F_.. are made of, and the rules as the walks use them ===== -/
def FUEL : Nat := 1000
def gd {α : Type} (c : Prop) [Decidable c] (x : Option α) : Option α := if c then x else none
def om {α : Type} (o : Option Nat) (a : α) (f : Nat → α) : α := match o with
  | none => a
  | some i => f i
def os {α β γ : Type} (x : Option (Sum α β)) (f : α → Option γ) (g : β → Option γ) : Option γ := match x with
  | none => none
  | some (.inl a) => f a
  | some (.inr b) => g b
theorem ite_t {α : Type} {c : Prop} [Decidable c] {a b r : α} (hc : c) (h : (if c then a else b) = r) : a = r := by rwa [if_pos hc] at h
theorem ite_f {α : Type} {c : Prop} [Decidable c] {a b r : α} (hc : ¬ c) (h : (if c then a else b) = r) : b = r := by rwa [if_neg hc] at h
theorem gd_elim {α : Type} {c : Prop} [Decidable c] {x : Option α} {r : α} (h : gd c x = some r) : c ∧ x = some r := by
  unfold gd at h
  by_cases hc : c
  · rw [if_pos hc] at h; exact ⟨hc, h⟩
  · rw [if_neg hc] at h; cases h
theorem om_n {α : Type} {o : Option Nat} {a r : α} {f : Nat → α} (ho : o = none) (h : om o a f = r) : a = r := by subst ho; exact h
theorem om_s {α : Type} {o : Option Nat} {i : Nat} {a r : α} {f : Nat → α} (ho : o = some i) (h : om o a f = r) : f i = r := by subst ho; exact h
theorem os_elim {α β γ : Type} {x : Option (Sum α β)} {f : α → Option γ} {g : β → Option γ} {r : γ} (h : os x f g = some r) : ∃ out, x = some out ∧ (∀ a, out = Sum.inl a → f a = some r) ∧ (∀ b, out = Sum.inr b → g b = some r) := by
  cases x with
  | none => cases h
  | some out =>
    refine ⟨out, rfl, fun a ha => ?_, fun b hb => ?_⟩
    · subst ha; exact h
    · subst hb; exact h
theorem sub_of {L L' : ML} (ks : List Nat) (h : ks.filterMap (fun k => L[k]?) = L') : ∀ q ∈ L', q ∈ L := by
  intro q hq
  rw [← h] at hq
  obtain ⟨k, -, hk⟩ := List.mem_filterMap.mp hq
  exact List.mem_of_getElem? hk
section GRULES
variable {own : String} {cc : ByteArray} {nL : Nat} {ret : Option FieldType} {fl : Nat → Option (Nat × Nat)} {d : Nat} {K : KT} {L : ML} {st : List MV} {h : MH}
theorem g_seg (hK : Rules own cc nL ret fl d K) (is : List Instr) (pc pc' : Nat) {L1 : ML} {st1 : List MV} {h1 : MH} {P : Prop} (hs : sits cc pc is = true) (hr : mrun fl nL is L st h = some ((L1, st1, h1), P)) (hp : pc + plen is = pc') (hP : P) (k : K pc' L1 st1 h1) : K pc L st h := by
  subst hp
  exact hK.1 is pc L L1 st st1 h h1 P hs hr hP k
theorem g_goto (hK : Rules own cc nL ret fl d K) (pc : Nat) (off : Int) (tgt : Nat) (hd : dk cc pc (.goto off) 3 = true) (ht : (pc : Int) + off = (tgt : Int)) (k : K tgt L st h) : K pc L st h := hK.2.2.1 pc off tgt L st h hd ht k
theorem g_icmp (hK : Rules own cc nL ret fl d K) (pc : Nat) (cd : ClassFile.Cond) (off : Int) (tgt : Nat) {t1 t2 : Nat} {x y : Int} (hd : dk cc pc (.if_icmp cd off) 3 = true) (ht : (pc : Int) + off = (tgt : Int)) (h1 : jt cd tgt (pc + 3) = t1) (h2 : jt cd (pc + 3) tgt = t2) (kt : cmpB cd x y → K t1 L st h) (kf : ¬ cmpB cd x y → K t2 L st h) : K pc L (vI y :: vI x :: st) h := by
  subst h1; subst h2
  exact hK.2.2.2.1 pc cd off tgt L st h x y hd ht kt kf
theorem g_ifz (hK : Rules own cc nL ret fl d K) (pc : Nat) (cd : ClassFile.Cond) (off : Int) (tgt : Nat) {t1 t2 : Nat} {x : Int} (hd : dk cc pc (.ifCond cd off) 3 = true) (ht : (pc : Int) + off = (tgt : Int)) (h1 : jt cd tgt (pc + 3) = t1) (h2 : jt cd (pc + 3) tgt = t2) (kt : cmpB cd x 0 → K t1 L st h) (kf : ¬ cmpB cd x 0 → K t2 L st h) : K pc L (vI x :: st) h := by
  subst h1; subst h2
  exact hK.2.2.2.2.1 pc cd off tgt L st h x hd ht kt kf
theorem g_null (hK : Rules own cc nL ret fl d K) (pc : Nat) (off : Int) (tgt : Nat) {o : Option Nat} (hd : dk cc pc (.ifnull off) 3 = true) (ht : (pc : Int) + off = (tgt : Int)) (kt : o = none → K tgt L st h) (kf : ∀ i, o = some i → K (pc + 3) L st h) : K pc L (vO o :: st) h := hK.2.2.2.2.2.1 pc off tgt L st h o hd ht kt kf
theorem g_sw (hK : Rules own cc nL ret fl d K) (pc : Nat) (dflt lo hi : Int) (offs : Array Int) (len : Nat) {x : Int} (hd : dk cc pc (.tableswitch dflt lo hi offs) len = true) (hq : (0 ≤ (pc : Int) + dflt) ∧ (∀ o ∈ offs.toList, 0 ≤ (pc : Int) + o) ∧ hi - lo < offs.toList.length) (k : K (swT pc dflt lo hi offs.toList x) L st h) : K pc L (vI x :: st) h := hK.2.2.2.2.2.2.1 pc dflt lo hi offs len L st h x hd hq k
theorem g_ldc (hK : Rules own cc nL ret fl d K) (pc pc' : Nat) (ho : own = "HunkSlides") (hd : dk cc pc (.ldc sgIdx) 2 = true) (hp : pc + 2 = pc') (k : K pc' L (vR 101 :: st) h) : K pc L st h := by
  subst hp
  exact hK.2.2.2.2.2.2.2.1 pc L st h ho hd k
theorem g_callV1 (hK : Rules own cc nL ret fl d K) (pc idx : Nat) {d1 ci i maxL : Nat} {y : MethodName} {bytes : ByteArray} {ret' : Option FieldType} {vs rest : List MV} {h1 : MH} {r : MV} (hmy : MY y bytes maxL ret' vs.length) (hvw : VW own idx y) (hdd : d1 < d) (hc : CON d1 y bytes maxL ret' (vR i :: vs) h (some r) h1) (hki : kd i = ci + 2) (hci : (vwCl[ci]?).map (fun q => q.1) = some y.cls) (hst : st = vs.reverse ++ vR i :: rest) (hrest : rest.length ≤ 4) (hd : dk cc pc (.invokevirtual idx) 3 = true) (k : K (pc + 3) L (r :: rest) h1) : K pc L st h := by
  subst hst
  exact hK.2.2.2.2.2.2.2.2.1 pc idx d1 ci i maxL y bytes ret' vs rest L h h1 (some r) hmy hvw hdd hc hki hci hrest hd k
theorem g_callV0 (hK : Rules own cc nL ret fl d K) (pc idx : Nat) {d1 ci i maxL : Nat} {y : MethodName} {bytes : ByteArray} {ret' : Option FieldType} {vs rest : List MV} {h1 : MH} (hmy : MY y bytes maxL ret' vs.length) (hvw : VW own idx y) (hdd : d1 < d) (hc : CON d1 y bytes maxL ret' (vR i :: vs) h none h1) (hki : kd i = ci + 2) (hci : (vwCl[ci]?).map (fun q => q.1) = some y.cls) (hst : st = vs.reverse ++ vR i :: rest) (hrest : rest.length ≤ 4) (hd : dk cc pc (.invokevirtual idx) 3 = true) (k : K (pc + 3) L rest h1) : K pc L st h := by
  subst hst
  exact hK.2.2.2.2.2.2.2.2.1 pc idx d1 ci i maxL y bytes ret' vs rest L h h1 none hmy hvw hdd hc hki hci hrest hd k
theorem g_callS1 (hK : Rules own cc nL ret fl d K) (pc idx : Nat) {d1 maxL : Nat} {y : MethodName} {bytes : ByteArray} {ret' : Option FieldType} {vs rest : List MV} {h1 : MH} {r : MV} (hmy : MY y bytes maxL ret' vs.length) (hsw : SW own idx y) (hdd : d1 < d) (hc : CON d1 y bytes maxL ret' vs h (some r) h1) (hst : st = vs.reverse ++ rest) (hrest : rest.length ≤ 4) (hd : dk cc pc (.invokestatic idx) 3 = true) (k : K (pc + 3) L (r :: rest) h1) : K pc L st h := by
  subst hst
  exact hK.2.2.2.2.2.2.2.2.2.1 pc idx d1 maxL y bytes ret' vs rest L h h1 (some r) hmy hsw hdd hc hrest hd k
theorem g_callS0 (hK : Rules own cc nL ret fl d K) (pc idx : Nat) {d1 maxL : Nat} {y : MethodName} {bytes : ByteArray} {ret' : Option FieldType} {vs rest : List MV} {h1 : MH} (hmy : MY y bytes maxL ret' vs.length) (hsw : SW own idx y) (hdd : d1 < d) (hc : CON d1 y bytes maxL ret' vs h none h1) (hst : st = vs.reverse ++ rest) (hrest : rest.length ≤ 4) (hd : dk cc pc (.invokestatic idx) 3 = true) (k : K (pc + 3) L rest h1) : K pc L st h := by
  subst hst
  exact hK.2.2.2.2.2.2.2.2.2.1 pc idx d1 maxL y bytes ret' vs rest L h h1 none hmy hsw hdd hc hrest hd k
theorem g_callG1 (hK : Rules own cc nL ret fl d K) (pc idx : Nat) {d1 maxL : Nat} {y : MethodName} {bytes : ByteArray} {ret' : Option FieldType} {vs rest : List MV} {r : MV} (hyc : y.cls = "java/lang/String") (hmy : MY y bytes maxL ret' vs.length) (hvw : VW own idx y) (hdd : d1 < d) (hc : CON d1 y bytes maxL ret' (vR 101 :: vs) h (some r) h) (hst : st = vs.reverse ++ vR 101 :: rest) (hrest : rest.length ≤ 4) (hd : dk cc pc (.invokevirtual idx) 3 = true) (k : K (pc + 3) L (r :: rest) h) : K pc L st h := by
  subst hst
  exact hK.2.2.2.2.2.2.2.2.2.2.1 pc idx d1 maxL y bytes ret' vs rest L h h (some r) hyc hmy hvw hdd hc hrest hd k
theorem g_mmax (hK : Rules own cc nL ret fl d K) (pc idx : Nat) {x y : Int} (h1 : 1 ≤ d) (hm : MW own idx Lib.Math.max.name Lib.Math.max.code) (hlen : st.length ≤ 4) (hd : dk cc pc (.invokestatic idx) 3 = true) (k : K (pc + 3) L (vI (imax x y) :: st) h) : K pc L (vI y :: vI x :: st) h := hK.2.2.2.2.2.2.2.2.2.2.2.1 pc idx L st h x y h1 hm hlen hd k
theorem g_mmin (hK : Rules own cc nL ret fl d K) (pc idx : Nat) {x y : Int} (h1 : 1 ≤ d) (hm : MW own idx Lib.Math.min.name Lib.Math.min.code) (hlen : st.length ≤ 4) (hd : dk cc pc (.invokestatic idx) 3 = true) (k : K (pc + 3) L (vI (imin x y) :: st) h) : K pc L (vI y :: vI x :: st) h := hK.2.2.2.2.2.2.2.2.2.2.2.2 pc idx L st h x y h1 hm hlen hd k
end GRULES
theorem tb_in {w : Cond} (i : Nat) (h : lw_tbl[i]? = some w) (hg : goodWord w = true) : w ∈ TB := List.mem_filter.mpr ⟨List.mem_of_getElem? h, hg⟩
theorem tb_all {ws : List Cond} (h : ∀ w ∈ ws, w ∈ lw_tbl) (hg : ws.all goodWord = true) : ∀ w ∈ ws, w ∈ TB := fun w hw => List.mem_filter.mpr ⟨h w hw, List.all_eq_true.mp hg w hw⟩
theorem flok_of {own : String} {l : List (Nat × (Nat × Nat))} (h : ∀ q ∈ l, FLD own q.1 q.2.1 q.2.2) : flok own (fun i => l.lookup i) := by
  intro idx ci k
  induction l with
  | nil => intro hq; cases hq
  | cons q l ih =>
    intro hq
    obtain ⟨a, b⟩ := q
    have hq : ((a, b) :: l).lookup idx = some (ci, k) := hq
    rw [List.lookup_cons] at hq
    by_cases hc : idx = a
    · subst hc
      simp at hq
      have := h (idx, b) List.mem_cons_self
      rw [hq] at this
      exact this
    · have hne : (idx == a) = false := by simpa using hc
      rw [hne] at hq
      exact ih (fun q hq => h q (List.mem_cons_of_mem _ hq)) hq
theorem kt_all {a b k : Nat} (ha : a < 1000) (h : ((List.range NC).all (fun i => !(kd i == a) || (kd (rf i k) == b))) = true) {i : Nat} (hi : kd i = a) : kd (rf i k) = b := by
  have h1 := List.all_eq_true.mp h i (List.mem_range.mpr (kd_lt hi ha))
  simp [hi] at h1
  exact h1
def sg_length : Int := 9
def sg_indexOf (c : Int) : Int := if c = 97 then 0 else if c = 98 then 1 else if c = 99 then 2 else if c = 100 then 3 else if c = 101 then 4 else if c = 102 then 5 else if c = 46 then 6 else if c = 123 then 7 else if c = 125 then 8 else -1
def ob1 {α0 : Type} {β : Type} (x : Option (α0)) (f : α0 → Option β) : Option β := match x with
  | none => none
  | some x0 => f x0
theorem ob1_elim {α0 : Type} {β : Type} {x : Option (α0)} {f : α0 → Option β} {r : β} (h : ob1 x f = some r) : ∃ x0, x = some x0 ∧ f x0 = some r := by
  cases x with
  | none => cases h
  | some q => exact ⟨q, rfl, h⟩
def jn1 {α0 : Type} {β : Type} (x : α0) (f : α0 → β) : β := match x with
  | x0 => f x0
theorem jn1_elim {α0 : Type} {β : Type} {x : α0} {f : α0 → β} {r : β} (h : jn1 x f = r) : ∃ x0, x = x0 ∧ f x0 = r := ⟨x, rfl, h⟩
def jk1 {α0 : Type} {γ β : Type} (f : α0 → γ) (g : (α0 → γ) → β) : β := g f
theorem jk1_elim {α0 : Type} {γ β : Type} {f : α0 → γ} {g : (α0 → γ) → β} {r : β} (h : jk1 f g = r) : ∃ k, (∀ x0, k x0 = f x0) ∧ g k = r := ⟨f, fun x0 => rfl, h⟩
def ob2 {α0 α1 : Type} {β : Type} (x : Option (α0 × α1)) (f : α0 → α1 → Option β) : Option β := match x with
  | none => none
  | some (x0, x1) => f x0 x1
theorem ob2_elim {α0 α1 : Type} {β : Type} {x : Option (α0 × α1)} {f : α0 → α1 → Option β} {r : β} (h : ob2 x f = some r) : ∃ x0, ∃ x1, x = some (x0, x1) ∧ f x0 x1 = some r := by
  cases x with
  | none => cases h
  | some q => exact ⟨q.1, q.2, rfl, h⟩
def jn2 {α0 α1 : Type} {β : Type} (x : α0 × α1) (f : α0 → α1 → β) : β := match x with
  | (x0, x1) => f x0 x1
theorem jn2_elim {α0 α1 : Type} {β : Type} {x : α0 × α1} {f : α0 → α1 → β} {r : β} (h : jn2 x f = r) : ∃ x0, ∃ x1, x = (x0, x1) ∧ f x0 x1 = r := ⟨x.1, x.2, rfl, h⟩
def jk2 {α0 α1 : Type} {γ β : Type} (f : α0 → α1 → γ) (g : (α0 → α1 → γ) → β) : β := g f
theorem jk2_elim {α0 α1 : Type} {γ β : Type} {f : α0 → α1 → γ} {g : (α0 → α1 → γ) → β} {r : β} (h : jk2 f g = r) : ∃ k, (∀ x0 x1, k x0 x1 = f x0 x1) ∧ g k = r := ⟨f, fun x0 x1 => rfl, h⟩
def ob3 {α0 α1 α2 : Type} {β : Type} (x : Option (α0 × α1 × α2)) (f : α0 → α1 → α2 → Option β) : Option β := match x with
  | none => none
  | some (x0, x1, x2) => f x0 x1 x2
theorem ob3_elim {α0 α1 α2 : Type} {β : Type} {x : Option (α0 × α1 × α2)} {f : α0 → α1 → α2 → Option β} {r : β} (h : ob3 x f = some r) : ∃ x0, ∃ x1, ∃ x2, x = some (x0, x1, x2) ∧ f x0 x1 x2 = some r := by
  cases x with
  | none => cases h
  | some q => exact ⟨q.1, q.2.1, q.2.2, rfl, h⟩
def jn3 {α0 α1 α2 : Type} {β : Type} (x : α0 × α1 × α2) (f : α0 → α1 → α2 → β) : β := match x with
  | (x0, x1, x2) => f x0 x1 x2
theorem jn3_elim {α0 α1 α2 : Type} {β : Type} {x : α0 × α1 × α2} {f : α0 → α1 → α2 → β} {r : β} (h : jn3 x f = r) : ∃ x0, ∃ x1, ∃ x2, x = (x0, x1, x2) ∧ f x0 x1 x2 = r := ⟨x.1, x.2.1, x.2.2, rfl, h⟩
def jk3 {α0 α1 α2 : Type} {γ β : Type} (f : α0 → α1 → α2 → γ) (g : (α0 → α1 → α2 → γ) → β) : β := g f
theorem jk3_elim {α0 α1 α2 : Type} {γ β : Type} {f : α0 → α1 → α2 → γ} {g : (α0 → α1 → α2 → γ) → β} {r : β} (h : jk3 f g = r) : ∃ k, (∀ x0 x1 x2, k x0 x1 x2 = f x0 x1 x2) ∧ g k = r := ⟨f, fun x0 x1 x2 => rfl, h⟩
def ob4 {α0 α1 α2 α3 : Type} {β : Type} (x : Option (α0 × α1 × α2 × α3)) (f : α0 → α1 → α2 → α3 → Option β) : Option β := match x with
  | none => none
  | some (x0, x1, x2, x3) => f x0 x1 x2 x3
theorem ob4_elim {α0 α1 α2 α3 : Type} {β : Type} {x : Option (α0 × α1 × α2 × α3)} {f : α0 → α1 → α2 → α3 → Option β} {r : β} (h : ob4 x f = some r) : ∃ x0, ∃ x1, ∃ x2, ∃ x3, x = some (x0, x1, x2, x3) ∧ f x0 x1 x2 x3 = some r := by
  cases x with
  | none => cases h
  | some q => exact ⟨q.1, q.2.1, q.2.2.1, q.2.2.2, rfl, h⟩
def jn4 {α0 α1 α2 α3 : Type} {β : Type} (x : α0 × α1 × α2 × α3) (f : α0 → α1 → α2 → α3 → β) : β := match x with
  | (x0, x1, x2, x3) => f x0 x1 x2 x3
theorem jn4_elim {α0 α1 α2 α3 : Type} {β : Type} {x : α0 × α1 × α2 × α3} {f : α0 → α1 → α2 → α3 → β} {r : β} (h : jn4 x f = r) : ∃ x0, ∃ x1, ∃ x2, ∃ x3, x = (x0, x1, x2, x3) ∧ f x0 x1 x2 x3 = r := ⟨x.1, x.2.1, x.2.2.1, x.2.2.2, rfl, h⟩
def jk4 {α0 α1 α2 α3 : Type} {γ β : Type} (f : α0 → α1 → α2 → α3 → γ) (g : (α0 → α1 → α2 → α3 → γ) → β) : β := g f
theorem jk4_elim {α0 α1 α2 α3 : Type} {γ β : Type} {f : α0 → α1 → α2 → α3 → γ} {g : (α0 → α1 → α2 → α3 → γ) → β} {r : β} (h : jk4 f g = r) : ∃ k, (∀ x0 x1 x2 x3, k x0 x1 x2 x3 = f x0 x1 x2 x3) ∧ g k = r := ⟨f, fun x0 x1 x2 x3 => rfl, h⟩
def ob5 {α0 α1 α2 α3 α4 : Type} {β : Type} (x : Option (α0 × α1 × α2 × α3 × α4)) (f : α0 → α1 → α2 → α3 → α4 → Option β) : Option β := match x with
  | none => none
  | some (x0, x1, x2, x3, x4) => f x0 x1 x2 x3 x4
theorem ob5_elim {α0 α1 α2 α3 α4 : Type} {β : Type} {x : Option (α0 × α1 × α2 × α3 × α4)} {f : α0 → α1 → α2 → α3 → α4 → Option β} {r : β} (h : ob5 x f = some r) : ∃ x0, ∃ x1, ∃ x2, ∃ x3, ∃ x4, x = some (x0, x1, x2, x3, x4) ∧ f x0 x1 x2 x3 x4 = some r := by
  cases x with
  | none => cases h
  | some q => exact ⟨q.1, q.2.1, q.2.2.1, q.2.2.2.1, q.2.2.2.2, rfl, h⟩
def jn5 {α0 α1 α2 α3 α4 : Type} {β : Type} (x : α0 × α1 × α2 × α3 × α4) (f : α0 → α1 → α2 → α3 → α4 → β) : β := match x with
  | (x0, x1, x2, x3, x4) => f x0 x1 x2 x3 x4
theorem jn5_elim {α0 α1 α2 α3 α4 : Type} {β : Type} {x : α0 × α1 × α2 × α3 × α4} {f : α0 → α1 → α2 → α3 → α4 → β} {r : β} (h : jn5 x f = r) : ∃ x0, ∃ x1, ∃ x2, ∃ x3, ∃ x4, x = (x0, x1, x2, x3, x4) ∧ f x0 x1 x2 x3 x4 = r := ⟨x.1, x.2.1, x.2.2.1, x.2.2.2.1, x.2.2.2.2, rfl, h⟩
def jk5 {α0 α1 α2 α3 α4 : Type} {γ β : Type} (f : α0 → α1 → α2 → α3 → α4 → γ) (g : (α0 → α1 → α2 → α3 → α4 → γ) → β) : β := g f
theorem jk5_elim {α0 α1 α2 α3 α4 : Type} {γ β : Type} {f : α0 → α1 → α2 → α3 → α4 → γ} {g : (α0 → α1 → α2 → α3 → α4 → γ) → β} {r : β} (h : jk5 f g = r) : ∃ k, (∀ x0 x1 x2 x3 x4, k x0 x1 x2 x3 x4 = f x0 x1 x2 x3 x4) ∧ g k = r := ⟨f, fun x0 x1 x2 x3 x4 => rfl, h⟩
def ob6 {α0 α1 α2 α3 α4 α5 : Type} {β : Type} (x : Option (α0 × α1 × α2 × α3 × α4 × α5)) (f : α0 → α1 → α2 → α3 → α4 → α5 → Option β) : Option β := match x with
  | none => none
  | some (x0, x1, x2, x3, x4, x5) => f x0 x1 x2 x3 x4 x5
theorem ob6_elim {α0 α1 α2 α3 α4 α5 : Type} {β : Type} {x : Option (α0 × α1 × α2 × α3 × α4 × α5)} {f : α0 → α1 → α2 → α3 → α4 → α5 → Option β} {r : β} (h : ob6 x f = some r) : ∃ x0, ∃ x1, ∃ x2, ∃ x3, ∃ x4, ∃ x5, x = some (x0, x1, x2, x3, x4, x5) ∧ f x0 x1 x2 x3 x4 x5 = some r := by
  cases x with
  | none => cases h
  | some q => exact ⟨q.1, q.2.1, q.2.2.1, q.2.2.2.1, q.2.2.2.2.1, q.2.2.2.2.2, rfl, h⟩
def jn6 {α0 α1 α2 α3 α4 α5 : Type} {β : Type} (x : α0 × α1 × α2 × α3 × α4 × α5) (f : α0 → α1 → α2 → α3 → α4 → α5 → β) : β := match x with
  | (x0, x1, x2, x3, x4, x5) => f x0 x1 x2 x3 x4 x5
theorem jn6_elim {α0 α1 α2 α3 α4 α5 : Type} {β : Type} {x : α0 × α1 × α2 × α3 × α4 × α5} {f : α0 → α1 → α2 → α3 → α4 → α5 → β} {r : β} (h : jn6 x f = r) : ∃ x0, ∃ x1, ∃ x2, ∃ x3, ∃ x4, ∃ x5, x = (x0, x1, x2, x3, x4, x5) ∧ f x0 x1 x2 x3 x4 x5 = r := ⟨x.1, x.2.1, x.2.2.1, x.2.2.2.1, x.2.2.2.2.1, x.2.2.2.2.2, rfl, h⟩
def jk6 {α0 α1 α2 α3 α4 α5 : Type} {γ β : Type} (f : α0 → α1 → α2 → α3 → α4 → α5 → γ) (g : (α0 → α1 → α2 → α3 → α4 → α5 → γ) → β) : β := g f
theorem jk6_elim {α0 α1 α2 α3 α4 α5 : Type} {γ β : Type} {f : α0 → α1 → α2 → α3 → α4 → α5 → γ} {g : (α0 → α1 → α2 → α3 → α4 → α5 → γ) → β} {r : β} (h : jk6 f g = r) : ∃ k, (∀ x0 x1 x2 x3 x4 x5, k x0 x1 x2 x3 x4 x5 = f x0 x1 x2 x3 x4 x5) ∧ g k = r := ⟨f, fun x0 x1 x2 x3 x4 x5 => rfl, h⟩
def ob7 {α0 α1 α2 α3 α4 α5 α6 : Type} {β : Type} (x : Option (α0 × α1 × α2 × α3 × α4 × α5 × α6)) (f : α0 → α1 → α2 → α3 → α4 → α5 → α6 → Option β) : Option β := match x with
  | none => none
  | some (x0, x1, x2, x3, x4, x5, x6) => f x0 x1 x2 x3 x4 x5 x6
theorem ob7_elim {α0 α1 α2 α3 α4 α5 α6 : Type} {β : Type} {x : Option (α0 × α1 × α2 × α3 × α4 × α5 × α6)} {f : α0 → α1 → α2 → α3 → α4 → α5 → α6 → Option β} {r : β} (h : ob7 x f = some r) : ∃ x0, ∃ x1, ∃ x2, ∃ x3, ∃ x4, ∃ x5, ∃ x6, x = some (x0, x1, x2, x3, x4, x5, x6) ∧ f x0 x1 x2 x3 x4 x5 x6 = some r := by
  cases x with
  | none => cases h
  | some q => exact ⟨q.1, q.2.1, q.2.2.1, q.2.2.2.1, q.2.2.2.2.1, q.2.2.2.2.2.1, q.2.2.2.2.2.2, rfl, h⟩
def jn7 {α0 α1 α2 α3 α4 α5 α6 : Type} {β : Type} (x : α0 × α1 × α2 × α3 × α4 × α5 × α6) (f : α0 → α1 → α2 → α3 → α4 → α5 → α6 → β) : β := match x with
  | (x0, x1, x2, x3, x4, x5, x6) => f x0 x1 x2 x3 x4 x5 x6
theorem jn7_elim {α0 α1 α2 α3 α4 α5 α6 : Type} {β : Type} {x : α0 × α1 × α2 × α3 × α4 × α5 × α6} {f : α0 → α1 → α2 → α3 → α4 → α5 → α6 → β} {r : β} (h : jn7 x f = r) : ∃ x0, ∃ x1, ∃ x2, ∃ x3, ∃ x4, ∃ x5, ∃ x6, x = (x0, x1, x2, x3, x4, x5, x6) ∧ f x0 x1 x2 x3 x4 x5 x6 = r := ⟨x.1, x.2.1, x.2.2.1, x.2.2.2.1, x.2.2.2.2.1, x.2.2.2.2.2.1, x.2.2.2.2.2.2, rfl, h⟩
def jk7 {α0 α1 α2 α3 α4 α5 α6 : Type} {γ β : Type} (f : α0 → α1 → α2 → α3 → α4 → α5 → α6 → γ) (g : (α0 → α1 → α2 → α3 → α4 → α5 → α6 → γ) → β) : β := g f
theorem jk7_elim {α0 α1 α2 α3 α4 α5 α6 : Type} {γ β : Type} {f : α0 → α1 → α2 → α3 → α4 → α5 → α6 → γ} {g : (α0 → α1 → α2 → α3 → α4 → α5 → α6 → γ) → β} {r : β} (h : jk7 f g = r) : ∃ k, (∀ x0 x1 x2 x3 x4 x5 x6, k x0 x1 x2 x3 x4 x5 x6 = f x0 x1 x2 x3 x4 x5 x6) ∧ g k = r := ⟨f, fun x0 x1 x2 x3 x4 x5 x6 => rfl, h⟩
end
section
set_option maxRecDepth 100000 in
theorem in_X0 : ∀ w ∈ u_ws RX0 TX0 2, w ∈ TB := tb_all (by decide +kernel) (by decide +kernel)
set_option maxRecDepth 100000 in
theorem in_X1 : ∀ w ∈ u_ws RX1 TX1 2, w ∈ TB := tb_all (by decide +kernel) (by decide +kernel)
set_option maxRecDepth 100000 in
theorem in_X2 : ∀ w ∈ u_ws RX2 TX2 10, w ∈ TB := tb_all (by decide +kernel) (by decide +kernel)
set_option maxRecDepth 100000 in
theorem in_X3 : ∀ w ∈ u_ws RX3 TX3 2, w ∈ TB := tb_all (by decide +kernel) (by decide +kernel)
set_option maxRecDepth 100000 in
theorem in_X4 : ∀ w ∈ u_ws RX4 TX4 7, w ∈ TB := tb_all (by decide +kernel) (by decide +kernel)
set_option maxRecDepth 100000 in
theorem in_X5 : ∀ w ∈ u_ws RX5 TX5 5, w ∈ TB := tb_all (by decide +kernel) (by decide +kernel)
set_option maxRecDepth 100000 in
theorem in_X6 : ∀ w ∈ u_ws RX6 TX6 9, w ∈ TB := tb_all (by decide +kernel) (by decide +kernel)
set_option maxRecDepth 100000 in
theorem in_X7 : ∀ w ∈ u_ws RX7 TX7 17, w ∈ TB := tb_all (by decide +kernel) (by decide +kernel)
def fl0 : Nat → Option (Nat × Nat) := fun i => ([] : List (Nat × (Nat × Nat))).lookup i
theorem flok_0 : flok "java/lang/Math" fl0 := flok_of (fun q hq => by cases hq)
set_option maxRecDepth 100000 in
theorem fld_X0_16 : FLD RX0 16 0 0 := ⟨RX0, TX0, 2, tyX0, rfl, by decide, by decide, rfl, (tb_in 142 (by decide +kernel) (by decide +kernel)), in_X0, tyX0_ok, nmX0, fun h => absurd h (by decide), fun h => absurd h (by decide), fun h => absurd (show fc 0 0 = 2 by decide) h⟩
set_option maxRecDepth 100000 in
theorem fld_X0_20 : FLD RX0 20 0 1 := ⟨RX0, TX0, 2, tyX0, rfl, by decide, by decide, rfl, (tb_in 143 (by decide +kernel) (by decide +kernel)), in_X0, tyX0_ok, nmX0, fun h => absurd h (by decide), fun h => absurd h (by decide), fun h => absurd (show fc 0 1 = 2 by decide) h⟩
def flX0 : Nat → Option (Nat × Nat) := fun i => ([(16, (0, 0)), (20, (0, 1))] : List (Nat × (Nat × Nat))).lookup i
theorem flok_X0 : flok RX0 flX0 := flok_of (List.forall_mem_cons.mpr ⟨fld_X0_16, List.forall_mem_cons.mpr ⟨fld_X0_20, List.forall_mem_nil _⟩⟩)
set_option maxRecDepth 100000 in
theorem fld_X1_11 : FLD RX1 11 1 0 := ⟨RX1, TX1, 2, tyX1, rfl, by decide, by decide, rfl, (tb_in 127 (by decide +kernel) (by decide +kernel)), in_X1, tyX1_ok, nmX1, fun h => absurd h (by decide), fun h => absurd h (by decide), fun h => absurd (show fc 1 0 = 2 by decide) h⟩
set_option maxRecDepth 100000 in
theorem fld_X1_17 : FLD RX1 17 1 1 := ⟨RX1, TX1, 2, tyX1, rfl, by decide, by decide, rfl, (tb_in 128 (by decide +kernel) (by decide +kernel)), in_X1, tyX1_ok, nmX1, fun _ => rfl, fun h => absurd h (by decide), fun _ => rfl⟩
def flX1 : Nat → Option (Nat × Nat) := fun i => ([(11, (1, 0)), (17, (1, 1))] : List (Nat × (Nat × Nat))).lookup i
theorem flok_X1 : flok RX1 flX1 := flok_of (List.forall_mem_cons.mpr ⟨fld_X1_11, List.forall_mem_cons.mpr ⟨fld_X1_17, List.forall_mem_nil _⟩⟩)
set_option maxRecDepth 100000 in
theorem fld_X2_14 : FLD RX2 14 2 0 := ⟨RX2, TX2, 10, tyX2, rfl, by decide, by decide, rfl, (tb_in 181 (by decide +kernel) (by decide +kernel)), in_X2, tyX2_ok, nmX2, fun h => absurd h (by decide), fun h => absurd h (by decide), fun h => absurd (show fc 2 0 = 2 by decide) h⟩
set_option maxRecDepth 100000 in
theorem fld_X2_20 : FLD RX2 20 2 1 := ⟨RX2, TX2, 10, tyX2, rfl, by decide, by decide, rfl, (tb_in 182 (by decide +kernel) (by decide +kernel)), in_X2, tyX2_ok, nmX2, fun h => absurd h (by decide), fun h => absurd h (by decide), fun h => absurd (show fc 2 1 = 2 by decide) h⟩
set_option maxRecDepth 100000 in
theorem fld_X2_23 : FLD RX2 23 2 2 := ⟨RX2, TX2, 10, tyX2, rfl, by decide, by decide, rfl, (tb_in 183 (by decide +kernel) (by decide +kernel)), in_X2, tyX2_ok, nmX2, fun h => absurd h (by decide), fun h => absurd h (by decide), fun h => absurd (show fc 2 2 = 2 by decide) h⟩
set_option maxRecDepth 100000 in
theorem fld_X2_26 : FLD RX2 26 2 3 := ⟨RX2, TX2, 10, tyX2, rfl, by decide, by decide, rfl, (tb_in 184 (by decide +kernel) (by decide +kernel)), in_X2, tyX2_ok, nmX2, fun h => absurd h (by decide), fun h => absurd h (by decide), fun h => absurd (show fc 2 3 = 2 by decide) h⟩
set_option maxRecDepth 100000 in
theorem fld_X2_29 : FLD RX2 29 2 4 := ⟨RX2, TX2, 10, tyX2, rfl, by decide, by decide, rfl, (tb_in 185 (by decide +kernel) (by decide +kernel)), in_X2, tyX2_ok, nmX2, fun h => absurd h (by decide), fun h => absurd h (by decide), fun h => absurd (show fc 2 4 = 2 by decide) h⟩
set_option maxRecDepth 100000 in
theorem fld_X2_32 : FLD RX2 32 2 5 := ⟨RX2, TX2, 10, tyX2, rfl, by decide, by decide, rfl, (tb_in 186 (by decide +kernel) (by decide +kernel)), in_X2, tyX2_ok, nmX2, fun _ => rfl, fun h => absurd h (by decide), fun _ => rfl⟩
set_option maxRecDepth 100000 in
theorem fld_X2_36 : FLD RX2 36 2 6 := ⟨RX2, TX2, 10, tyX2, rfl, by decide, by decide, rfl, (tb_in 187 (by decide +kernel) (by decide +kernel)), in_X2, tyX2_ok, nmX2, fun _ => rfl, fun h => absurd h (by decide), fun _ => rfl⟩
set_option maxRecDepth 100000 in
theorem fld_X2_39 : FLD RX2 39 2 7 := ⟨RX2, TX2, 10, tyX2, rfl, by decide, by decide, rfl, (tb_in 188 (by decide +kernel) (by decide +kernel)), in_X2, tyX2_ok, nmX2, fun _ => rfl, fun h => absurd h (by decide), fun _ => rfl⟩
set_option maxRecDepth 100000 in
theorem fld_X2_42 : FLD RX2 42 2 8 := ⟨RX2, TX2, 10, tyX2, rfl, by decide, by decide, rfl, (tb_in 189 (by decide +kernel) (by decide +kernel)), in_X2, tyX2_ok, nmX2, fun _ => rfl, fun h => absurd h (by decide), fun _ => rfl⟩
set_option maxRecDepth 100000 in
theorem fld_X2_45 : FLD RX2 45 2 9 := ⟨RX2, TX2, 10, tyX2, rfl, by decide, by decide, rfl, (tb_in 190 (by decide +kernel) (by decide +kernel)), in_X2, tyX2_ok, nmX2, fun _ => rfl, fun h => absurd h (by decide), fun _ => rfl⟩
def flX2 : Nat → Option (Nat × Nat) := fun i => ([(14, (2, 0)), (20, (2, 1)), (23, (2, 2)), (26, (2, 3)), (29, (2, 4)), (32, (2, 5)), (36, (2, 6)), (39, (2, 7)), (42, (2, 8)), (45, (2, 9))] : List (Nat × (Nat × Nat))).lookup i
theorem flok_X2 : flok RX2 flX2 := flok_of (List.forall_mem_cons.mpr ⟨fld_X2_14, List.forall_mem_cons.mpr ⟨fld_X2_20, List.forall_mem_cons.mpr ⟨fld_X2_23, List.forall_mem_cons.mpr ⟨fld_X2_26, List.forall_mem_cons.mpr ⟨fld_X2_29, List.forall_mem_cons.mpr ⟨fld_X2_32, List.forall_mem_cons.mpr ⟨fld_X2_36, List.forall_mem_cons.mpr ⟨fld_X2_39, List.forall_mem_cons.mpr ⟨fld_X2_42, List.forall_mem_cons.mpr ⟨fld_X2_45, List.forall_mem_nil _⟩⟩⟩⟩⟩⟩⟩⟩⟩⟩)
set_option maxRecDepth 100000 in
theorem fld_X3_7 : FLD RX3 7 3 1 := ⟨RX3, TX3, 2, tyX3, rfl, by decide, by decide, rfl, (tb_in 81 (by decide +kernel) (by decide +kernel)), in_X3, tyX3_ok, nmX3, fun _ => rfl, fun h => absurd h (by decide), fun _ => rfl⟩
set_option maxRecDepth 100000 in
theorem fld_X3_13 : FLD RX3 13 3 0 := ⟨RX3, TX3, 2, tyX3, rfl, by decide, by decide, rfl, (tb_in 80 (by decide +kernel) (by decide +kernel)), in_X3, tyX3_ok, nmX3, fun h => absurd h (by decide), fun h => absurd h (by decide), fun h => absurd (show fc 3 0 = 2 by decide) h⟩
def flX3 : Nat → Option (Nat × Nat) := fun i => ([(7, (3, 1)), (13, (3, 0))] : List (Nat × (Nat × Nat))).lookup i
theorem flok_X3 : flok RX3 flX3 := flok_of (List.forall_mem_cons.mpr ⟨fld_X3_7, List.forall_mem_cons.mpr ⟨fld_X3_13, List.forall_mem_nil _⟩⟩)
set_option maxRecDepth 100000 in
theorem fld_X4_14 : FLD RX4 14 4 0 := ⟨RX4, TX4, 7, tyX4, rfl, by decide, by decide, rfl, (tb_in 96 (by decide +kernel) (by decide +kernel)), in_X4, tyX4_ok, nmX4, fun h => absurd h (by decide), fun h => absurd h (by decide), fun h => absurd (show fc 4 0 = 2 by decide) h⟩
set_option maxRecDepth 100000 in
theorem fld_X4_20 : FLD RX4 20 4 1 := ⟨RX4, TX4, 7, tyX4, rfl, by decide, by decide, rfl, (tb_in 97 (by decide +kernel) (by decide +kernel)), in_X4, tyX4_ok, nmX4, fun h => absurd h (by decide), fun h => absurd h (by decide), fun h => absurd (show fc 4 1 = 2 by decide) h⟩
set_option maxRecDepth 100000 in
theorem fld_X4_23 : FLD RX4 23 4 2 := ⟨RX4, TX4, 7, tyX4, rfl, by decide, by decide, rfl, (tb_in 98 (by decide +kernel) (by decide +kernel)), in_X4, tyX4_ok, nmX4, fun h => absurd h (by decide), fun h => absurd h (by decide), fun h => absurd (show fc 4 2 = 2 by decide) h⟩
set_option maxRecDepth 100000 in
theorem fld_X4_26 : FLD RX4 26 4 3 := ⟨RX4, TX4, 7, tyX4, rfl, by decide, by decide, rfl, (tb_in 99 (by decide +kernel) (by decide +kernel)), in_X4, tyX4_ok, nmX4, fun _ => rfl, fun h => absurd h (by decide), fun _ => rfl⟩
set_option maxRecDepth 100000 in
theorem fld_X4_30 : FLD RX4 30 4 4 := ⟨RX4, TX4, 7, tyX4, rfl, by decide, by decide, rfl, (tb_in 100 (by decide +kernel) (by decide +kernel)), in_X4, tyX4_ok, nmX4, fun _ => rfl, fun h => absurd h (by decide), fun _ => rfl⟩
set_option maxRecDepth 100000 in
theorem fld_X4_33 : FLD RX4 33 4 5 := ⟨RX4, TX4, 7, tyX4, rfl, by decide, by decide, rfl, (tb_in 101 (by decide +kernel) (by decide +kernel)), in_X4, tyX4_ok, nmX4, fun _ => rfl, fun h => absurd h (by decide), fun _ => rfl⟩
set_option maxRecDepth 100000 in
theorem fld_X4_36 : FLD RX4 36 4 6 := ⟨RX4, TX4, 7, tyX4, rfl, by decide, by decide, rfl, (tb_in 102 (by decide +kernel) (by decide +kernel)), in_X4, tyX4_ok, nmX4, fun _ => rfl, fun h => absurd h (by decide), fun _ => rfl⟩
def flX4 : Nat → Option (Nat × Nat) := fun i => ([(14, (4, 0)), (20, (4, 1)), (23, (4, 2)), (26, (4, 3)), (30, (4, 4)), (33, (4, 5)), (36, (4, 6))] : List (Nat × (Nat × Nat))).lookup i
theorem flok_X4 : flok RX4 flX4 := flok_of (List.forall_mem_cons.mpr ⟨fld_X4_14, List.forall_mem_cons.mpr ⟨fld_X4_20, List.forall_mem_cons.mpr ⟨fld_X4_23, List.forall_mem_cons.mpr ⟨fld_X4_26, List.forall_mem_cons.mpr ⟨fld_X4_30, List.forall_mem_cons.mpr ⟨fld_X4_33, List.forall_mem_cons.mpr ⟨fld_X4_36, List.forall_mem_nil _⟩⟩⟩⟩⟩⟩⟩)
set_option maxRecDepth 100000 in
theorem fld_X5_14 : FLD RX5 14 5 0 := ⟨RX5, TX5, 5, tyX5, rfl, by decide, by decide, rfl, (tb_in 157 (by decide +kernel) (by decide +kernel)), in_X5, tyX5_ok, nmX5, fun h => absurd h (by decide), fun h => absurd h (by decide), fun h => absurd (show fc 5 0 = 2 by decide) h⟩
set_option maxRecDepth 100000 in
theorem fld_X5_20 : FLD RX5 20 5 1 := ⟨RX5, TX5, 5, tyX5, rfl, by decide, by decide, rfl, (tb_in 158 (by decide +kernel) (by decide +kernel)), in_X5, tyX5_ok, nmX5, fun h => absurd h (by decide), fun h => absurd h (by decide), fun h => absurd (show fc 5 1 = 2 by decide) h⟩
set_option maxRecDepth 100000 in
theorem fld_X5_23 : FLD RX5 23 5 2 := ⟨RX5, TX5, 5, tyX5, rfl, by decide, by decide, rfl, (tb_in 159 (by decide +kernel) (by decide +kernel)), in_X5, tyX5_ok, nmX5, fun h => absurd h (by decide), fun h => absurd h (by decide), fun h => absurd (show fc 5 2 = 2 by decide) h⟩
set_option maxRecDepth 100000 in
theorem fld_X5_26 : FLD RX5 26 5 3 := ⟨RX5, TX5, 5, tyX5, rfl, by decide, by decide, rfl, (tb_in 160 (by decide +kernel) (by decide +kernel)), in_X5, tyX5_ok, nmX5, fun h => absurd h (by decide), fun h => absurd h (by decide), fun h => absurd (show fc 5 3 = 2 by decide) h⟩
set_option maxRecDepth 100000 in
theorem fld_X5_29 : FLD RX5 29 5 4 := ⟨RX5, TX5, 5, tyX5, rfl, by decide, by decide, rfl, (tb_in 161 (by decide +kernel) (by decide +kernel)), in_X5, tyX5_ok, nmX5, fun h => absurd h (by decide), fun h => absurd h (by decide), fun h => absurd (show fc 5 4 = 2 by decide) h⟩
def flX5 : Nat → Option (Nat × Nat) := fun i => ([(14, (5, 0)), (20, (5, 1)), (23, (5, 2)), (26, (5, 3)), (29, (5, 4))] : List (Nat × (Nat × Nat))).lookup i
theorem flok_X5 : flok RX5 flX5 := flok_of (List.forall_mem_cons.mpr ⟨fld_X5_14, List.forall_mem_cons.mpr ⟨fld_X5_20, List.forall_mem_cons.mpr ⟨fld_X5_23, List.forall_mem_cons.mpr ⟨fld_X5_26, List.forall_mem_cons.mpr ⟨fld_X5_29, List.forall_mem_nil _⟩⟩⟩⟩⟩)
set_option maxRecDepth 100000 in
theorem fld_X6_14 : FLD RX6 14 6 0 := ⟨RX6, TX6, 9, tyX6, rfl, by decide, by decide, rfl, (tb_in 212 (by decide +kernel) (by decide +kernel)), in_X6, tyX6_ok, nmX6, fun h => absurd h (by decide), fun h => absurd h (by decide), fun h => absurd (show fc 6 0 = 2 by decide) h⟩
set_option maxRecDepth 100000 in
theorem fld_X6_21 : FLD RX6 21 6 1 := ⟨RX6, TX6, 9, tyX6, rfl, by decide, by decide, rfl, (tb_in 213 (by decide +kernel) (by decide +kernel)), in_X6, tyX6_ok, nmX6, fun h => absurd h (by decide), fun h => absurd h (by decide), fun h => absurd (show fc 6 1 = 2 by decide) h⟩
set_option maxRecDepth 100000 in
theorem fld_X6_25 : FLD RX6 25 6 2 := ⟨RX6, TX6, 9, tyX6, rfl, by decide, by decide, rfl, (tb_in 214 (by decide +kernel) (by decide +kernel)), in_X6, tyX6_ok, nmX6, fun h => absurd h (by decide), fun h => absurd h (by decide), fun h => absurd (show fc 6 2 = 2 by decide) h⟩
set_option maxRecDepth 100000 in
theorem fld_X6_28 : FLD RX6 28 6 3 := ⟨RX6, TX6, 9, tyX6, rfl, by decide, by decide, rfl, (tb_in 215 (by decide +kernel) (by decide +kernel)), in_X6, tyX6_ok, nmX6, fun h => absurd h (by decide), fun _ => rfl, fun _ => rfl⟩
set_option maxRecDepth 100000 in
theorem fld_X6_35 : FLD RX6 35 6 4 := ⟨RX6, TX6, 9, tyX6, rfl, by decide, by decide, rfl, (tb_in 216 (by decide +kernel) (by decide +kernel)), in_X6, tyX6_ok, nmX6, fun h => absurd h (by decide), fun h => absurd h (by decide), fun h => absurd (show fc 6 4 = 2 by decide) h⟩
set_option maxRecDepth 100000 in
theorem fld_X6_39 : FLD RX6 39 6 5 := ⟨RX6, TX6, 9, tyX6, rfl, by decide, by decide, rfl, (tb_in 217 (by decide +kernel) (by decide +kernel)), in_X6, tyX6_ok, nmX6, fun h => absurd h (by decide), fun h => absurd h (by decide), fun h => absurd (show fc 6 5 = 2 by decide) h⟩
set_option maxRecDepth 100000 in
theorem fld_X6_45 : FLD RX6 45 6 6 := ⟨RX6, TX6, 9, tyX6, rfl, by decide, by decide, rfl, (tb_in 218 (by decide +kernel) (by decide +kernel)), in_X6, tyX6_ok, nmX6, fun h => absurd h (by decide), fun h => absurd h (by decide), fun h => absurd (show fc 6 6 = 2 by decide) h⟩
set_option maxRecDepth 100000 in
theorem fld_X6_52 : FLD RX6 52 6 7 := ⟨RX6, TX6, 9, tyX6, rfl, by decide, by decide, rfl, (tb_in 219 (by decide +kernel) (by decide +kernel)), in_X6, tyX6_ok, nmX6, fun h => absurd h (by decide), fun h => absurd h (by decide), fun h => absurd (show fc 6 7 = 2 by decide) h⟩
set_option maxRecDepth 100000 in
theorem fld_X6_59 : FLD RX6 59 6 8 := ⟨RX6, TX6, 9, tyX6, rfl, by decide, by decide, rfl, (tb_in 220 (by decide +kernel) (by decide +kernel)), in_X6, tyX6_ok, nmX6, fun h => absurd h (by decide), fun h => absurd h (by decide), fun h => absurd (show fc 6 8 = 2 by decide) h⟩
def flX6 : Nat → Option (Nat × Nat) := fun i => ([(14, (6, 0)), (21, (6, 1)), (25, (6, 2)), (28, (6, 3)), (35, (6, 4)), (39, (6, 5)), (45, (6, 6)), (52, (6, 7)), (59, (6, 8))] : List (Nat × (Nat × Nat))).lookup i
theorem flok_X6 : flok RX6 flX6 := flok_of (List.forall_mem_cons.mpr ⟨fld_X6_14, List.forall_mem_cons.mpr ⟨fld_X6_21, List.forall_mem_cons.mpr ⟨fld_X6_25, List.forall_mem_cons.mpr ⟨fld_X6_28, List.forall_mem_cons.mpr ⟨fld_X6_35, List.forall_mem_cons.mpr ⟨fld_X6_39, List.forall_mem_cons.mpr ⟨fld_X6_45, List.forall_mem_cons.mpr ⟨fld_X6_52, List.forall_mem_cons.mpr ⟨fld_X6_59, List.forall_mem_nil _⟩⟩⟩⟩⟩⟩⟩⟩⟩)
set_option maxRecDepth 100000 in
theorem fld_X7_7 : FLD RX7 7 7 0 := ⟨RX7, TX7, 17, tyX7, rfl, by decide, by decide, rfl, (tb_in 784 (by decide +kernel) (by decide +kernel)), in_X7, tyX7_ok, nmX7, fun h => absurd h (by decide), fun h => absurd h (by decide), fun h => absurd (show fc 7 0 = 2 by decide) h⟩
set_option maxRecDepth 100000 in
theorem fld_X7_13 : FLD RX7 13 7 1 := ⟨RX7, TX7, 17, tyX7, rfl, by decide, by decide, rfl, (tb_in 785 (by decide +kernel) (by decide +kernel)), in_X7, tyX7_ok, nmX7, fun h => absurd h (by decide), fun h => absurd h (by decide), fun h => absurd (show fc 7 1 = 2 by decide) h⟩
set_option maxRecDepth 100000 in
theorem fld_X7_16 : FLD RX7 16 7 3 := ⟨RX7, TX7, 17, tyX7, rfl, by decide, by decide, rfl, (tb_in 787 (by decide +kernel) (by decide +kernel)), in_X7, tyX7_ok, nmX7, fun h => absurd h (by decide), fun h => absurd h (by decide), fun h => absurd (show fc 7 3 = 2 by decide) h⟩
set_option maxRecDepth 100000 in
theorem fld_X7_19 : FLD RX7 19 7 5 := ⟨RX7, TX7, 17, tyX7, rfl, by decide, by decide, rfl, (tb_in 789 (by decide +kernel) (by decide +kernel)), in_X7, tyX7_ok, nmX7, fun h => absurd h (by decide), fun h => absurd h (by decide), fun h => absurd (show fc 7 5 = 2 by decide) h⟩
set_option maxRecDepth 100000 in
theorem fld_X7_22 : FLD RX7 22 7 7 := ⟨RX7, TX7, 17, tyX7, rfl, by decide, by decide, rfl, (tb_in 791 (by decide +kernel) (by decide +kernel)), in_X7, tyX7_ok, nmX7, fun h => absurd h (by decide), fun h => absurd h (by decide), fun h => absurd (show fc 7 7 = 2 by decide) h⟩
set_option maxRecDepth 100000 in
theorem fld_X7_25 : FLD RX7 25 7 9 := ⟨RX7, TX7, 17, tyX7, rfl, by decide, by decide, rfl, (tb_in 793 (by decide +kernel) (by decide +kernel)), in_X7, tyX7_ok, nmX7, fun h => absurd h (by decide), fun h => absurd h (by decide), fun h => absurd (show fc 7 9 = 2 by decide) h⟩
set_option maxRecDepth 100000 in
theorem fld_X7_28 : FLD RX7 28 7 10 := ⟨RX7, TX7, 17, tyX7, rfl, by decide, by decide, rfl, (tb_in 794 (by decide +kernel) (by decide +kernel)), in_X7, tyX7_ok, nmX7, fun h => absurd h (by decide), fun h => absurd h (by decide), fun h => absurd (show fc 7 10 = 2 by decide) h⟩
set_option maxRecDepth 100000 in
theorem fld_X7_31 : FLD RX7 31 7 12 := ⟨RX7, TX7, 17, tyX7, rfl, by decide, by decide, rfl, (tb_in 796 (by decide +kernel) (by decide +kernel)), in_X7, tyX7_ok, nmX7, fun h => absurd h (by decide), fun h => absurd h (by decide), fun h => absurd (show fc 7 12 = 2 by decide) h⟩
set_option maxRecDepth 100000 in
theorem fld_X7_34 : FLD RX7 34 7 14 := ⟨RX7, TX7, 17, tyX7, rfl, by decide, by decide, rfl, (tb_in 798 (by decide +kernel) (by decide +kernel)), in_X7, tyX7_ok, nmX7, fun h => absurd h (by decide), fun h => absurd h (by decide), fun h => absurd (show fc 7 14 = 2 by decide) h⟩
set_option maxRecDepth 100000 in
theorem fld_X7_37 : FLD RX7 37 7 15 := ⟨RX7, TX7, 17, tyX7, rfl, by decide, by decide, rfl, (tb_in 799 (by decide +kernel) (by decide +kernel)), in_X7, tyX7_ok, nmX7, fun h => absurd h (by decide), fun h => absurd h (by decide), fun h => absurd (show fc 7 15 = 2 by decide) h⟩
set_option maxRecDepth 100000 in
theorem fld_X7_40 : FLD RX7 40 7 8 := ⟨RX7, TX7, 17, tyX7, rfl, by decide, by decide, rfl, (tb_in 792 (by decide +kernel) (by decide +kernel)), in_X7, tyX7_ok, nmX7, fun _ => rfl, fun h => absurd h (by decide), fun _ => rfl⟩
set_option maxRecDepth 100000 in
theorem fld_X7_44 : FLD RX7 44 7 2 := ⟨RX7, TX7, 17, tyX7, rfl, by decide, by decide, rfl, (tb_in 786 (by decide +kernel) (by decide +kernel)), in_X7, tyX7_ok, nmX7, fun _ => rfl, fun h => absurd h (by decide), fun _ => rfl⟩
set_option maxRecDepth 100000 in
theorem fld_X7_62 : FLD RX7 62 7 11 := ⟨RX7, TX7, 17, tyX7, rfl, by decide, by decide, rfl, (tb_in 795 (by decide +kernel) (by decide +kernel)), in_X7, tyX7_ok, nmX7, fun _ => rfl, fun h => absurd h (by decide), fun _ => rfl⟩
set_option maxRecDepth 100000 in
theorem fld_X7_113 : FLD RX7 113 7 13 := ⟨RX7, TX7, 17, tyX7, rfl, by decide, by decide, rfl, (tb_in 797 (by decide +kernel) (by decide +kernel)), in_X7, tyX7_ok, nmX7, fun _ => rfl, fun h => absurd h (by decide), fun _ => rfl⟩
set_option maxRecDepth 100000 in
theorem fld_X7_124 : FLD RX7 124 7 16 := ⟨RX7, TX7, 17, tyX7, rfl, by decide, by decide, rfl, (tb_in 800 (by decide +kernel) (by decide +kernel)), in_X7, tyX7_ok, nmX7, fun h => absurd h (by decide), fun _ => rfl, fun _ => rfl⟩
set_option maxRecDepth 100000 in
theorem fld_X7_140 : FLD RX7 140 7 6 := ⟨RX7, TX7, 17, tyX7, rfl, by decide, by decide, rfl, (tb_in 790 (by decide +kernel) (by decide +kernel)), in_X7, tyX7_ok, nmX7, fun _ => rfl, fun h => absurd h (by decide), fun _ => rfl⟩
set_option maxRecDepth 100000 in
theorem fld_X7_174 : FLD RX7 174 7 4 := ⟨RX7, TX7, 17, tyX7, rfl, by decide, by decide, rfl, (tb_in 788 (by decide +kernel) (by decide +kernel)), in_X7, tyX7_ok, nmX7, fun h => absurd h (by decide), fun _ => rfl, fun _ => rfl⟩
def flX7 : Nat → Option (Nat × Nat) := fun i => ([(7, (7, 0)), (13, (7, 1)), (16, (7, 3)), (19, (7, 5)), (22, (7, 7)), (25, (7, 9)), (28, (7, 10)), (31, (7, 12)), (34, (7, 14)), (37, (7, 15)), (40, (7, 8)), (44, (7, 2)), (62, (7, 11)), (113, (7, 13)), (124, (7, 16)), (140, (7, 6)), (174, (7, 4))] : List (Nat × (Nat × Nat))).lookup i
theorem flok_X7 : flok RX7 flX7 := flok_of (List.forall_mem_cons.mpr ⟨fld_X7_7, List.forall_mem_cons.mpr ⟨fld_X7_13, List.forall_mem_cons.mpr ⟨fld_X7_16, List.forall_mem_cons.mpr ⟨fld_X7_19, List.forall_mem_cons.mpr ⟨fld_X7_22, List.forall_mem_cons.mpr ⟨fld_X7_25, List.forall_mem_cons.mpr ⟨fld_X7_28, List.forall_mem_cons.mpr ⟨fld_X7_31, List.forall_mem_cons.mpr ⟨fld_X7_34, List.forall_mem_cons.mpr ⟨fld_X7_37, List.forall_mem_cons.mpr ⟨fld_X7_40, List.forall_mem_cons.mpr ⟨fld_X7_44, List.forall_mem_cons.mpr ⟨fld_X7_62, List.forall_mem_cons.mpr ⟨fld_X7_113, List.forall_mem_cons.mpr ⟨fld_X7_124, List.forall_mem_cons.mpr ⟨fld_X7_140, List.forall_mem_cons.mpr ⟨fld_X7_174, List.forall_mem_nil _⟩⟩⟩⟩⟩⟩⟩⟩⟩⟩⟩⟩⟩⟩⟩⟩⟩)
set_option maxRecDepth 100000 in
theorem my_yX3_becomeZeros : MY yX3_becomeZeros cX3_becomeZeros 3 none 1 := ⟨(tb_in 445 (by decide +kernel) (by decide +kernel)), (tb_in 53 (by decide +kernel) (by decide +kernel)), ⟨by decide +kernel, by decide +kernel, by decide +kernel⟩, by decide⟩
set_option maxRecDepth 100000 in
theorem vw_X0_23 : VW RX0 23 yX3_becomeZeros := ⟨(tb_in 442 (by decide +kernel) (by decide +kernel)), (tb_in 443 (by decide +kernel) (by decide +kernel)), (tb_in 444 (by decide +kernel) (by decide +kernel))⟩
set_option maxRecDepth 100000 in
theorem my_yX3_size : MY yX3_size cX3_size 1 (Option.some Jvm.ClassFile.FieldType.int) 0 := ⟨(tb_in 247 (by decide +kernel) (by decide +kernel)), (tb_in 53 (by decide +kernel) (by decide +kernel)), ⟨by decide +kernel, by decide +kernel, by decide +kernel⟩, by decide⟩
set_option maxRecDepth 100000 in
theorem vw_X0_26 : VW RX0 26 yX3_size := ⟨(tb_in 433 (by decide +kernel) (by decide +kernel)), (tb_in 245 (by decide +kernel) (by decide +kernel)), (tb_in 246 (by decide +kernel) (by decide +kernel))⟩
set_option maxRecDepth 100000 in
theorem my_yX3_at : MY yX3_at cX3_at 2 (Option.some Jvm.ClassFile.FieldType.int) 1 := ⟨(tb_in 272 (by decide +kernel) (by decide +kernel)), (tb_in 53 (by decide +kernel) (by decide +kernel)), ⟨by decide +kernel, by decide +kernel, by decide +kernel⟩, by decide⟩
set_option maxRecDepth 100000 in
theorem vw_X0_30 : VW RX0 30 yX3_at := ⟨(tb_in 446 (by decide +kernel) (by decide +kernel)), (tb_in 270 (by decide +kernel) (by decide +kernel)), (tb_in 271 (by decide +kernel) (by decide +kernel))⟩
set_option maxRecDepth 100000 in
theorem my_yX0_keptFrom : MY yX0_keptFrom cX0_keptFrom 3 (Option.some Jvm.ClassFile.FieldType.int) 2 := ⟨(tb_in 450 (by decide +kernel) (by decide +kernel)), (tb_in 56 (by decide +kernel) (by decide +kernel)), ⟨by decide +kernel, by decide +kernel, by decide +kernel⟩, by decide⟩
set_option maxRecDepth 100000 in
theorem vw_X0_34 : VW RX0 34 yX0_keptFrom := ⟨(tb_in 447 (by decide +kernel) (by decide +kernel)), (tb_in 449 (by decide +kernel) (by decide +kernel)), (tb_in 4 (by decide +kernel) (by decide +kernel))⟩
set_option maxRecDepth 100000 in
theorem mw_X0_38 : MW RX0 38 Lib.Math.max.name Lib.Math.max.code := ⟨(tb_in 451 (by decide +kernel) (by decide +kernel)), (tb_in 302 (by decide +kernel) (by decide +kernel)), (tb_in 62 (by decide +kernel) (by decide +kernel)), (tb_in 303 (by decide +kernel) (by decide +kernel))⟩
set_option maxRecDepth 100000 in
theorem my_yX3_change : MY yX3_change cX3_change 3 none 2 := ⟨(tb_in 414 (by decide +kernel) (by decide +kernel)), (tb_in 53 (by decide +kernel) (by decide +kernel)), ⟨by decide +kernel, by decide +kernel, by decide +kernel⟩, by decide⟩
set_option maxRecDepth 100000 in
theorem vw_X0_43 : VW RX0 43 yX3_change := ⟨(tb_in 452 (by decide +kernel) (by decide +kernel)), (tb_in 412 (by decide +kernel) (by decide +kernel)), (tb_in 413 (by decide +kernel) (by decide +kernel))⟩
set_option maxRecDepth 100000 in
theorem my_yX0_compare : MY yX0_compare cX0_compare 6 none 2 := ⟨(tb_in 441 (by decide +kernel) (by decide +kernel)), (tb_in 56 (by decide +kernel) (by decide +kernel)), ⟨by decide +kernel, by decide +kernel, by decide +kernel⟩, by decide⟩
set_option maxRecDepth 100000 in
theorem vw_X0_49 : VW RX0 49 yX0_compare := ⟨(tb_in 438 (by decide +kernel) (by decide +kernel)), (tb_in 439 (by decide +kernel) (by decide +kernel)), (tb_in 440 (by decide +kernel) (by decide +kernel))⟩
set_option maxRecDepth 100000 in
theorem my_yX0_keptOf : MY yX0_keptOf cX0_keptOf 3 (Option.some Jvm.ClassFile.FieldType.int) 2 := ⟨(tb_in 437 (by decide +kernel) (by decide +kernel)), (tb_in 56 (by decide +kernel) (by decide +kernel)), ⟨by decide +kernel, by decide +kernel, by decide +kernel⟩, by decide⟩
set_option maxRecDepth 100000 in
theorem vw_X0_53 : VW RX0 53 yX0_keptOf := ⟨(tb_in 434 (by decide +kernel) (by decide +kernel)), (tb_in 435 (by decide +kernel) (by decide +kernel)), (tb_in 436 (by decide +kernel) (by decide +kernel))⟩
set_option maxRecDepth 100000 in
theorem my_yX0_entry : MY yX0_entry cX0_entry 5 (Option.some Jvm.ClassFile.FieldType.int) 2 := ⟨(tb_in 639 (by decide +kernel) (by decide +kernel)), (tb_in 56 (by decide +kernel) (by decide +kernel)), ⟨by decide +kernel, by decide +kernel, by decide +kernel⟩, by decide⟩
set_option maxRecDepth 100000 in
theorem vw_X0_57 : VW RX0 57 yX0_entry := ⟨(tb_in 636 (by decide +kernel) (by decide +kernel)), (tb_in 638 (by decide +kernel) (by decide +kernel)), (tb_in 18 (by decide +kernel) (by decide +kernel))⟩
set_option maxRecDepth 100000 in
theorem my_yX0_followKept : MY yX0_followKept cX0_followKept 5 (Option.some Jvm.ClassFile.FieldType.int) 4 := ⟨(tb_in 642 (by decide +kernel) (by decide +kernel)), (tb_in 56 (by decide +kernel) (by decide +kernel)), ⟨by decide +kernel, by decide +kernel, by decide +kernel⟩, by decide⟩
set_option maxRecDepth 100000 in
theorem sw_X0_60 : SW RX0 60 yX0_followKept := ⟨(tb_in 640 (by decide +kernel) (by decide +kernel)), (tb_in 641 (by decide +kernel) (by decide +kernel))⟩
set_option maxRecDepth 100000 in
theorem my_yX1_dropOldest : MY yX1_dropOldest cX1_dropOldest 2 none 0 := ⟨(tb_in 375 (by decide +kernel) (by decide +kernel)), (tb_in 55 (by decide +kernel) (by decide +kernel)), ⟨by decide +kernel, by decide +kernel, by decide +kernel⟩, by decide⟩
set_option maxRecDepth 100000 in
theorem vw_X1_22 : VW RX1 22 yX1_dropOldest := ⟨(tb_in 372 (by decide +kernel) (by decide +kernel)), (tb_in 374 (by decide +kernel) (by decide +kernel)), (tb_in 1 (by decide +kernel) (by decide +kernel))⟩
set_option maxRecDepth 100000 in
theorem my_yX1_slot : MY yX1_slot cX1_slot 2 (Option.some (Jvm.ClassFile.FieldType.object "HunkSlides$State")) 1 := ⟨(tb_in 379 (by decide +kernel) (by decide +kernel)), (tb_in 55 (by decide +kernel) (by decide +kernel)), ⟨by decide +kernel, by decide +kernel, by decide +kernel⟩, by decide⟩
set_option maxRecDepth 100000 in
theorem vw_X1_25 : VW RX1 25 yX1_slot := ⟨(tb_in 376 (by decide +kernel) (by decide +kernel)), (tb_in 378 (by decide +kernel) (by decide +kernel)), (tb_in 2 (by decide +kernel) (by decide +kernel))⟩
set_option maxRecDepth 100000 in
theorem my_yX1_copy : MY yX1_copy cX1_copy 2 none 2 := ⟨(tb_in 382 (by decide +kernel) (by decide +kernel)), (tb_in 55 (by decide +kernel) (by decide +kernel)), ⟨by decide +kernel, by decide +kernel, by decide +kernel⟩, by decide⟩
set_option maxRecDepth 100000 in
theorem sw_X1_29 : SW RX1 29 yX1_copy := ⟨(tb_in 380 (by decide +kernel) (by decide +kernel)), (tb_in 381 (by decide +kernel) (by decide +kernel))⟩
set_option maxRecDepth 100000 in
theorem my_yX4_become : MY yX4_become cX4_become 2 none 1 := ⟨(tb_in 386 (by decide +kernel) (by decide +kernel)), (tb_in 54 (by decide +kernel) (by decide +kernel)), ⟨by decide +kernel, by decide +kernel, by decide +kernel⟩, by decide⟩
set_option maxRecDepth 100000 in
theorem vw_X1_33 : VW RX1 33 yX4_become := ⟨(tb_in 383 (by decide +kernel) (by decide +kernel)), (tb_in 384 (by decide +kernel) (by decide +kernel)), (tb_in 385 (by decide +kernel) (by decide +kernel))⟩
set_option maxRecDepth 100000 in
theorem mw_X2_100 : MW RX2 100 Lib.Math.max.name Lib.Math.max.code := ⟨(tb_in 606 (by decide +kernel) (by decide +kernel)), (tb_in 302 (by decide +kernel) (by decide +kernel)), (tb_in 62 (by decide +kernel) (by decide +kernel)), (tb_in 303 (by decide +kernel) (by decide +kernel))⟩
set_option maxRecDepth 100000 in
theorem my_yX5_kind : MY yX5_kind cX5_kind 2 (Option.some Jvm.ClassFile.FieldType.int) 1 := ⟨(tb_in 576 (by decide +kernel) (by decide +kernel)), (tb_in 57 (by decide +kernel) (by decide +kernel)), ⟨by decide +kernel, by decide +kernel, by decide +kernel⟩, by decide⟩
set_option maxRecDepth 100000 in
theorem vw_X2_106 : VW RX2 106 yX5_kind := ⟨(tb_in 573 (by decide +kernel) (by decide +kernel)), (tb_in 574 (by decide +kernel) (by decide +kernel)), (tb_in 575 (by decide +kernel) (by decide +kernel))⟩
set_option maxRecDepth 100000 in
theorem my_yX5_sign : MY yX5_sign cX5_sign 2 (Option.some Jvm.ClassFile.FieldType.int) 1 := ⟨(tb_in 580 (by decide +kernel) (by decide +kernel)), (tb_in 57 (by decide +kernel) (by decide +kernel)), ⟨by decide +kernel, by decide +kernel, by decide +kernel⟩, by decide⟩
set_option maxRecDepth 100000 in
theorem vw_X2_109 : VW RX2 109 yX5_sign := ⟨(tb_in 577 (by decide +kernel) (by decide +kernel)), (tb_in 578 (by decide +kernel) (by decide +kernel)), (tb_in 579 (by decide +kernel) (by decide +kernel))⟩
set_option maxRecDepth 100000 in
theorem my_yX2_fitsAt : MY yX2_fitsAt cX2_fitsAt 3 (Option.some Jvm.ClassFile.FieldType.boolean) 1 := ⟨(tb_in 597 (by decide +kernel) (by decide +kernel)), (tb_in 58 (by decide +kernel) (by decide +kernel)), ⟨by decide +kernel, by decide +kernel, by decide +kernel⟩, by decide⟩
set_option maxRecDepth 100000 in
theorem vw_X2_112 : VW RX2 112 yX2_fitsAt := ⟨(tb_in 594 (by decide +kernel) (by decide +kernel)), (tb_in 596 (by decide +kernel) (by decide +kernel)), (tb_in 16 (by decide +kernel) (by decide +kernel))⟩
set_option maxRecDepth 100000 in
theorem my_yX3_putOut : MY yX3_putOut cX3_putOut 3 none 1 := ⟨(tb_in 419 (by decide +kernel) (by decide +kernel)), (tb_in 53 (by decide +kernel) (by decide +kernel)), ⟨by decide +kernel, by decide +kernel, by decide +kernel⟩, by decide⟩
set_option maxRecDepth 100000 in
theorem vw_X2_116 : VW RX2 116 yX3_putOut := ⟨(tb_in 604 (by decide +kernel) (by decide +kernel)), (tb_in 417 (by decide +kernel) (by decide +kernel)), (tb_in 418 (by decide +kernel) (by decide +kernel))⟩
set_option maxRecDepth 100000 in
theorem my_yX3_putIn : MY yX3_putIn cX3_putIn 4 none 2 := ⟨(tb_in 410 (by decide +kernel) (by decide +kernel)), (tb_in 53 (by decide +kernel) (by decide +kernel)), ⟨by decide +kernel, by decide +kernel, by decide +kernel⟩, by decide⟩
set_option maxRecDepth 100000 in
theorem vw_X2_118 : VW RX2 118 yX3_putIn := ⟨(tb_in 605 (by decide +kernel) (by decide +kernel)), (tb_in 408 (by decide +kernel) (by decide +kernel)), (tb_in 409 (by decide +kernel) (by decide +kernel))⟩
set_option maxRecDepth 100000 in
theorem my_yX3_become : MY yX3_become cX3_become 3 none 1 := ⟨(tb_in 390 (by decide +kernel) (by decide +kernel)), (tb_in 53 (by decide +kernel) (by decide +kernel)), ⟨by decide +kernel, by decide +kernel, by decide +kernel⟩, by decide⟩
set_option maxRecDepth 100000 in
theorem vw_X2_48 : VW RX2 48 yX3_become := ⟨(tb_in 551 (by decide +kernel) (by decide +kernel)), (tb_in 388 (by decide +kernel) (by decide +kernel)), (tb_in 389 (by decide +kernel) (by decide +kernel))⟩
set_option maxRecDepth 100000 in
theorem my_yX3_emptyOut : MY yX3_emptyOut cX3_emptyOut 1 none 0 := ⟨(tb_in 259 (by decide +kernel) (by decide +kernel)), (tb_in 53 (by decide +kernel) (by decide +kernel)), ⟨by decide +kernel, by decide +kernel, by decide +kernel⟩, by decide⟩
set_option maxRecDepth 100000 in
theorem vw_X2_52 : VW RX2 52 yX3_emptyOut := ⟨(tb_in 552 (by decide +kernel) (by decide +kernel)), (tb_in 257 (by decide +kernel) (by decide +kernel)), (tb_in 258 (by decide +kernel) (by decide +kernel))⟩
set_option maxRecDepth 100000 in
theorem my_yX5_hunks : MY yX5_hunks cX5_hunks 1 (Option.some Jvm.ClassFile.FieldType.int) 0 := ⟨(tb_in 501 (by decide +kernel) (by decide +kernel)), (tb_in 57 (by decide +kernel) (by decide +kernel)), ⟨by decide +kernel, by decide +kernel, by decide +kernel⟩, by decide⟩
set_option maxRecDepth 100000 in
theorem vw_X2_55 : VW RX2 55 yX5_hunks := ⟨(tb_in 553 (by decide +kernel) (by decide +kernel)), (tb_in 499 (by decide +kernel) (by decide +kernel)), (tb_in 500 (by decide +kernel) (by decide +kernel))⟩
set_option maxRecDepth 100000 in
theorem my_yX2_layOne : MY yX2_layOne cX2_layOne 10 none 4 := ⟨(tb_in 557 (by decide +kernel) (by decide +kernel)), (tb_in 58 (by decide +kernel) (by decide +kernel)), ⟨by decide +kernel, by decide +kernel, by decide +kernel⟩, by decide⟩
set_option maxRecDepth 100000 in
theorem vw_X2_61 : VW RX2 61 yX2_layOne := ⟨(tb_in 554 (by decide +kernel) (by decide +kernel)), (tb_in 556 (by decide +kernel) (by decide +kernel)), (tb_in 13 (by decide +kernel) (by decide +kernel))⟩
set_option maxRecDepth 100000 in
theorem vw_X2_65 : VW RX2 65 yX3_at := ⟨(tb_in 599 (by decide +kernel) (by decide +kernel)), (tb_in 270 (by decide +kernel) (by decide +kernel)), (tb_in 271 (by decide +kernel) (by decide +kernel))⟩
set_option maxRecDepth 100000 in
theorem my_yX5_around : MY yX5_around cX5_around 5 (Option.some Jvm.ClassFile.FieldType.int) 3 := ⟨(tb_in 561 (by decide +kernel) (by decide +kernel)), (tb_in 57 (by decide +kernel) (by decide +kernel)), ⟨by decide +kernel, by decide +kernel, by decide +kernel⟩, by decide⟩
set_option maxRecDepth 100000 in
theorem vw_X2_69 : VW RX2 69 yX5_around := ⟨(tb_in 558 (by decide +kernel) (by decide +kernel)), (tb_in 559 (by decide +kernel) (by decide +kernel)), (tb_in 560 (by decide +kernel) (by decide +kernel))⟩
set_option maxRecDepth 100000 in
theorem my_yX5_top : MY yX5_top cX5_top 2 (Option.some Jvm.ClassFile.FieldType.int) 1 := ⟨(tb_in 509 (by decide +kernel) (by decide +kernel)), (tb_in 57 (by decide +kernel) (by decide +kernel)), ⟨by decide +kernel, by decide +kernel, by decide +kernel⟩, by decide⟩
set_option maxRecDepth 100000 in
theorem vw_X2_73 : VW RX2 73 yX5_top := ⟨(tb_in 567 (by decide +kernel) (by decide +kernel)), (tb_in 507 (by decide +kernel) (by decide +kernel)), (tb_in 508 (by decide +kernel) (by decide +kernel))⟩
set_option maxRecDepth 100000 in
theorem my_yX5_end : MY yX5_end cX5_end 2 (Option.some Jvm.ClassFile.FieldType.int) 1 := ⟨(tb_in 513 (by decide +kernel) (by decide +kernel)), (tb_in 57 (by decide +kernel) (by decide +kernel)), ⟨by decide +kernel, by decide +kernel, by decide +kernel⟩, by decide⟩
set_option maxRecDepth 100000 in
theorem vw_X2_76 : VW RX2 76 yX5_end := ⟨(tb_in 568 (by decide +kernel) (by decide +kernel)), (tb_in 511 (by decide +kernel) (by decide +kernel)), (tb_in 512 (by decide +kernel) (by decide +kernel))⟩
set_option maxRecDepth 100000 in
theorem my_yX2_takeParts : MY yX2_takeParts cX2_takeParts 8 none 4 := ⟨(tb_in 572 (by decide +kernel) (by decide +kernel)), (tb_in 58 (by decide +kernel) (by decide +kernel)), ⟨by decide +kernel, by decide +kernel, by decide +kernel⟩, by decide⟩
set_option maxRecDepth 100000 in
theorem vw_X2_79 : VW RX2 79 yX2_takeParts := ⟨(tb_in 569 (by decide +kernel) (by decide +kernel)), (tb_in 571 (by decide +kernel) (by decide +kernel)), (tb_in 14 (by decide +kernel) (by decide +kernel))⟩
set_option maxRecDepth 100000 in
theorem my_yX5_newAhead : MY yX5_newAhead cX5_newAhead 2 (Option.some Jvm.ClassFile.FieldType.int) 1 := ⟨(tb_in 585 (by decide +kernel) (by decide +kernel)), (tb_in 57 (by decide +kernel) (by decide +kernel)), ⟨by decide +kernel, by decide +kernel, by decide +kernel⟩, by decide⟩
set_option maxRecDepth 100000 in
theorem vw_X2_82 : VW RX2 82 yX5_newAhead := ⟨(tb_in 582 (by decide +kernel) (by decide +kernel)), (tb_in 583 (by decide +kernel) (by decide +kernel)), (tb_in 584 (by decide +kernel) (by decide +kernel))⟩
set_option maxRecDepth 100000 in
theorem my_yX5_oldAhead : MY yX5_oldAhead cX5_oldAhead 2 (Option.some Jvm.ClassFile.FieldType.int) 1 := ⟨(tb_in 589 (by decide +kernel) (by decide +kernel)), (tb_in 57 (by decide +kernel) (by decide +kernel)), ⟨by decide +kernel, by decide +kernel, by decide +kernel⟩, by decide⟩
set_option maxRecDepth 100000 in
theorem vw_X2_85 : VW RX2 85 yX5_oldAhead := ⟨(tb_in 586 (by decide +kernel) (by decide +kernel)), (tb_in 587 (by decide +kernel) (by decide +kernel)), (tb_in 588 (by decide +kernel) (by decide +kernel))⟩
set_option maxRecDepth 100000 in
theorem my_yX2_search : MY yX2_search cX2_search 3 (Option.some Jvm.ClassFile.FieldType.int) 1 := ⟨(tb_in 593 (by decide +kernel) (by decide +kernel)), (tb_in 58 (by decide +kernel) (by decide +kernel)), ⟨by decide +kernel, by decide +kernel, by decide +kernel⟩, by decide⟩
set_option maxRecDepth 100000 in
theorem vw_X2_88 : VW RX2 88 yX2_search := ⟨(tb_in 590 (by decide +kernel) (by decide +kernel)), (tb_in 592 (by decide +kernel) (by decide +kernel)), (tb_in 15 (by decide +kernel) (by decide +kernel))⟩
set_option maxRecDepth 100000 in
theorem my_yX3_add : MY yX3_add cX3_add 2 none 1 := ⟨(tb_in 251 (by decide +kernel) (by decide +kernel)), (tb_in 53 (by decide +kernel) (by decide +kernel)), ⟨by decide +kernel, by decide +kernel, by decide +kernel⟩, by decide⟩
set_option maxRecDepth 100000 in
theorem vw_X2_91 : VW RX2 91 yX3_add := ⟨(tb_in 581 (by decide +kernel) (by decide +kernel)), (tb_in 249 (by decide +kernel) (by decide +kernel)), (tb_in 250 (by decide +kernel) (by decide +kernel))⟩
set_option maxRecDepth 100000 in
theorem my_yX2_replaceAt : MY yX2_replaceAt cX2_replaceAt 3 none 1 := ⟨(tb_in 603 (by decide +kernel) (by decide +kernel)), (tb_in 58 (by decide +kernel) (by decide +kernel)), ⟨by decide +kernel, by decide +kernel, by decide +kernel⟩, by decide⟩
set_option maxRecDepth 100000 in
theorem vw_X2_94 : VW RX2 94 yX2_replaceAt := ⟨(tb_in 600 (by decide +kernel) (by decide +kernel)), (tb_in 602 (by decide +kernel) (by decide +kernel)), (tb_in 17 (by decide +kernel) (by decide +kernel))⟩
set_option maxRecDepth 100000 in
theorem vw_X2_97 : VW RX2 97 yX3_size := ⟨(tb_in 598 (by decide +kernel) (by decide +kernel)), (tb_in 245 (by decide +kernel) (by decide +kernel)), (tb_in 246 (by decide +kernel) (by decide +kernel))⟩
set_option maxRecDepth 100000 in
theorem vw_X3_17 : VW RX3 17 yX3_at := ⟨(tb_in 393 (by decide +kernel) (by decide +kernel)), (tb_in 270 (by decide +kernel) (by decide +kernel)), (tb_in 271 (by decide +kernel) (by decide +kernel))⟩
set_option maxRecDepth 100000 in
theorem vw_X3_21 : VW RX3 21 yX3_change := ⟨(tb_in 411 (by decide +kernel) (by decide +kernel)), (tb_in 412 (by decide +kernel) (by decide +kernel)), (tb_in 413 (by decide +kernel) (by decide +kernel))⟩
set_option maxRecDepth 100000 in
theorem vw_X3_25 : VW RX3 25 yX3_emptyOut := ⟨(tb_in 391 (by decide +kernel) (by decide +kernel)), (tb_in 257 (by decide +kernel) (by decide +kernel)), (tb_in 258 (by decide +kernel) (by decide +kernel))⟩
set_option maxRecDepth 100000 in
theorem vw_X3_28 : VW RX3 28 yX3_size := ⟨(tb_in 392 (by decide +kernel) (by decide +kernel)), (tb_in 245 (by decide +kernel) (by decide +kernel)), (tb_in 246 (by decide +kernel) (by decide +kernel))⟩
set_option maxRecDepth 100000 in
theorem vw_X3_31 : VW RX3 31 yX3_add := ⟨(tb_in 394 (by decide +kernel) (by decide +kernel)), (tb_in 249 (by decide +kernel) (by decide +kernel)), (tb_in 250 (by decide +kernel) (by decide +kernel))⟩
set_option maxRecDepth 100000 in
theorem vw_X4_39 : VW RX4 39 yX3_become := ⟨(tb_in 387 (by decide +kernel) (by decide +kernel)), (tb_in 388 (by decide +kernel) (by decide +kernel)), (tb_in 389 (by decide +kernel) (by decide +kernel))⟩
set_option maxRecDepth 100000 in
theorem mw_X5_101 : MW RX5 101 Lib.Math.max.name Lib.Math.max.code := ⟨(tb_in 727 (by decide +kernel) (by decide +kernel)), (tb_in 302 (by decide +kernel) (by decide +kernel)), (tb_in 62 (by decide +kernel) (by decide +kernel)), (tb_in 303 (by decide +kernel) (by decide +kernel))⟩
set_option maxRecDepth 100000 in
theorem my_yX5_worth : MY yX5_worth cX5_worth 2 (Option.some Jvm.ClassFile.FieldType.int) 1 := ⟨(tb_in 668 (by decide +kernel) (by decide +kernel)), (tb_in 57 (by decide +kernel) (by decide +kernel)), ⟨by decide +kernel, by decide +kernel, by decide +kernel⟩, by decide⟩
set_option maxRecDepth 100000 in
theorem vw_X5_106 : VW RX5 106 yX5_worth := ⟨(tb_in 722 (by decide +kernel) (by decide +kernel)), (tb_in 666 (by decide +kernel) (by decide +kernel)), (tb_in 667 (by decide +kernel) (by decide +kernel))⟩
set_option maxRecDepth 100000 in
theorem my_yX5_barAt : MY yX5_barAt cX5_barAt 6 (Option.some Jvm.ClassFile.FieldType.int) 3 := ⟨(tb_in 537 (by decide +kernel) (by decide +kernel)), (tb_in 57 (by decide +kernel) (by decide +kernel)), ⟨by decide +kernel, by decide +kernel, by decide +kernel⟩, by decide⟩
set_option maxRecDepth 100000 in
theorem vw_X5_109 : VW RX5 109 yX5_barAt := ⟨(tb_in 534 (by decide +kernel) (by decide +kernel)), (tb_in 536 (by decide +kernel) (by decide +kernel)), (tb_in 10 (by decide +kernel) (by decide +kernel))⟩
set_option maxRecDepth 100000 in
theorem my_yX5_has : MY yX5_has cX5_has 2 (Option.some Jvm.ClassFile.FieldType.boolean) 1 := ⟨(tb_in 565 (by decide +kernel) (by decide +kernel)), (tb_in 57 (by decide +kernel) (by decide +kernel)), ⟨by decide +kernel, by decide +kernel, by decide +kernel⟩, by decide⟩
set_option maxRecDepth 100000 in
theorem vw_X5_113 : VW RX5 113 yX5_has := ⟨(tb_in 562 (by decide +kernel) (by decide +kernel)), (tb_in 563 (by decide +kernel) (by decide +kernel)), (tb_in 564 (by decide +kernel) (by decide +kernel))⟩
set_option maxRecDepth 100000 in
theorem mw_X5_116 : MW RX5 116 Lib.Math.min.name Lib.Math.min.code := ⟨(tb_in 566 (by decide +kernel) (by decide +kernel)), (tb_in 305 (by decide +kernel) (by decide +kernel)), (tb_in 62 (by decide +kernel) (by decide +kernel)), (tb_in 306 (by decide +kernel) (by decide +kernel))⟩
set_option maxRecDepth 100000 in
theorem vw_X5_32 : VW RX5 32 yX0_compare := ⟨(tb_in 477 (by decide +kernel) (by decide +kernel)), (tb_in 439 (by decide +kernel) (by decide +kernel)), (tb_in 440 (by decide +kernel) (by decide +kernel))⟩
set_option maxRecDepth 100000 in
theorem vw_X5_38 : VW RX5 38 yX3_emptyOut := ⟨(tb_in 478 (by decide +kernel) (by decide +kernel)), (tb_in 257 (by decide +kernel) (by decide +kernel)), (tb_in 258 (by decide +kernel) (by decide +kernel))⟩
set_option maxRecDepth 100000 in
theorem vw_X5_41 : VW RX5 41 yX3_size := ⟨(tb_in 479 (by decide +kernel) (by decide +kernel)), (tb_in 245 (by decide +kernel) (by decide +kernel)), (tb_in 246 (by decide +kernel) (by decide +kernel))⟩
set_option maxRecDepth 100000 in
theorem my_yX0_step : MY yX0_step cX0_step 7 (Option.some Jvm.ClassFile.FieldType.int) 4 := ⟨(tb_in 483 (by decide +kernel) (by decide +kernel)), (tb_in 56 (by decide +kernel) (by decide +kernel)), ⟨by decide +kernel, by decide +kernel, by decide +kernel⟩, by decide⟩
set_option maxRecDepth 100000 in
theorem vw_X5_45 : VW RX5 45 yX0_step := ⟨(tb_in 480 (by decide +kernel) (by decide +kernel)), (tb_in 481 (by decide +kernel) (by decide +kernel)), (tb_in 482 (by decide +kernel) (by decide +kernel))⟩
set_option maxRecDepth 100000 in
theorem vw_X5_49 : VW RX5 49 yX3_add := ⟨(tb_in 484 (by decide +kernel) (by decide +kernel)), (tb_in 249 (by decide +kernel) (by decide +kernel)), (tb_in 250 (by decide +kernel) (by decide +kernel))⟩
set_option maxRecDepth 100000 in
theorem vw_X5_52 : VW RX5 52 yX3_at := ⟨(tb_in 485 (by decide +kernel) (by decide +kernel)), (tb_in 270 (by decide +kernel) (by decide +kernel)), (tb_in 271 (by decide +kernel) (by decide +kernel))⟩
set_option maxRecDepth 100000 in
theorem my_yX5_findHunks : MY yX5_findHunks cX5_findHunks 3 none 0 := ⟨(tb_in 489 (by decide +kernel) (by decide +kernel)), (tb_in 57 (by decide +kernel) (by decide +kernel)), ⟨by decide +kernel, by decide +kernel, by decide +kernel⟩, by decide⟩
set_option maxRecDepth 100000 in
theorem vw_X5_56 : VW RX5 56 yX5_findHunks := ⟨(tb_in 486 (by decide +kernel) (by decide +kernel)), (tb_in 488 (by decide +kernel) (by decide +kernel)), (tb_in 6 (by decide +kernel) (by decide +kernel))⟩
set_option maxRecDepth 100000 in
theorem my_yX5_size : MY yX5_size cX5_size 1 (Option.some Jvm.ClassFile.FieldType.int) 0 := ⟨(tb_in 493 (by decide +kernel) (by decide +kernel)), (tb_in 57 (by decide +kernel) (by decide +kernel)), ⟨by decide +kernel, by decide +kernel, by decide +kernel⟩, by decide⟩
set_option maxRecDepth 100000 in
theorem vw_X5_59 : VW RX5 59 yX5_size := ⟨(tb_in 490 (by decide +kernel) (by decide +kernel)), (tb_in 491 (by decide +kernel) (by decide +kernel)), (tb_in 492 (by decide +kernel) (by decide +kernel))⟩
set_option maxRecDepth 100000 in
theorem my_yX5_inHunk : MY yX5_inHunk cX5_inHunk 2 (Option.some Jvm.ClassFile.FieldType.boolean) 1 := ⟨(tb_in 497 (by decide +kernel) (by decide +kernel)), (tb_in 57 (by decide +kernel) (by decide +kernel)), ⟨by decide +kernel, by decide +kernel, by decide +kernel⟩, by decide⟩
set_option maxRecDepth 100000 in
theorem vw_X5_60 : VW RX5 60 yX5_inHunk := ⟨(tb_in 494 (by decide +kernel) (by decide +kernel)), (tb_in 496 (by decide +kernel) (by decide +kernel)), (tb_in 7 (by decide +kernel) (by decide +kernel))⟩
set_option maxRecDepth 100000 in
theorem vw_X5_64 : VW RX5 64 yX5_hunks := ⟨(tb_in 498 (by decide +kernel) (by decide +kernel)), (tb_in 499 (by decide +kernel) (by decide +kernel)), (tb_in 500 (by decide +kernel) (by decide +kernel))⟩
set_option maxRecDepth 100000 in
theorem my_yX5_linesOf : MY yX5_linesOf cX5_linesOf 3 (Option.some Jvm.ClassFile.FieldType.int) 2 := ⟨(tb_in 505 (by decide +kernel) (by decide +kernel)), (tb_in 57 (by decide +kernel) (by decide +kernel)), ⟨by decide +kernel, by decide +kernel, by decide +kernel⟩, by decide⟩
set_option maxRecDepth 100000 in
theorem vw_X5_67 : VW RX5 67 yX5_linesOf := ⟨(tb_in 502 (by decide +kernel) (by decide +kernel)), (tb_in 503 (by decide +kernel) (by decide +kernel)), (tb_in 504 (by decide +kernel) (by decide +kernel))⟩
set_option maxRecDepth 100000 in
theorem my_yX5_isPlain : MY yX5_isPlain cX5_isPlain 2 (Option.some Jvm.ClassFile.FieldType.boolean) 1 := ⟨(tb_in 525 (by decide +kernel) (by decide +kernel)), (tb_in 57 (by decide +kernel) (by decide +kernel)), ⟨by decide +kernel, by decide +kernel, by decide +kernel⟩, by decide⟩
set_option maxRecDepth 100000 in
theorem vw_X5_71 : VW RX5 71 yX5_isPlain := ⟨(tb_in 522 (by decide +kernel) (by decide +kernel)), (tb_in 523 (by decide +kernel) (by decide +kernel)), (tb_in 524 (by decide +kernel) (by decide +kernel))⟩
set_option maxRecDepth 100000 in
theorem my_yX5_bestTop : MY yX5_bestTop cX5_bestTop 6 (Option.some Jvm.ClassFile.FieldType.int) 1 := ⟨(tb_in 529 (by decide +kernel) (by decide +kernel)), (tb_in 57 (by decide +kernel) (by decide +kernel)), ⟨by decide +kernel, by decide +kernel, by decide +kernel⟩, by decide⟩
set_option maxRecDepth 100000 in
theorem vw_X5_74 : VW RX5 74 yX5_bestTop := ⟨(tb_in 526 (by decide +kernel) (by decide +kernel)), (tb_in 528 (by decide +kernel) (by decide +kernel)), (tb_in 9 (by decide +kernel) (by decide +kernel))⟩
set_option maxRecDepth 100000 in
theorem my_yX5_moveTo : MY yX5_moveTo cX5_moveTo 6 none 2 := ⟨(tb_in 545 (by decide +kernel) (by decide +kernel)), (tb_in 57 (by decide +kernel) (by decide +kernel)), ⟨by decide +kernel, by decide +kernel, by decide +kernel⟩, by decide⟩
set_option maxRecDepth 100000 in
theorem vw_X5_77 : VW RX5 77 yX5_moveTo := ⟨(tb_in 542 (by decide +kernel) (by decide +kernel)), (tb_in 544 (by decide +kernel) (by decide +kernel)), (tb_in 12 (by decide +kernel) (by decide +kernel))⟩
set_option maxRecDepth 100000 in
theorem vw_X5_81 : VW RX5 81 yX5_top := ⟨(tb_in 506 (by decide +kernel) (by decide +kernel)), (tb_in 507 (by decide +kernel) (by decide +kernel)), (tb_in 508 (by decide +kernel) (by decide +kernel))⟩
set_option maxRecDepth 100000 in
theorem vw_X5_84 : VW RX5 84 yX5_end := ⟨(tb_in 510 (by decide +kernel) (by decide +kernel)), (tb_in 511 (by decide +kernel) (by decide +kernel)), (tb_in 512 (by decide +kernel) (by decide +kernel))⟩
set_option maxRecDepth 100000 in
theorem vw_X5_87 : VW RX5 87 yX3_change := ⟨(tb_in 546 (by decide +kernel) (by decide +kernel)), (tb_in 412 (by decide +kernel) (by decide +kernel)), (tb_in 413 (by decide +kernel) (by decide +kernel))⟩
set_option maxRecDepth 100000 in
theorem my_yX5_reach : MY yX5_reach cX5_reach 5 (Option.some Jvm.ClassFile.FieldType.int) 2 := ⟨(tb_in 533 (by decide +kernel) (by decide +kernel)), (tb_in 57 (by decide +kernel) (by decide +kernel)), ⟨by decide +kernel, by decide +kernel, by decide +kernel⟩, by decide⟩
set_option maxRecDepth 100000 in
theorem vw_X5_90 : VW RX5 90 yX5_reach := ⟨(tb_in 530 (by decide +kernel) (by decide +kernel)), (tb_in 531 (by decide +kernel) (by decide +kernel)), (tb_in 532 (by decide +kernel) (by decide +kernel))⟩
set_option maxRecDepth 100000 in
theorem my_yX5_worthAt : MY yX5_worthAt cX5_worthAt 6 (Option.some Jvm.ClassFile.FieldType.int) 2 := ⟨(tb_in 541 (by decide +kernel) (by decide +kernel)), (tb_in 57 (by decide +kernel) (by decide +kernel)), ⟨by decide +kernel, by decide +kernel, by decide +kernel⟩, by decide⟩
set_option maxRecDepth 100000 in
theorem vw_X5_94 : VW RX5 94 yX5_worthAt := ⟨(tb_in 538 (by decide +kernel) (by decide +kernel)), (tb_in 540 (by decide +kernel) (by decide +kernel)), (tb_in 11 (by decide +kernel) (by decide +kernel))⟩
set_option maxRecDepth 100000 in
theorem my_yX5_linesWithin : MY yX5_linesWithin cX5_linesWithin 6 (Option.some Jvm.ClassFile.FieldType.int) 3 := ⟨(tb_in 517 (by decide +kernel) (by decide +kernel)), (tb_in 57 (by decide +kernel) (by decide +kernel)), ⟨by decide +kernel, by decide +kernel, by decide +kernel⟩, by decide⟩
set_option maxRecDepth 100000 in
theorem vw_X5_97 : VW RX5 97 yX5_linesWithin := ⟨(tb_in 514 (by decide +kernel) (by decide +kernel)), (tb_in 516 (by decide +kernel) (by decide +kernel)), (tb_in 8 (by decide +kernel) (by decide +kernel))⟩
set_option maxRecDepth 100000 in
theorem vw_X6_102 : VW RX6 102 yX3_putOut := ⟨(tb_in 416 (by decide +kernel) (by decide +kernel)), (tb_in 417 (by decide +kernel) (by decide +kernel)), (tb_in 418 (by decide +kernel) (by decide +kernel))⟩
set_option maxRecDepth 100000 in
theorem vw_X6_105 : VW RX6 105 yX3_become := ⟨(tb_in 424 (by decide +kernel) (by decide +kernel)), (tb_in 388 (by decide +kernel) (by decide +kernel)), (tb_in 389 (by decide +kernel) (by decide +kernel))⟩
set_option maxRecDepth 100000 in
theorem my_yX6_distanceNow : MY yX6_distanceNow cX6_distanceNow 1 (Option.some Jvm.ClassFile.FieldType.int) 0 := ⟨(tb_in 428 (by decide +kernel) (by decide +kernel)), (tb_in 52 (by decide +kernel) (by decide +kernel)), ⟨by decide +kernel, by decide +kernel, by decide +kernel⟩, by decide⟩
set_option maxRecDepth 100000 in
theorem vw_X6_109 : VW RX6 109 yX6_distanceNow := ⟨(tb_in 425 (by decide +kernel) (by decide +kernel)), (tb_in 427 (by decide +kernel) (by decide +kernel)), (tb_in 3 (by decide +kernel) (by decide +kernel))⟩
set_option maxRecDepth 100000 in
theorem my_yX4_setting : MY yX4_setting cX4_setting 2 (Option.some Jvm.ClassFile.FieldType.int) 1 := ⟨(tb_in 460 (by decide +kernel) (by decide +kernel)), (tb_in 54 (by decide +kernel) (by decide +kernel)), ⟨by decide +kernel, by decide +kernel, by decide +kernel⟩, by decide⟩
set_option maxRecDepth 100000 in
theorem vw_X6_112 : VW RX6 112 yX4_setting := ⟨(tb_in 457 (by decide +kernel) (by decide +kernel)), (tb_in 458 (by decide +kernel) (by decide +kernel)), (tb_in 459 (by decide +kernel) (by decide +kernel))⟩
set_option maxRecDepth 100000 in
theorem my_yX4_changeSetting : MY yX4_changeSetting cX4_changeSetting 3 none 2 := ⟨(tb_in 464 (by decide +kernel) (by decide +kernel)), (tb_in 54 (by decide +kernel) (by decide +kernel)), ⟨by decide +kernel, by decide +kernel, by decide +kernel⟩, by decide⟩
set_option maxRecDepth 100000 in
theorem vw_X6_115 : VW RX6 115 yX4_changeSetting := ⟨(tb_in 461 (by decide +kernel) (by decide +kernel)), (tb_in 462 (by decide +kernel) (by decide +kernel)), (tb_in 463 (by decide +kernel) (by decide +kernel))⟩
set_option maxRecDepth 100000 in
theorem my_yX6_show : MY yX6_show cX6_show 1 none 0 := ⟨(tb_in 472 (by decide +kernel) (by decide +kernel)), (tb_in 52 (by decide +kernel) (by decide +kernel)), ⟨by decide +kernel, by decide +kernel, by decide +kernel⟩, by decide⟩
set_option maxRecDepth 100000 in
theorem vw_X6_118 : VW RX6 118 yX6_show := ⟨(tb_in 469 (by decide +kernel) (by decide +kernel)), (tb_in 471 (by decide +kernel) (by decide +kernel)), (tb_in 5 (by decide +kernel) (by decide +kernel))⟩
set_option maxRecDepth 100000 in
theorem my_yX2_layAll : MY yX2_layAll cX2_layAll 6 none 4 := ⟨(tb_in 550 (by decide +kernel) (by decide +kernel)), (tb_in 58 (by decide +kernel) (by decide +kernel)), ⟨by decide +kernel, by decide +kernel, by decide +kernel⟩, by decide⟩
set_option maxRecDepth 100000 in
theorem vw_X6_121 : VW RX6 121 yX2_layAll := ⟨(tb_in 547 (by decide +kernel) (by decide +kernel)), (tb_in 548 (by decide +kernel) (by decide +kernel)), (tb_in 549 (by decide +kernel) (by decide +kernel))⟩
set_option maxRecDepth 100000 in
theorem my_yX2_longest : MY yX2_longest cX2_longest 1 (Option.some Jvm.ClassFile.FieldType.int) 0 := ⟨(tb_in 610 (by decide +kernel) (by decide +kernel)), (tb_in 58 (by decide +kernel) (by decide +kernel)), ⟨by decide +kernel, by decide +kernel, by decide +kernel⟩, by decide⟩
set_option maxRecDepth 100000 in
theorem vw_X6_125 : VW RX6 125 yX2_longest := ⟨(tb_in 607 (by decide +kernel) (by decide +kernel)), (tb_in 608 (by decide +kernel) (by decide +kernel)), (tb_in 609 (by decide +kernel) (by decide +kernel))⟩
set_option maxRecDepth 100000 in
theorem my_yX2_result : MY yX2_result cX2_result 1 (Option.some (Jvm.ClassFile.FieldType.object "HunkSlides$Row")) 0 := ⟨(tb_in 614 (by decide +kernel) (by decide +kernel)), (tb_in 58 (by decide +kernel) (by decide +kernel)), ⟨by decide +kernel, by decide +kernel, by decide +kernel⟩, by decide⟩
set_option maxRecDepth 100000 in
theorem vw_X6_128 : VW RX6 128 yX2_result := ⟨(tb_in 611 (by decide +kernel) (by decide +kernel)), (tb_in 612 (by decide +kernel) (by decide +kernel)), (tb_in 613 (by decide +kernel) (by decide +kernel))⟩
set_option maxRecDepth 100000 in
theorem my_yX2_laid : MY yX2_laid cX2_laid 1 (Option.some Jvm.ClassFile.FieldType.int) 0 := ⟨(tb_in 618 (by decide +kernel) (by decide +kernel)), (tb_in 58 (by decide +kernel) (by decide +kernel)), ⟨by decide +kernel, by decide +kernel, by decide +kernel⟩, by decide⟩
set_option maxRecDepth 100000 in
theorem vw_X6_132 : VW RX6 132 yX2_laid := ⟨(tb_in 615 (by decide +kernel) (by decide +kernel)), (tb_in 616 (by decide +kernel) (by decide +kernel)), (tb_in 617 (by decide +kernel) (by decide +kernel))⟩
set_option maxRecDepth 100000 in
theorem vw_X6_135 : VW RX6 135 yX5_hunks := ⟨(tb_in 619 (by decide +kernel) (by decide +kernel)), (tb_in 499 (by decide +kernel) (by decide +kernel)), (tb_in 500 (by decide +kernel) (by decide +kernel))⟩
set_option maxRecDepth 100000 in
theorem my_yX4_addPatches : MY yX4_addPatches cX4_addPatches 3 none 2 := ⟨(tb_in 623 (by decide +kernel) (by decide +kernel)), (tb_in 54 (by decide +kernel) (by decide +kernel)), ⟨by decide +kernel, by decide +kernel, by decide +kernel⟩, by decide⟩
set_option maxRecDepth 100000 in
theorem vw_X6_138 : VW RX6 138 yX4_addPatches := ⟨(tb_in 620 (by decide +kernel) (by decide +kernel)), (tb_in 621 (by decide +kernel) (by decide +kernel)), (tb_in 622 (by decide +kernel) (by decide +kernel))⟩
set_option maxRecDepth 100000 in
theorem vw_X6_141 : VW RX6 141 yX3_at := ⟨(tb_in 269 (by decide +kernel) (by decide +kernel)), (tb_in 270 (by decide +kernel) (by decide +kernel)), (tb_in 271 (by decide +kernel) (by decide +kernel))⟩
set_option maxRecDepth 100000 in
theorem my_yX0_apartBySteps : MY yX0_apartBySteps cX0_apartBySteps 7 (Option.some Jvm.ClassFile.FieldType.int) 2 := ⟨(tb_in 635 (by decide +kernel) (by decide +kernel)), (tb_in 56 (by decide +kernel) (by decide +kernel)), ⟨by decide +kernel, by decide +kernel, by decide +kernel⟩, by decide⟩
set_option maxRecDepth 100000 in
theorem vw_X6_144 : VW RX6 144 yX0_apartBySteps := ⟨(tb_in 632 (by decide +kernel) (by decide +kernel)), (tb_in 633 (by decide +kernel) (by decide +kernel)), (tb_in 634 (by decide +kernel) (by decide +kernel))⟩
set_option maxRecDepth 100000 in
theorem vw_X6_148 : VW RX6 148 yX5_size := ⟨(tb_in 647 (by decide +kernel) (by decide +kernel)), (tb_in 491 (by decide +kernel) (by decide +kernel)), (tb_in 492 (by decide +kernel) (by decide +kernel))⟩
set_option maxRecDepth 100000 in
theorem vw_X6_149 : VW RX6 149 yX5_kind := ⟨(tb_in 648 (by decide +kernel) (by decide +kernel)), (tb_in 574 (by decide +kernel) (by decide +kernel)), (tb_in 575 (by decide +kernel) (by decide +kernel))⟩
set_option maxRecDepth 100000 in
theorem vw_X6_152 : VW RX6 152 yX5_sign := ⟨(tb_in 649 (by decide +kernel) (by decide +kernel)), (tb_in 578 (by decide +kernel) (by decide +kernel)), (tb_in 579 (by decide +kernel) (by decide +kernel))⟩
set_option maxRecDepth 100000 in
theorem vw_X6_155 : VW RX6 155 yX5_oldAhead := ⟨(tb_in 650 (by decide +kernel) (by decide +kernel)), (tb_in 587 (by decide +kernel) (by decide +kernel)), (tb_in 588 (by decide +kernel) (by decide +kernel))⟩
set_option maxRecDepth 100000 in
theorem vw_X6_158 : VW RX6 158 yX5_newAhead := ⟨(tb_in 651 (by decide +kernel) (by decide +kernel)), (tb_in 583 (by decide +kernel) (by decide +kernel)), (tb_in 584 (by decide +kernel) (by decide +kernel))⟩
set_option maxRecDepth 100000 in
theorem my_yX5_hunkOf : MY yX5_hunkOf cX5_hunkOf 3 (Option.some Jvm.ClassFile.FieldType.int) 1 := ⟨(tb_in 655 (by decide +kernel) (by decide +kernel)), (tb_in 57 (by decide +kernel) (by decide +kernel)), ⟨by decide +kernel, by decide +kernel, by decide +kernel⟩, by decide⟩
set_option maxRecDepth 100000 in
theorem vw_X6_161 : VW RX6 161 yX5_hunkOf := ⟨(tb_in 652 (by decide +kernel) (by decide +kernel)), (tb_in 653 (by decide +kernel) (by decide +kernel)), (tb_in 654 (by decide +kernel) (by decide +kernel))⟩
set_option maxRecDepth 100000 in
theorem vw_X6_164 : VW RX6 164 yX5_has := ⟨(tb_in 660 (by decide +kernel) (by decide +kernel)), (tb_in 563 (by decide +kernel) (by decide +kernel)), (tb_in 564 (by decide +kernel) (by decide +kernel))⟩
set_option maxRecDepth 100000 in
theorem vw_X6_167 : VW RX6 167 yX5_top := ⟨(tb_in 661 (by decide +kernel) (by decide +kernel)), (tb_in 507 (by decide +kernel) (by decide +kernel)), (tb_in 508 (by decide +kernel) (by decide +kernel))⟩
set_option maxRecDepth 100000 in
theorem vw_X6_170 : VW RX6 170 yX5_linesOf := ⟨(tb_in 662 (by decide +kernel) (by decide +kernel)), (tb_in 503 (by decide +kernel) (by decide +kernel)), (tb_in 504 (by decide +kernel) (by decide +kernel))⟩
set_option maxRecDepth 100000 in
theorem vw_X6_174 : VW RX6 174 yX5_isPlain := ⟨(tb_in 663 (by decide +kernel) (by decide +kernel)), (tb_in 523 (by decide +kernel) (by decide +kernel)), (tb_in 524 (by decide +kernel) (by decide +kernel))⟩
set_option maxRecDepth 100000 in
theorem vw_X6_177 : VW RX6 177 yX5_reach := ⟨(tb_in 664 (by decide +kernel) (by decide +kernel)), (tb_in 531 (by decide +kernel) (by decide +kernel)), (tb_in 532 (by decide +kernel) (by decide +kernel))⟩
set_option maxRecDepth 100000 in
theorem vw_X6_181 : VW RX6 181 yX5_worth := ⟨(tb_in 665 (by decide +kernel) (by decide +kernel)), (tb_in 666 (by decide +kernel) (by decide +kernel)), (tb_in 667 (by decide +kernel) (by decide +kernel))⟩
set_option maxRecDepth 100000 in
theorem my_yX5_greatestWorth : MY yX5_greatestWorth cX5_greatestWorth 3 (Option.some Jvm.ClassFile.FieldType.int) 1 := ⟨(tb_in 672 (by decide +kernel) (by decide +kernel)), (tb_in 57 (by decide +kernel) (by decide +kernel)), ⟨by decide +kernel, by decide +kernel, by decide +kernel⟩, by decide⟩
set_option maxRecDepth 100000 in
theorem vw_X6_184 : VW RX6 184 yX5_greatestWorth := ⟨(tb_in 669 (by decide +kernel) (by decide +kernel)), (tb_in 670 (by decide +kernel) (by decide +kernel)), (tb_in 671 (by decide +kernel) (by decide +kernel))⟩
set_option maxRecDepth 100000 in
theorem vw_X6_187 : VW RX6 187 yX5_around := ⟨(tb_in 673 (by decide +kernel) (by decide +kernel)), (tb_in 559 (by decide +kernel) (by decide +kernel)), (tb_in 560 (by decide +kernel) (by decide +kernel))⟩
set_option maxRecDepth 100000 in
theorem my_yX5_hindrance : MY yX5_hindrance cX5_hindrance 3 (Option.some Jvm.ClassFile.FieldType.int) 2 := ⟨(tb_in 681 (by decide +kernel) (by decide +kernel)), (tb_in 57 (by decide +kernel) (by decide +kernel)), ⟨by decide +kernel, by decide +kernel, by decide +kernel⟩, by decide⟩
set_option maxRecDepth 100000 in
theorem vw_X6_191 : VW RX6 191 yX5_hindrance := ⟨(tb_in 678 (by decide +kernel) (by decide +kernel)), (tb_in 679 (by decide +kernel) (by decide +kernel)), (tb_in 680 (by decide +kernel) (by decide +kernel))⟩
set_option maxRecDepth 100000 in
theorem my_yX6_heldNumber : MY yX6_heldNumber cX6_heldNumber 2 (Option.some Jvm.ClassFile.FieldType.int) 1 := ⟨(tb_in 689 (by decide +kernel) (by decide +kernel)), (tb_in 52 (by decide +kernel) (by decide +kernel)), ⟨by decide +kernel, by decide +kernel, by decide +kernel⟩, by decide⟩
set_option maxRecDepth 100000 in
theorem vw_X6_194 : VW RX6 194 yX6_heldNumber := ⟨(tb_in 686 (by decide +kernel) (by decide +kernel)), (tb_in 688 (by decide +kernel) (by decide +kernel)), (tb_in 19 (by decide +kernel) (by decide +kernel))⟩
set_option maxRecDepth 100000 in
theorem my_yX6_shownNumber : MY yX6_shownNumber cX6_shownNumber 2 (Option.some Jvm.ClassFile.FieldType.int) 1 := ⟨(tb_in 705 (by decide +kernel) (by decide +kernel)), (tb_in 52 (by decide +kernel) (by decide +kernel)), ⟨by decide +kernel, by decide +kernel, by decide +kernel⟩, by decide⟩
set_option maxRecDepth 100000 in
theorem vw_X6_197 : VW RX6 197 yX6_shownNumber := ⟨(tb_in 702 (by decide +kernel) (by decide +kernel)), (tb_in 704 (by decide +kernel) (by decide +kernel)), (tb_in 20 (by decide +kernel) (by decide +kernel))⟩
set_option maxRecDepth 100000 in
theorem vw_X6_200 : VW RX6 200 yX0_keptOf := ⟨(tb_in 732 (by decide +kernel) (by decide +kernel)), (tb_in 435 (by decide +kernel) (by decide +kernel)), (tb_in 436 (by decide +kernel) (by decide +kernel))⟩
set_option maxRecDepth 100000 in
theorem my_yX2_placeOf : MY yX2_placeOf cX2_placeOf 2 (Option.some Jvm.ClassFile.FieldType.int) 1 := ⟨(tb_in 740 (by decide +kernel) (by decide +kernel)), (tb_in 58 (by decide +kernel) (by decide +kernel)), ⟨by decide +kernel, by decide +kernel, by decide +kernel⟩, by decide⟩
set_option maxRecDepth 100000 in
theorem vw_X6_203 : VW RX6 203 yX2_placeOf := ⟨(tb_in 737 (by decide +kernel) (by decide +kernel)), (tb_in 738 (by decide +kernel) (by decide +kernel)), (tb_in 739 (by decide +kernel) (by decide +kernel))⟩
set_option maxRecDepth 100000 in
theorem my_yX2_lowerOf : MY yX2_lowerOf cX2_lowerOf 2 (Option.some Jvm.ClassFile.FieldType.int) 1 := ⟨(tb_in 744 (by decide +kernel) (by decide +kernel)), (tb_in 58 (by decide +kernel) (by decide +kernel)), ⟨by decide +kernel, by decide +kernel, by decide +kernel⟩, by decide⟩
set_option maxRecDepth 100000 in
theorem vw_X6_206 : VW RX6 206 yX2_lowerOf := ⟨(tb_in 741 (by decide +kernel) (by decide +kernel)), (tb_in 742 (by decide +kernel) (by decide +kernel)), (tb_in 743 (by decide +kernel) (by decide +kernel))⟩
set_option maxRecDepth 100000 in
theorem my_yX3_isEmpty : MY yX3_isEmpty cX3_isEmpty 1 (Option.some Jvm.ClassFile.FieldType.boolean) 0 := ⟨(tb_in 756 (by decide +kernel) (by decide +kernel)), (tb_in 53 (by decide +kernel) (by decide +kernel)), ⟨by decide +kernel, by decide +kernel, by decide +kernel⟩, by decide⟩
set_option maxRecDepth 100000 in
theorem vw_X6_209 : VW RX6 209 yX3_isEmpty := ⟨(tb_in 753 (by decide +kernel) (by decide +kernel)), (tb_in 754 (by decide +kernel) (by decide +kernel)), (tb_in 755 (by decide +kernel) (by decide +kernel))⟩
set_option maxRecDepth 100000 in
theorem my_yX0_apart : MY yX0_apart cX0_apart 3 (Option.some Jvm.ClassFile.FieldType.int) 2 := ⟨(tb_in 432 (by decide +kernel) (by decide +kernel)), (tb_in 56 (by decide +kernel) (by decide +kernel)), ⟨by decide +kernel, by decide +kernel, by decide +kernel⟩, by decide⟩
set_option maxRecDepth 100000 in
theorem vw_X6_213 : VW RX6 213 yX0_apart := ⟨(tb_in 429 (by decide +kernel) (by decide +kernel)), (tb_in 430 (by decide +kernel) (by decide +kernel)), (tb_in 431 (by decide +kernel) (by decide +kernel))⟩
set_option maxRecDepth 100000 in
theorem my_yX1_isEmpty : MY yX1_isEmpty cX1_isEmpty 1 (Option.some Jvm.ClassFile.FieldType.boolean) 0 := ⟨(tb_in 764 (by decide +kernel) (by decide +kernel)), (tb_in 55 (by decide +kernel) (by decide +kernel)), ⟨by decide +kernel, by decide +kernel, by decide +kernel⟩, by decide⟩
set_option maxRecDepth 100000 in
theorem vw_X6_216 : VW RX6 216 yX1_isEmpty := ⟨(tb_in 761 (by decide +kernel) (by decide +kernel)), (tb_in 762 (by decide +kernel) (by decide +kernel)), (tb_in 763 (by decide +kernel) (by decide +kernel))⟩
set_option maxRecDepth 100000 in
theorem my_yX1_takeBack : MY yX1_takeBack cX1_takeBack 2 none 1 := ⟨(tb_in 768 (by decide +kernel) (by decide +kernel)), (tb_in 55 (by decide +kernel) (by decide +kernel)), ⟨by decide +kernel, by decide +kernel, by decide +kernel⟩, by decide⟩
set_option maxRecDepth 100000 in
theorem vw_X6_217 : VW RX6 217 yX1_takeBack := ⟨(tb_in 765 (by decide +kernel) (by decide +kernel)), (tb_in 766 (by decide +kernel) (by decide +kernel)), (tb_in 767 (by decide +kernel) (by decide +kernel))⟩
set_option maxRecDepth 100000 in
theorem my_yX1_size : MY yX1_size cX1_size 1 (Option.some Jvm.ClassFile.FieldType.int) 0 := ⟨(tb_in 701 (by decide +kernel) (by decide +kernel)), (tb_in 55 (by decide +kernel) (by decide +kernel)), ⟨by decide +kernel, by decide +kernel, by decide +kernel⟩, by decide⟩
set_option maxRecDepth 100000 in
theorem vw_X6_220 : VW RX6 220 yX1_size := ⟨(tb_in 698 (by decide +kernel) (by decide +kernel)), (tb_in 699 (by decide +kernel) (by decide +kernel)), (tb_in 700 (by decide +kernel) (by decide +kernel))⟩
set_option maxRecDepth 100000 in
theorem vw_X6_221 : VW RX6 221 yX4_become := ⟨(tb_in 773 (by decide +kernel) (by decide +kernel)), (tb_in 384 (by decide +kernel) (by decide +kernel)), (tb_in 385 (by decide +kernel) (by decide +kernel))⟩
set_option maxRecDepth 100000 in
theorem my_yJ0_length_8abf5 : MY yJ0_length_8abf5 cJ0_length_8abf5 1 (Option.some Jvm.ClassFile.FieldType.int) 0 := ⟨(tb_in 290 (by decide +kernel) (by decide +kernel)), (tb_in 60 (by decide +kernel) (by decide +kernel)), ⟨by decide +kernel, by decide +kernel, by decide +kernel⟩, by decide⟩
set_option maxRecDepth 100000 in
theorem vw_X6_225 : VW RX6 225 yJ0_length_8abf5 := ⟨(tb_in 406 (by decide +kernel) (by decide +kernel)), (tb_in 288 (by decide +kernel) (by decide +kernel)), (tb_in 289 (by decide +kernel) (by decide +kernel))⟩
set_option maxRecDepth 100000 in
theorem my_yJ0_indexOf_0f7a4 : MY yJ0_indexOf_0f7a4 cJ0_indexOf_0f7a4 2 (Option.some Jvm.ClassFile.FieldType.int) 1 := ⟨(tb_in 276 (by decide +kernel) (by decide +kernel)), (tb_in 60 (by decide +kernel) (by decide +kernel)), ⟨by decide +kernel, by decide +kernel, by decide +kernel⟩, by decide⟩
set_option maxRecDepth 100000 in
theorem vw_X6_230 : VW RX6 230 yJ0_indexOf_0f7a4 := ⟨(tb_in 273 (by decide +kernel) (by decide +kernel)), (tb_in 274 (by decide +kernel) (by decide +kernel)), (tb_in 275 (by decide +kernel) (by decide +kernel))⟩
set_option maxRecDepth 100000 in
theorem my_yX5_gather : MY yX5_gather cX5_gather 9 none 3 := ⟨(tb_in 476 (by decide +kernel) (by decide +kernel)), (tb_in 57 (by decide +kernel) (by decide +kernel)), ⟨by decide +kernel, by decide +kernel, by decide +kernel⟩, by decide⟩
set_option maxRecDepth 100000 in
theorem vw_X6_233 : VW RX6 233 yX5_gather := ⟨(tb_in 473 (by decide +kernel) (by decide +kernel)), (tb_in 474 (by decide +kernel) (by decide +kernel)), (tb_in 475 (by decide +kernel) (by decide +kernel))⟩
set_option maxRecDepth 100000 in
theorem my_yX5_settle : MY yX5_settle cX5_settle 2 none 0 := ⟨(tb_in 521 (by decide +kernel) (by decide +kernel)), (tb_in 57 (by decide +kernel) (by decide +kernel)), ⟨by decide +kernel, by decide +kernel, by decide +kernel⟩, by decide⟩
set_option maxRecDepth 100000 in
theorem vw_X6_237 : VW RX6 237 yX5_settle := ⟨(tb_in 518 (by decide +kernel) (by decide +kernel)), (tb_in 519 (by decide +kernel) (by decide +kernel)), (tb_in 520 (by decide +kernel) (by decide +kernel))⟩
set_option maxRecDepth 100000 in
theorem my_yX5_linesOfKind : MY yX5_linesOfKind cX5_linesOfKind 2 (Option.some Jvm.ClassFile.FieldType.int) 1 := ⟨(tb_in 709 (by decide +kernel) (by decide +kernel)), (tb_in 57 (by decide +kernel) (by decide +kernel)), ⟨by decide +kernel, by decide +kernel, by decide +kernel⟩, by decide⟩
set_option maxRecDepth 100000 in
theorem vw_X6_240 : VW RX6 240 yX5_linesOfKind := ⟨(tb_in 706 (by decide +kernel) (by decide +kernel)), (tb_in 707 (by decide +kernel) (by decide +kernel)), (tb_in 708 (by decide +kernel) (by decide +kernel))⟩
set_option maxRecDepth 100000 in
theorem my_yX5_plainHunks : MY yX5_plainHunks cX5_plainHunks 3 (Option.some Jvm.ClassFile.FieldType.int) 0 := ⟨(tb_in 713 (by decide +kernel) (by decide +kernel)), (tb_in 57 (by decide +kernel) (by decide +kernel)), ⟨by decide +kernel, by decide +kernel, by decide +kernel⟩, by decide⟩
set_option maxRecDepth 100000 in
theorem vw_X6_243 : VW RX6 243 yX5_plainHunks := ⟨(tb_in 710 (by decide +kernel) (by decide +kernel)), (tb_in 711 (by decide +kernel) (by decide +kernel)), (tb_in 712 (by decide +kernel) (by decide +kernel))⟩
set_option maxRecDepth 100000 in
theorem my_yX5_slidingHunks : MY yX5_slidingHunks cX5_slidingHunks 3 (Option.some Jvm.ClassFile.FieldType.int) 0 := ⟨(tb_in 717 (by decide +kernel) (by decide +kernel)), (tb_in 57 (by decide +kernel) (by decide +kernel)), ⟨by decide +kernel, by decide +kernel, by decide +kernel⟩, by decide⟩
set_option maxRecDepth 100000 in
theorem vw_X6_246 : VW RX6 246 yX5_slidingHunks := ⟨(tb_in 714 (by decide +kernel) (by decide +kernel)), (tb_in 715 (by decide +kernel) (by decide +kernel)), (tb_in 716 (by decide +kernel) (by decide +kernel))⟩
set_option maxRecDepth 100000 in
theorem my_yX5_worthOfAll : MY yX5_worthOfAll cX5_worthOfAll 3 (Option.some Jvm.ClassFile.FieldType.int) 0 := ⟨(tb_in 721 (by decide +kernel) (by decide +kernel)), (tb_in 57 (by decide +kernel) (by decide +kernel)), ⟨by decide +kernel, by decide +kernel, by decide +kernel⟩, by decide⟩
set_option maxRecDepth 100000 in
theorem vw_X6_249 : VW RX6 249 yX5_worthOfAll := ⟨(tb_in 718 (by decide +kernel) (by decide +kernel)), (tb_in 719 (by decide +kernel) (by decide +kernel)), (tb_in 720 (by decide +kernel) (by decide +kernel))⟩
set_option maxRecDepth 100000 in
theorem my_yX5_longestKept : MY yX5_longestKept cX5_longestKept 4 (Option.some Jvm.ClassFile.FieldType.int) 0 := ⟨(tb_in 726 (by decide +kernel) (by decide +kernel)), (tb_in 57 (by decide +kernel) (by decide +kernel)), ⟨by decide +kernel, by decide +kernel, by decide +kernel⟩, by decide⟩
set_option maxRecDepth 100000 in
theorem vw_X6_252 : VW RX6 252 yX5_longestKept := ⟨(tb_in 723 (by decide +kernel) (by decide +kernel)), (tb_in 724 (by decide +kernel) (by decide +kernel)), (tb_in 725 (by decide +kernel) (by decide +kernel))⟩
set_option maxRecDepth 100000 in
theorem my_yX4_laid : MY yX4_laid cX4_laid 1 (Option.some Jvm.ClassFile.FieldType.int) 0 := ⟨(tb_in 693 (by decide +kernel) (by decide +kernel)), (tb_in 54 (by decide +kernel) (by decide +kernel)), ⟨by decide +kernel, by decide +kernel, by decide +kernel⟩, by decide⟩
set_option maxRecDepth 100000 in
theorem vw_X6_255 : VW RX6 255 yX4_laid := ⟨(tb_in 690 (by decide +kernel) (by decide +kernel)), (tb_in 691 (by decide +kernel) (by decide +kernel)), (tb_in 692 (by decide +kernel) (by decide +kernel))⟩
set_option maxRecDepth 100000 in
theorem my_yX4_leftOut : MY yX4_leftOut cX4_leftOut 1 (Option.some Jvm.ClassFile.FieldType.int) 0 := ⟨(tb_in 697 (by decide +kernel) (by decide +kernel)), (tb_in 54 (by decide +kernel) (by decide +kernel)), ⟨by decide +kernel, by decide +kernel, by decide +kernel⟩, by decide⟩
set_option maxRecDepth 100000 in
theorem vw_X6_256 : VW RX6 256 yX4_leftOut := ⟨(tb_in 694 (by decide +kernel) (by decide +kernel)), (tb_in 695 (by decide +kernel) (by decide +kernel)), (tb_in 696 (by decide +kernel) (by decide +kernel))⟩
set_option maxRecDepth 100000 in
theorem vw_X6_63 : VW RX6 63 yX3_size := ⟨(tb_in 244 (by decide +kernel) (by decide +kernel)), (tb_in 245 (by decide +kernel) (by decide +kernel)), (tb_in 246 (by decide +kernel) (by decide +kernel))⟩
set_option maxRecDepth 100000 in
theorem vw_X6_67 : VW RX6 67 yX3_add := ⟨(tb_in 248 (by decide +kernel) (by decide +kernel)), (tb_in 249 (by decide +kernel) (by decide +kernel)), (tb_in 250 (by decide +kernel) (by decide +kernel))⟩
set_option maxRecDepth 100000 in
theorem vw_X6_70 : VW RX6 70 yX3_emptyOut := ⟨(tb_in 256 (by decide +kernel) (by decide +kernel)), (tb_in 257 (by decide +kernel) (by decide +kernel)), (tb_in 258 (by decide +kernel) (by decide +kernel))⟩
set_option maxRecDepth 100000 in
theorem my_yX6_padSign : MY yX6_padSign cX6_padSign 2 (Option.some Jvm.ClassFile.FieldType.int) 1 := ⟨(tb_in 267 (by decide +kernel) (by decide +kernel)), (tb_in 52 (by decide +kernel) (by decide +kernel)), ⟨by decide +kernel, by decide +kernel, by decide +kernel⟩, by decide⟩
set_option maxRecDepth 100000 in
theorem vw_X6_73 : VW RX6 73 yX6_padSign := ⟨(tb_in 264 (by decide +kernel) (by decide +kernel)), (tb_in 266 (by decide +kernel) (by decide +kernel)), (tb_in 0 (by decide +kernel) (by decide +kernel))⟩
set_option maxRecDepth 100000 in
theorem my_yX6_isText : MY yX6_isText cX6_isText 1 (Option.some Jvm.ClassFile.FieldType.boolean) 1 := ⟨(tb_in 366 (by decide +kernel) (by decide +kernel)), (tb_in 52 (by decide +kernel) (by decide +kernel)), ⟨by decide +kernel, by decide +kernel, by decide +kernel⟩, by decide⟩
set_option maxRecDepth 100000 in
theorem sw_X6_77 : SW RX6 77 yX6_isText := ⟨(tb_in 364 (by decide +kernel) (by decide +kernel)), (tb_in 365 (by decide +kernel) (by decide +kernel))⟩
set_option maxRecDepth 100000 in
theorem my_yX6_fault : MY yX6_fault cX6_fault 2 (Option.some Jvm.ClassFile.FieldType.int) 0 := ⟨(tb_in 263 (by decide +kernel) (by decide +kernel)), (tb_in 52 (by decide +kernel) (by decide +kernel)), ⟨by decide +kernel, by decide +kernel, by decide +kernel⟩, by decide⟩
set_option maxRecDepth 100000 in
theorem vw_X6_81 : VW RX6 81 yX6_fault := ⟨(tb_in 367 (by decide +kernel) (by decide +kernel)), (tb_in 261 (by decide +kernel) (by decide +kernel)), (tb_in 262 (by decide +kernel) (by decide +kernel))⟩
set_option maxRecDepth 100000 in
theorem my_yX1_record : MY yX1_record cX1_record 2 none 1 := ⟨(tb_in 371 (by decide +kernel) (by decide +kernel)), (tb_in 55 (by decide +kernel) (by decide +kernel)), ⟨by decide +kernel, by decide +kernel, by decide +kernel⟩, by decide⟩
set_option maxRecDepth 100000 in
theorem vw_X6_84 : VW RX6 84 yX1_record := ⟨(tb_in 368 (by decide +kernel) (by decide +kernel)), (tb_in 369 (by decide +kernel) (by decide +kernel)), (tb_in 370 (by decide +kernel) (by decide +kernel))⟩
set_option maxRecDepth 100000 in
theorem my_yX4_text : MY yX4_text cX4_text 2 (Option.some (Jvm.ClassFile.FieldType.object "HunkSlides$Row")) 1 := ⟨(tb_in 398 (by decide +kernel) (by decide +kernel)), (tb_in 54 (by decide +kernel) (by decide +kernel)), ⟨by decide +kernel, by decide +kernel, by decide +kernel⟩, by decide⟩
set_option maxRecDepth 100000 in
theorem vw_X6_88 : VW RX6 88 yX4_text := ⟨(tb_in 395 (by decide +kernel) (by decide +kernel)), (tb_in 396 (by decide +kernel) (by decide +kernel)), (tb_in 397 (by decide +kernel) (by decide +kernel))⟩
set_option maxRecDepth 100000 in
theorem my_yX6_isSign : MY yX6_isSign cX6_isSign 1 (Option.some Jvm.ClassFile.FieldType.boolean) 1 := ⟨(tb_in 405 (by decide +kernel) (by decide +kernel)), (tb_in 52 (by decide +kernel) (by decide +kernel)), ⟨by decide +kernel, by decide +kernel, by decide +kernel⟩, by decide⟩
set_option maxRecDepth 100000 in
theorem sw_X6_92 : SW RX6 92 yX6_isSign := ⟨(tb_in 403 (by decide +kernel) (by decide +kernel)), (tb_in 404 (by decide +kernel) (by decide +kernel))⟩
set_option maxRecDepth 100000 in
theorem vw_X6_95 : VW RX6 95 yX3_putIn := ⟨(tb_in 407 (by decide +kernel) (by decide +kernel)), (tb_in 408 (by decide +kernel) (by decide +kernel)), (tb_in 409 (by decide +kernel) (by decide +kernel))⟩
set_option maxRecDepth 100000 in
theorem vw_X6_99 : VW RX6 99 yX3_change := ⟨(tb_in 415 (by decide +kernel) (by decide +kernel)), (tb_in 412 (by decide +kernel) (by decide +kernel)), (tb_in 413 (by decide +kernel) (by decide +kernel))⟩
set_option maxRecDepth 100000 in
theorem my_yX7_slides : MY yX7_slides cX7_slides 5 (Option.some Jvm.ClassFile.FieldType.int) 2 := ⟨(tb_in 942 (by decide +kernel) (by decide +kernel)), (tb_in 59 (by decide +kernel) (by decide +kernel)), ⟨by decide +kernel, by decide +kernel, by decide +kernel⟩, by decide⟩
set_option maxRecDepth 100000 in
theorem vw_X7_100 : VW RX7 100 yX7_slides := ⟨(tb_in 939 (by decide +kernel) (by decide +kernel)), (tb_in 941 (by decide +kernel) (by decide +kernel)), (tb_in 37 (by decide +kernel) (by decide +kernel))⟩
set_option maxRecDepth 100000 in
theorem my_yX7_worth : MY yX7_worth cX7_worth 5 (Option.some Jvm.ClassFile.FieldType.int) 2 := ⟨(tb_in 950 (by decide +kernel) (by decide +kernel)), (tb_in 59 (by decide +kernel) (by decide +kernel)), ⟨by decide +kernel, by decide +kernel, by decide +kernel⟩, by decide⟩
set_option maxRecDepth 100000 in
theorem vw_X7_104 : VW RX7 104 yX7_worth := ⟨(tb_in 947 (by decide +kernel) (by decide +kernel)), (tb_in 949 (by decide +kernel) (by decide +kernel)), (tb_in 39 (by decide +kernel) (by decide +kernel))⟩
set_option maxRecDepth 100000 in
theorem my_yX7_start : MY yX7_start cX7_start 4 (Option.some Jvm.ClassFile.FieldType.int) 1 := ⟨(tb_in 922 (by decide +kernel) (by decide +kernel)), (tb_in 59 (by decide +kernel) (by decide +kernel)), ⟨by decide +kernel, by decide +kernel, by decide +kernel⟩, by decide⟩
set_option maxRecDepth 100000 in
theorem vw_X7_107 : VW RX7 107 yX7_start := ⟨(tb_in 919 (by decide +kernel) (by decide +kernel)), (tb_in 921 (by decide +kernel) (by decide +kernel)), (tb_in 32 (by decide +kernel) (by decide +kernel))⟩
set_option maxRecDepth 100000 in
theorem my_yX7_bestPlace : MY yX7_bestPlace cX7_bestPlace 8 (Option.some Jvm.ClassFile.FieldType.int) 1 := ⟨(tb_in 938 (by decide +kernel) (by decide +kernel)), (tb_in 59 (by decide +kernel) (by decide +kernel)), ⟨by decide +kernel, by decide +kernel, by decide +kernel⟩, by decide⟩
set_option maxRecDepth 100000 in
theorem vw_X7_110 : VW RX7 110 yX7_bestPlace := ⟨(tb_in 935 (by decide +kernel) (by decide +kernel)), (tb_in 937 (by decide +kernel) (by decide +kernel)), (tb_in 36 (by decide +kernel) (by decide +kernel))⟩
set_option maxRecDepth 100000 in
theorem my_yX7_linesBut : MY yX7_linesBut cX7_linesBut 6 (Option.some Jvm.ClassFile.FieldType.int) 3 := ⟨(tb_in 962 (by decide +kernel) (by decide +kernel)), (tb_in 59 (by decide +kernel) (by decide +kernel)), ⟨by decide +kernel, by decide +kernel, by decide +kernel⟩, by decide⟩
set_option maxRecDepth 100000 in
theorem vw_X7_116 : VW RX7 116 yX7_linesBut := ⟨(tb_in 959 (by decide +kernel) (by decide +kernel)), (tb_in 961 (by decide +kernel) (by decide +kernel)), (tb_in 42 (by decide +kernel) (by decide +kernel))⟩
set_option maxRecDepth 100000 in
theorem my_yX7_fits : MY yX7_fits cX7_fits 8 (Option.some Jvm.ClassFile.FieldType.boolean) 4 := ⟨(tb_in 970 (by decide +kernel) (by decide +kernel)), (tb_in 59 (by decide +kernel) (by decide +kernel)), ⟨by decide +kernel, by decide +kernel, by decide +kernel⟩, by decide⟩
set_option maxRecDepth 100000 in
theorem vw_X7_120 : VW RX7 120 yX7_fits := ⟨(tb_in 967 (by decide +kernel) (by decide +kernel)), (tb_in 969 (by decide +kernel) (by decide +kernel)), (tb_in 44 (by decide +kernel) (by decide +kernel))⟩
set_option maxRecDepth 100000 in
theorem my_yX7_around : MY yX7_around cX7_around 7 (Option.some Jvm.ClassFile.FieldType.int) 3 := ⟨(tb_in 958 (by decide +kernel) (by decide +kernel)), (tb_in 59 (by decide +kernel) (by decide +kernel)), ⟨by decide +kernel, by decide +kernel, by decide +kernel⟩, by decide⟩
set_option maxRecDepth 100000 in
theorem vw_X7_128 : VW RX7 128 yX7_around := ⟨(tb_in 955 (by decide +kernel) (by decide +kernel)), (tb_in 957 (by decide +kernel) (by decide +kernel)), (tb_in 41 (by decide +kernel) (by decide +kernel))⟩
set_option maxRecDepth 100000 in
theorem my_yX7_looks : MY yX7_looks cX7_looks 8 (Option.some Jvm.ClassFile.FieldType.int) 5 := ⟨(tb_in 966 (by decide +kernel) (by decide +kernel)), (tb_in 59 (by decide +kernel) (by decide +kernel)), ⟨by decide +kernel, by decide +kernel, by decide +kernel⟩, by decide⟩
set_option maxRecDepth 100000 in
theorem vw_X7_132 : VW RX7 132 yX7_looks := ⟨(tb_in 963 (by decide +kernel) (by decide +kernel)), (tb_in 965 (by decide +kernel) (by decide +kernel)), (tb_in 43 (by decide +kernel) (by decide +kernel))⟩
set_option maxRecDepth 100000 in
theorem my_yX7_replaces : MY yX7_replaces cX7_replaces 10 none 5 := ⟨(tb_in 974 (by decide +kernel) (by decide +kernel)), (tb_in 59 (by decide +kernel) (by decide +kernel)), ⟨by decide +kernel, by decide +kernel, by decide +kernel⟩, by decide⟩
set_option maxRecDepth 100000 in
theorem vw_X7_136 : VW RX7 136 yX7_replaces := ⟨(tb_in 971 (by decide +kernel) (by decide +kernel)), (tb_in 973 (by decide +kernel) (by decide +kernel)), (tb_in 45 (by decide +kernel) (by decide +kernel))⟩
set_option maxRecDepth 100000 in
theorem my_yX7_signOf : MY yX7_signOf cX7_signOf 1 (Option.some Jvm.ClassFile.FieldType.int) 1 := ⟨(tb_in 853 (by decide +kernel) (by decide +kernel)), (tb_in 59 (by decide +kernel) (by decide +kernel)), ⟨by decide +kernel, by decide +kernel, by decide +kernel⟩, by decide⟩
set_option maxRecDepth 100000 in
theorem sw_X7_143 : SW RX7 143 yX7_signOf := ⟨(tb_in 851 (by decide +kernel) (by decide +kernel)), (tb_in 852 (by decide +kernel) (by decide +kernel))⟩
set_option maxRecDepth 100000 in
theorem my_yX7_fault : MY yX7_fault cX7_fault 2 (Option.some Jvm.ClassFile.FieldType.int) 0 := ⟨(tb_in 850 (by decide +kernel) (by decide +kernel)), (tb_in 59 (by decide +kernel) (by decide +kernel)), ⟨by decide +kernel, by decide +kernel, by decide +kernel⟩, by decide⟩
set_option maxRecDepth 100000 in
theorem vw_X7_146 : VW RX7 146 yX7_fault := ⟨(tb_in 858 (by decide +kernel) (by decide +kernel)), (tb_in 848 (by decide +kernel) (by decide +kernel)), (tb_in 849 (by decide +kernel) (by decide +kernel))⟩
set_option maxRecDepth 100000 in
theorem my_yX7_remembers : MY yX7_remembers cX7_remembers 2 none 0 := ⟨(tb_in 862 (by decide +kernel) (by decide +kernel)), (tb_in 59 (by decide +kernel) (by decide +kernel)), ⟨by decide +kernel, by decide +kernel, by decide +kernel⟩, by decide⟩
set_option maxRecDepth 100000 in
theorem vw_X7_149 : VW RX7 149 yX7_remembers := ⟨(tb_in 859 (by decide +kernel) (by decide +kernel)), (tb_in 861 (by decide +kernel) (by decide +kernel)), (tb_in 21 (by decide +kernel) (by decide +kernel))⟩
set_option maxRecDepth 100000 in
theorem my_yX7_views : MY yX7_views cX7_views 6 none 0 := ⟨(tb_in 902 (by decide +kernel) (by decide +kernel)), (tb_in 59 (by decide +kernel) (by decide +kernel)), ⟨by decide +kernel, by decide +kernel, by decide +kernel⟩, by decide⟩
set_option maxRecDepth 100000 in
theorem vw_X7_152 : VW RX7 152 yX7_views := ⟨(tb_in 899 (by decide +kernel) (by decide +kernel)), (tb_in 901 (by decide +kernel) (by decide +kernel)), (tb_in 27 (by decide +kernel) (by decide +kernel))⟩
set_option maxRecDepth 100000 in
theorem my_yX7_lays : MY yX7_lays cX7_lays 14 (Option.some Jvm.ClassFile.FieldType.int) 2 := ⟨(tb_in 954 (by decide +kernel) (by decide +kernel)), (tb_in 59 (by decide +kernel) (by decide +kernel)), ⟨by decide +kernel, by decide +kernel, by decide +kernel⟩, by decide⟩
set_option maxRecDepth 100000 in
theorem vw_X7_155 : VW RX7 155 yX7_lays := ⟨(tb_in 951 (by decide +kernel) (by decide +kernel)), (tb_in 953 (by decide +kernel) (by decide +kernel)), (tb_in 40 (by decide +kernel) (by decide +kernel))⟩
set_option maxRecDepth 100000 in
theorem my_yX7_byDiagonals : MY yX7_byDiagonals cX7_byDiagonals 6 (Option.some Jvm.ClassFile.FieldType.int) 0 := ⟨(tb_in 986 (by decide +kernel) (by decide +kernel)), (tb_in 59 (by decide +kernel) (by decide +kernel)), ⟨by decide +kernel, by decide +kernel, by decide +kernel⟩, by decide⟩
set_option maxRecDepth 100000 in
theorem vw_X7_159 : VW RX7 159 yX7_byDiagonals := ⟨(tb_in 983 (by decide +kernel) (by decide +kernel)), (tb_in 985 (by decide +kernel) (by decide +kernel)), (tb_in 46 (by decide +kernel) (by decide +kernel))⟩
set_option maxRecDepth 100000 in
theorem my_yX7_hunkAt : MY yX7_hunkAt cX7_hunkAt 4 (Option.some Jvm.ClassFile.FieldType.int) 1 := ⟨(tb_in 994 (by decide +kernel) (by decide +kernel)), (tb_in 59 (by decide +kernel) (by decide +kernel)), ⟨by decide +kernel, by decide +kernel, by decide +kernel⟩, by decide⟩
set_option maxRecDepth 100000 in
theorem vw_X7_162 : VW RX7 162 yX7_hunkAt := ⟨(tb_in 991 (by decide +kernel) (by decide +kernel)), (tb_in 993 (by decide +kernel) (by decide +kernel)), (tb_in 47 (by decide +kernel) (by decide +kernel))⟩
set_option maxRecDepth 100000 in
theorem my_yX7_linesOf : MY yX7_linesOf cX7_linesOf 4 (Option.some Jvm.ClassFile.FieldType.int) 1 := ⟨(tb_in 1010 (by decide +kernel) (by decide +kernel)), (tb_in 59 (by decide +kernel) (by decide +kernel)), ⟨by decide +kernel, by decide +kernel, by decide +kernel⟩, by decide⟩
set_option maxRecDepth 100000 in
theorem vw_X7_165 : VW RX7 165 yX7_linesOf := ⟨(tb_in 1007 (by decide +kernel) (by decide +kernel)), (tb_in 1009 (by decide +kernel) (by decide +kernel)), (tb_in 48 (by decide +kernel) (by decide +kernel))⟩
set_option maxRecDepth 100000 in
theorem my_yX7_ofHunks : MY yX7_ofHunks cX7_ofHunks 6 (Option.some Jvm.ClassFile.FieldType.int) 1 := ⟨(tb_in 1014 (by decide +kernel) (by decide +kernel)), (tb_in 59 (by decide +kernel) (by decide +kernel)), ⟨by decide +kernel, by decide +kernel, by decide +kernel⟩, by decide⟩
set_option maxRecDepth 100000 in
theorem vw_X7_168 : VW RX7 168 yX7_ofHunks := ⟨(tb_in 1011 (by decide +kernel) (by decide +kernel)), (tb_in 1013 (by decide +kernel) (by decide +kernel)), (tb_in 49 (by decide +kernel) (by decide +kernel))⟩
set_option maxRecDepth 100000 in
theorem my_yX7_longestKept : MY yX7_longestKept cX7_longestKept 4 (Option.some Jvm.ClassFile.FieldType.int) 0 := ⟨(tb_in 1018 (by decide +kernel) (by decide +kernel)), (tb_in 59 (by decide +kernel) (by decide +kernel)), ⟨by decide +kernel, by decide +kernel, by decide +kernel⟩, by decide⟩
set_option maxRecDepth 100000 in
theorem vw_X7_171 : VW RX7 171 yX7_longestKept := ⟨(tb_in 1015 (by decide +kernel) (by decide +kernel)), (tb_in 1017 (by decide +kernel) (by decide +kernel)), (tb_in 50 (by decide +kernel) (by decide +kernel))⟩
set_option maxRecDepth 100000 in
theorem my_yX7_lines : MY yX7_lines cX7_lines 2 (Option.some Jvm.ClassFile.FieldType.int) 1 := ⟨(tb_in 866 (by decide +kernel) (by decide +kernel)), (tb_in 59 (by decide +kernel) (by decide +kernel)), ⟨by decide +kernel, by decide +kernel, by decide +kernel⟩, by decide⟩
set_option maxRecDepth 100000 in
theorem vw_X7_47 : VW RX7 47 yX7_lines := ⟨(tb_in 863 (by decide +kernel) (by decide +kernel)), (tb_in 865 (by decide +kernel) (by decide +kernel)), (tb_in 22 (by decide +kernel) (by decide +kernel))⟩
set_option maxRecDepth 100000 in
theorem my_yX7_lineOf : MY yX7_lineOf cX7_lineOf 3 (Option.some Jvm.ClassFile.FieldType.int) 2 := ⟨(tb_in 890 (by decide +kernel) (by decide +kernel)), (tb_in 59 (by decide +kernel) (by decide +kernel)), ⟨by decide +kernel, by decide +kernel, by decide +kernel⟩, by decide⟩
set_option maxRecDepth 100000 in
theorem vw_X7_51 : VW RX7 51 yX7_lineOf := ⟨(tb_in 887 (by decide +kernel) (by decide +kernel)), (tb_in 889 (by decide +kernel) (by decide +kernel)), (tb_in 26 (by decide +kernel) (by decide +kernel))⟩
set_option maxRecDepth 100000 in
theorem my_yX7_olds : MY yX7_olds cX7_olds 1 (Option.some Jvm.ClassFile.FieldType.int) 0 := ⟨(tb_in 882 (by decide +kernel) (by decide +kernel)), (tb_in 59 (by decide +kernel) (by decide +kernel)), ⟨by decide +kernel, by decide +kernel, by decide +kernel⟩, by decide⟩
set_option maxRecDepth 100000 in
theorem vw_X7_55 : VW RX7 55 yX7_olds := ⟨(tb_in 879 (by decide +kernel) (by decide +kernel)), (tb_in 881 (by decide +kernel) (by decide +kernel)), (tb_in 24 (by decide +kernel) (by decide +kernel))⟩
set_option maxRecDepth 100000 in
theorem my_yX7_old : MY yX7_old cX7_old 2 (Option.some Jvm.ClassFile.FieldType.int) 1 := ⟨(tb_in 886 (by decide +kernel) (by decide +kernel)), (tb_in 59 (by decide +kernel) (by decide +kernel)), ⟨by decide +kernel, by decide +kernel, by decide +kernel⟩, by decide⟩
set_option maxRecDepth 100000 in
theorem vw_X7_59 : VW RX7 59 yX7_old := ⟨(tb_in 883 (by decide +kernel) (by decide +kernel)), (tb_in 885 (by decide +kernel) (by decide +kernel)), (tb_in 25 (by decide +kernel) (by decide +kernel))⟩
set_option maxRecDepth 100000 in
theorem my_yX7_counts : MY yX7_counts cX7_counts 6 (Option.some Jvm.ClassFile.FieldType.int) 0 := ⟨(tb_in 878 (by decide +kernel) (by decide +kernel)), (tb_in 59 (by decide +kernel) (by decide +kernel)), ⟨by decide +kernel, by decide +kernel, by decide +kernel⟩, by decide⟩
set_option maxRecDepth 100000 in
theorem vw_X7_65 : VW RX7 65 yX7_counts := ⟨(tb_in 875 (by decide +kernel) (by decide +kernel)), (tb_in 877 (by decide +kernel) (by decide +kernel)), (tb_in 23 (by decide +kernel) (by decide +kernel))⟩
set_option maxRecDepth 100000 in
theorem my_yX7_shows : MY yX7_shows cX7_shows 3 none 2 := ⟨(tb_in 906 (by decide +kernel) (by decide +kernel)), (tb_in 59 (by decide +kernel) (by decide +kernel)), ⟨by decide +kernel, by decide +kernel, by decide +kernel⟩, by decide⟩
set_option maxRecDepth 100000 in
theorem vw_X7_68 : VW RX7 68 yX7_shows := ⟨(tb_in 903 (by decide +kernel) (by decide +kernel)), (tb_in 905 (by decide +kernel) (by decide +kernel)), (tb_in 28 (by decide +kernel) (by decide +kernel))⟩
set_option maxRecDepth 100000 in
theorem my_yX7_hunks : MY yX7_hunks cX7_hunks 3 (Option.some Jvm.ClassFile.FieldType.int) 0 := ⟨(tb_in 910 (by decide +kernel) (by decide +kernel)), (tb_in 59 (by decide +kernel) (by decide +kernel)), ⟨by decide +kernel, by decide +kernel, by decide +kernel⟩, by decide⟩
set_option maxRecDepth 100000 in
theorem vw_X7_72 : VW RX7 72 yX7_hunks := ⟨(tb_in 907 (by decide +kernel) (by decide +kernel)), (tb_in 909 (by decide +kernel) (by decide +kernel)), (tb_in 29 (by decide +kernel) (by decide +kernel))⟩
set_option maxRecDepth 100000 in
theorem my_yX7_settles : MY yX7_settles cX7_settles 7 none 1 := ⟨(tb_in 918 (by decide +kernel) (by decide +kernel)), (tb_in 59 (by decide +kernel) (by decide +kernel)), ⟨by decide +kernel, by decide +kernel, by decide +kernel⟩, by decide⟩
set_option maxRecDepth 100000 in
theorem vw_X7_75 : VW RX7 75 yX7_settles := ⟨(tb_in 915 (by decide +kernel) (by decide +kernel)), (tb_in 917 (by decide +kernel) (by decide +kernel)), (tb_in 31 (by decide +kernel) (by decide +kernel))⟩
set_option maxRecDepth 100000 in
theorem my_yX7_begins : MY yX7_begins cX7_begins 2 (Option.some Jvm.ClassFile.FieldType.boolean) 1 := ⟨(tb_in 914 (by decide +kernel) (by decide +kernel)), (tb_in 59 (by decide +kernel) (by decide +kernel)), ⟨by decide +kernel, by decide +kernel, by decide +kernel⟩, by decide⟩
set_option maxRecDepth 100000 in
theorem vw_X7_79 : VW RX7 79 yX7_begins := ⟨(tb_in 911 (by decide +kernel) (by decide +kernel)), (tb_in 913 (by decide +kernel) (by decide +kernel)), (tb_in 30 (by decide +kernel) (by decide +kernel))⟩
set_option maxRecDepth 100000 in
theorem my_yX7_size : MY yX7_size cX7_size 3 (Option.some Jvm.ClassFile.FieldType.int) 1 := ⟨(tb_in 934 (by decide +kernel) (by decide +kernel)), (tb_in 59 (by decide +kernel) (by decide +kernel)), ⟨by decide +kernel, by decide +kernel, by decide +kernel⟩, by decide⟩
set_option maxRecDepth 100000 in
theorem vw_X7_83 : VW RX7 83 yX7_size := ⟨(tb_in 931 (by decide +kernel) (by decide +kernel)), (tb_in 933 (by decide +kernel) (by decide +kernel)), (tb_in 35 (by decide +kernel) (by decide +kernel))⟩
set_option maxRecDepth 100000 in
theorem my_yX7_marked : MY yX7_marked cX7_marked 5 (Option.some Jvm.ClassFile.FieldType.int) 2 := ⟨(tb_in 930 (by decide +kernel) (by decide +kernel)), (tb_in 59 (by decide +kernel) (by decide +kernel)), ⟨by decide +kernel, by decide +kernel, by decide +kernel⟩, by decide⟩
set_option maxRecDepth 100000 in
theorem vw_X7_86 : VW RX7 86 yX7_marked := ⟨(tb_in 927 (by decide +kernel) (by decide +kernel)), (tb_in 929 (by decide +kernel) (by decide +kernel)), (tb_in 34 (by decide +kernel) (by decide +kernel))⟩
set_option maxRecDepth 100000 in
theorem my_yX7_in : MY yX7_in cX7_in 3 (Option.some Jvm.ClassFile.FieldType.boolean) 3 := ⟨(tb_in 842 (by decide +kernel) (by decide +kernel)), (tb_in 59 (by decide +kernel) (by decide +kernel)), ⟨by decide +kernel, by decide +kernel, by decide +kernel⟩, by decide⟩
set_option maxRecDepth 100000 in
theorem sw_X7_89 : SW RX7 89 yX7_in := ⟨(tb_in 840 (by decide +kernel) (by decide +kernel)), (tb_in 841 (by decide +kernel) (by decide +kernel))⟩
set_option maxRecDepth 100000 in
theorem my_yX7_isPlain : MY yX7_isPlain cX7_isPlain 2 (Option.some Jvm.ClassFile.FieldType.boolean) 1 := ⟨(tb_in 926 (by decide +kernel) (by decide +kernel)), (tb_in 59 (by decide +kernel) (by decide +kernel)), ⟨by decide +kernel, by decide +kernel, by decide +kernel⟩, by decide⟩
set_option maxRecDepth 100000 in
theorem vw_X7_93 : VW RX7 93 yX7_isPlain := ⟨(tb_in 923 (by decide +kernel) (by decide +kernel)), (tb_in 925 (by decide +kernel) (by decide +kernel)), (tb_in 33 (by decide +kernel) (by decide +kernel))⟩
set_option maxRecDepth 100000 in
theorem my_yX7_whyNotFrom : MY yX7_whyNotFrom cX7_whyNotFrom 7 (Option.some Jvm.ClassFile.FieldType.int) 3 := ⟨(tb_in 946 (by decide +kernel) (by decide +kernel)), (tb_in 59 (by decide +kernel) (by decide +kernel)), ⟨by decide +kernel, by decide +kernel, by decide +kernel⟩, by decide⟩
set_option maxRecDepth 100000 in
theorem vw_X7_96 : VW RX7 96 yX7_whyNotFrom := ⟨(tb_in 943 (by decide +kernel) (by decide +kernel)), (tb_in 945 (by decide +kernel) (by decide +kernel)), (tb_in 38 (by decide +kernel) (by decide +kernel))⟩
theorem kt_5_0 {i : Nat} (hi : kd i = 5) : kd (rf i 0) = 0 := kt_all (by decide) (by decide +kernel) hi
theorem kt_6_0 {i : Nat} (hi : kd i = 6) : kd (rf i 0) = 5 := kt_all (by decide) (by decide +kernel) hi
theorem kt_6_1 {i : Nat} (hi : kd i = 6) : kd (rf i 1) = 5 := kt_all (by decide) (by decide +kernel) hi
theorem kt_6_2 {i : Nat} (hi : kd i = 6) : kd (rf i 2) = 5 := kt_all (by decide) (by decide +kernel) hi
end
section
def F_Ro_size (o : Nat) (h : MH) : Int :=
  h o 1
def F_Ro_add (o : Nat) (p1 : Int) (h : MH) : MH :=
  if h o 1 < 0 then (h) else (if h o 1 < (al (rf o 0) : Int) then ((up (up h (rf o 0) (h o 1).toNat p1) o 1 (wr (((up h (rf o 0) (h o 1).toNat p1) o 1) + 1)))) else (h))
def F_X_append (p1 : Int) (h : MH) : Int × MH :=
  if p1 < 33 then (((-1), h)) else (if p1 ≤ 126 then (if F_Ro_size 1 h < 40 then ((F_Ro_size 1 (F_Ro_add 1 p1 h), (F_Ro_add 1 p1 h))) else (((-3), h))) else (((-1), h)))
def F_Ro_emptyOut (o : Nat) (h : MH) : MH :=
  (up h o 1 0)
def F_X_clear (h : MH) : Int × MH :=
  (F_Ro_size 1 h, (F_Ro_emptyOut 1 h))
def F_Ro_at (o : Nat) (p1 : Int) (h : MH) : Int :=
  if p1 < 0 then ((-1)) else (if p1 < h o 1 then (if p1 < (al (rf o 0) : Int) then (h (rf o 0) p1.toNat) else ((-1))) else ((-1)))
def F_X_padSign (p1 : Int) (h : MH) : Int :=
  sg_indexOf ((F_Ro_at 1 p1 h) % 65536)
def F_X_fault_L2 (h : MH) : Nat → Int → Option (Sum (Int) (Int))
  | 0, _ => none
  | n + 1, x1 => if x1 < F_Ro_size 1 h then (jk1 (fun (u2 : Unit) => jk1 (fun (u5 : Unit) => F_X_fault_L2 h n (wr (x1 + 1))) (fun kj6 => if F_X_padSign x1 h < 0 then (some (Sum.inl x1)) else (kj6 ()))) (fun kj3 => if x1 < 14 then (kj3 ()) else (some (Sum.inl x1)))) else (some (Sum.inr x1))
def F_X_fault (h : MH) : Option Int :=
  os (F_X_fault_L2 h FUEL 0) (fun (a : Int) => some a) (fun (q3 : Int) => some (-4))
def F_X_isText (p1 : Int) : Int :=
  if p1 < 0 then (0) else (if p1 ≤ 2 then (1) else (0))
def F_Hi_slot (p1 : Int) : Option Nat :=
  if p1 < 0 then (none) else (if p1 < 4 then (some (rf 18 p1.toNat)) else (none))
def F_Ro_become_L6 (x0 : Nat) (x1 : Nat) : Nat → Int → MH → Option (Int × MH)
  | 0, _, _ => none
  | n + 1, x2, h => if x2 < F_Ro_size x1 h then (F_Ro_become_L6 x0 x1 n (wr (x2 + 1)) (F_Ro_add x0 (F_Ro_at x1 x2 h) h)) else (some (x2, h))
def F_Ro_become (o : Nat) (p1 : Nat) (h : MH) : Option MH :=
  ob2 (F_Ro_become_L6 o p1 FUEL 0 (F_Ro_emptyOut o h)) (fun (x2_1 : Int) (h2 : MH) => some h2)
def F_St_become (o : Nat) (p1 : Nat) (h : MH) : Option MH :=
  ob1 (F_Ro_become (rf o 0) (rf p1 0) h) (fun (h1 : MH) => ob1 (F_Ro_become (rf o 1) (rf p1 1) h1) (fun (h3 : MH) => ob1 (F_Ro_become (rf o 2) (rf p1 2) h3) (fun (h5 : MH) => some (up (up (up (up h5 o 3 (h5 p1 3)) o 4 ((up h5 o 3 (h5 p1 3)) p1 4)) o 5 ((up (up h5 o 3 (h5 p1 3)) o 4 ((up h5 o 3 (h5 p1 3)) p1 4)) p1 5)) o 6 ((up (up (up h5 o 3 (h5 p1 3)) o 4 ((up h5 o 3 (h5 p1 3)) p1 4)) o 5 ((up (up h5 o 3 (h5 p1 3)) o 4 ((up h5 o 3 (h5 p1 3)) p1 4)) p1 5)) p1 6)))))
def F_Hi_copy (p1 : Option Nat) (p2 : Option Nat) (h : MH) : Option MH :=
  om p1 (some h) (fun (i1 : Nat) => om p2 (some h) (fun (i2 : Nat) => ob1 (F_St_become i2 i1 h) (fun (h3 : MH) => some h3)))
def F_Hi_dropOldest_L2  : Nat → Int → MH → Option (Int × MH)
  | 0, _, _ => none
  | n + 1, x1, h => if x1 < h 17 1 then (ob1 (F_Hi_copy (F_Hi_slot x1) (F_Hi_slot (wr (x1 - 1))) h) (fun (h2 : MH) => F_Hi_dropOldest_L2  n (wr (x1 + 1)) h2)) else (some (x1, h))
def F_Hi_dropOldest (h : MH) : Option MH :=
  ob2 (F_Hi_dropOldest_L2 FUEL 1 h) (fun (x1_1 : Int) (h2 : MH) => some (up h2 17 1 (wr ((h2 17 1) - 1))))
def F_Hi_record (p1 : Nat) (h : MH) : Option MH :=
  jk1 (fun (h1 : MH) => ob1 (F_Hi_copy (some p1) (F_Hi_slot (h1 17 1)) h1) (fun (h6 : MH) => some (up h6 17 1 (wr ((h6 17 1) + 1))))) (fun kj2 => if h 17 1 < 4 then (kj2 h) else (ob1 (F_Hi_dropOldest h) (fun (h4 : MH) => kj2 h4)))
def F_St_text (o : Nat) (p1 : Int) : Nat :=
  if p1 = 0 then (rf o 0) else (if p1 = 1 then (rf o 1) else (rf o 2))
def F_X_load_L47 (x2 : Nat) : Nat → Int → MH → Option (Int × MH)
  | 0, _, _ => none
  | n + 1, x3, h => if x3 < F_Ro_size 1 h then (F_X_load_L47 x2 n (wr (x3 + 1)) (F_Ro_add x2 (F_X_padSign x3 h) h)) else (some (x3, h))
def F_X_load (p1 : Int) (h : MH) : Option (Int × MH) :=
  if F_X_isText p1 = 0 then (some ((-1), h)) else (ob1 (F_X_fault h) (fun (r2 : Int) => if r2 = (-4) then (ob1 (F_Hi_record 3 h) (fun (h5 : MH) => ob2 (F_X_load_L47 (F_St_text 3 p1) FUEL 0 (F_Ro_emptyOut (F_St_text 3 p1) h5)) (fun (x3_7 : Int) (h8 : MH) => some (F_Ro_size (F_St_text 3 p1) (F_Ro_emptyOut 1 h8), (F_Ro_emptyOut 1 h8))))) else (some ((-2), h))))
def F_X_isSign (p1 : Int) : Int :=
  if p1 < 0 then (0) else (if p1 < sg_length then (1) else (0))
def F_Ro_change (o : Nat) (p1 : Int) (p2 : Int) (h : MH) : MH :=
  if p1 < 0 then (h) else (if p1 < h o 1 then (if p1 < (al (rf o 0) : Int) then ((up h (rf o 0) p1.toNat p2)) else (h)) else (h))
def F_Ro_putIn_L42 (x0 : Nat) (x1 : Int) (x2 : Int) : Nat → Int → MH → Option (Int × MH)
  | 0, _, _ => none
  | n + 1, x3, h => if x3 ≤ x1 then (some (x3, h)) else (F_Ro_putIn_L42 x0 x1 x2 n (wr (x3 + (-1))) (F_Ro_change x0 x3 (F_Ro_at x0 (wr (x3 - 1)) h) h))
def F_Ro_putIn (o : Nat) (p1 : Int) (p2 : Int) (h : MH) : Option MH :=
  if p1 < 0 then (some h) else (if p1 ≤ h o 1 then (if h o 1 < (al (rf o 0) : Int) then (ob2 (F_Ro_putIn_L42 o p1 p2 FUEL (wr (((up h o 1 (wr ((h o 1) + 1))) o 1) - 1)) (up h o 1 (wr ((h o 1) + 1)))) (fun (x3_4 : Int) (h5 : MH) => some (F_Ro_change o p1 p2 h5))) else (some h)) else (some h))
def F_Ro_putOut_L15 (x0 : Nat) : Nat → Int → MH → Option (Int × MH)
  | 0, _, _ => none
  | n + 1, x2, h => if x2 < wr ((h x0 1) - 1) then (F_Ro_putOut_L15 x0 n (wr (x2 + 1)) (F_Ro_change x0 x2 (F_Ro_at x0 (wr (x2 + 1)) h) h)) else (some (x2, h))
def F_Ro_putOut (o : Nat) (p1 : Int) (h : MH) : Option MH :=
  if p1 < 0 then (some h) else (if p1 < h o 1 then (ob2 (F_Ro_putOut_L15 o FUEL p1 h) (fun (x2_3 : Int) (h4 : MH) => some (up h4 o 1 (wr ((h4 o 1) - 1))))) else (some h))
def F_X_edit (p1 : Int) (p2 : Int) (p3 : Int) (h : MH) : Option (Int × MH) :=
  if F_X_isText p1 = 0 then (some ((-1), h)) else (if F_X_isSign p3 = 0 then (if F_X_isSign (wr (p3 - 10)) = 0 then (if p3 = 20 then (if p2 < 0 then (some ((-1), h)) else (if p2 ≤ F_Ro_size (F_St_text 3 p1) h then (if p2 = F_Ro_size (F_St_text 3 p1) h then (if F_X_isSign p3 = 0 then (some ((-1), h)) else (if F_X_isSign p3 = 0 then (ob1 (F_Hi_record 3 h) (fun (h10 : MH) => jk1 (fun (h12 : MH) => some (F_Ro_size (F_St_text 3 p1) h12, h12)) (fun kj13 => if F_X_isSign p3 = 0 then (if F_X_isSign (wr (p3 - 10)) = 0 then (ob1 (F_Ro_putOut (F_St_text 3 p1) p2 h10) (fun (h16 : MH) => kj13 h16)) else (kj13 (F_Ro_change (F_St_text 3 p1) p2 (wr (p3 - 10)) h10))) else (ob1 (F_Ro_putIn (F_St_text 3 p1) p2 p3 h10) (fun (h18 : MH) => kj13 h18))))) else (if F_Ro_size (F_St_text 3 p1) h < 14 then (ob1 (F_Hi_record 3 h) (fun (h22 : MH) => jk1 (fun (h24 : MH) => some (F_Ro_size (F_St_text 3 p1) h24, h24)) (fun kj25 => if F_X_isSign p3 = 0 then (if F_X_isSign (wr (p3 - 10)) = 0 then (ob1 (F_Ro_putOut (F_St_text 3 p1) p2 h22) (fun (h28 : MH) => kj25 h28)) else (kj25 (F_Ro_change (F_St_text 3 p1) p2 (wr (p3 - 10)) h22))) else (ob1 (F_Ro_putIn (F_St_text 3 p1) p2 p3 h22) (fun (h30 : MH) => kj25 h30))))) else (some ((-3), h))))) else (if F_X_isSign p3 = 0 then (ob1 (F_Hi_record 3 h) (fun (h34 : MH) => jk1 (fun (h36 : MH) => some (F_Ro_size (F_St_text 3 p1) h36, h36)) (fun kj37 => if F_X_isSign p3 = 0 then (if F_X_isSign (wr (p3 - 10)) = 0 then (ob1 (F_Ro_putOut (F_St_text 3 p1) p2 h34) (fun (h40 : MH) => kj37 h40)) else (kj37 (F_Ro_change (F_St_text 3 p1) p2 (wr (p3 - 10)) h34))) else (ob1 (F_Ro_putIn (F_St_text 3 p1) p2 p3 h34) (fun (h42 : MH) => kj37 h42))))) else (if F_Ro_size (F_St_text 3 p1) h < 14 then (ob1 (F_Hi_record 3 h) (fun (h46 : MH) => jk1 (fun (h48 : MH) => some (F_Ro_size (F_St_text 3 p1) h48, h48)) (fun kj49 => if F_X_isSign p3 = 0 then (if F_X_isSign (wr (p3 - 10)) = 0 then (ob1 (F_Ro_putOut (F_St_text 3 p1) p2 h46) (fun (h52 : MH) => kj49 h52)) else (kj49 (F_Ro_change (F_St_text 3 p1) p2 (wr (p3 - 10)) h46))) else (ob1 (F_Ro_putIn (F_St_text 3 p1) p2 p3 h46) (fun (h54 : MH) => kj49 h54))))) else (some ((-3), h))))) else (some ((-1), h)))) else (some ((-1), h))) else (if p2 < 0 then (some ((-1), h)) else (if p2 ≤ F_Ro_size (F_St_text 3 p1) h then (if p2 = F_Ro_size (F_St_text 3 p1) h then (if F_X_isSign p3 = 0 then (some ((-1), h)) else (if F_X_isSign p3 = 0 then (ob1 (F_Hi_record 3 h) (fun (h62 : MH) => jk1 (fun (h64 : MH) => some (F_Ro_size (F_St_text 3 p1) h64, h64)) (fun kj65 => if F_X_isSign p3 = 0 then (if F_X_isSign (wr (p3 - 10)) = 0 then (ob1 (F_Ro_putOut (F_St_text 3 p1) p2 h62) (fun (h68 : MH) => kj65 h68)) else (kj65 (F_Ro_change (F_St_text 3 p1) p2 (wr (p3 - 10)) h62))) else (ob1 (F_Ro_putIn (F_St_text 3 p1) p2 p3 h62) (fun (h70 : MH) => kj65 h70))))) else (if F_Ro_size (F_St_text 3 p1) h < 14 then (ob1 (F_Hi_record 3 h) (fun (h74 : MH) => jk1 (fun (h76 : MH) => some (F_Ro_size (F_St_text 3 p1) h76, h76)) (fun kj77 => if F_X_isSign p3 = 0 then (if F_X_isSign (wr (p3 - 10)) = 0 then (ob1 (F_Ro_putOut (F_St_text 3 p1) p2 h74) (fun (h80 : MH) => kj77 h80)) else (kj77 (F_Ro_change (F_St_text 3 p1) p2 (wr (p3 - 10)) h74))) else (ob1 (F_Ro_putIn (F_St_text 3 p1) p2 p3 h74) (fun (h82 : MH) => kj77 h82))))) else (some ((-3), h))))) else (if F_X_isSign p3 = 0 then (ob1 (F_Hi_record 3 h) (fun (h86 : MH) => jk1 (fun (h88 : MH) => some (F_Ro_size (F_St_text 3 p1) h88, h88)) (fun kj89 => if F_X_isSign p3 = 0 then (if F_X_isSign (wr (p3 - 10)) = 0 then (ob1 (F_Ro_putOut (F_St_text 3 p1) p2 h86) (fun (h92 : MH) => kj89 h92)) else (kj89 (F_Ro_change (F_St_text 3 p1) p2 (wr (p3 - 10)) h86))) else (ob1 (F_Ro_putIn (F_St_text 3 p1) p2 p3 h86) (fun (h94 : MH) => kj89 h94))))) else (if F_Ro_size (F_St_text 3 p1) h < 14 then (ob1 (F_Hi_record 3 h) (fun (h98 : MH) => jk1 (fun (h100 : MH) => some (F_Ro_size (F_St_text 3 p1) h100, h100)) (fun kj101 => if F_X_isSign p3 = 0 then (if F_X_isSign (wr (p3 - 10)) = 0 then (ob1 (F_Ro_putOut (F_St_text 3 p1) p2 h98) (fun (h104 : MH) => kj101 h104)) else (kj101 (F_Ro_change (F_St_text 3 p1) p2 (wr (p3 - 10)) h98))) else (ob1 (F_Ro_putIn (F_St_text 3 p1) p2 p3 h98) (fun (h106 : MH) => kj101 h106))))) else (some ((-3), h))))) else (some ((-1), h))))) else (if p2 < 0 then (some ((-1), h)) else (if p2 ≤ F_Ro_size (F_St_text 3 p1) h then (if p2 = F_Ro_size (F_St_text 3 p1) h then (if F_X_isSign p3 = 0 then (some ((-1), h)) else (if F_X_isSign p3 = 0 then (ob1 (F_Hi_record 3 h) (fun (h114 : MH) => jk1 (fun (h116 : MH) => some (F_Ro_size (F_St_text 3 p1) h116, h116)) (fun kj117 => if F_X_isSign p3 = 0 then (if F_X_isSign (wr (p3 - 10)) = 0 then (ob1 (F_Ro_putOut (F_St_text 3 p1) p2 h114) (fun (h120 : MH) => kj117 h120)) else (kj117 (F_Ro_change (F_St_text 3 p1) p2 (wr (p3 - 10)) h114))) else (ob1 (F_Ro_putIn (F_St_text 3 p1) p2 p3 h114) (fun (h122 : MH) => kj117 h122))))) else (if F_Ro_size (F_St_text 3 p1) h < 14 then (ob1 (F_Hi_record 3 h) (fun (h126 : MH) => jk1 (fun (h128 : MH) => some (F_Ro_size (F_St_text 3 p1) h128, h128)) (fun kj129 => if F_X_isSign p3 = 0 then (if F_X_isSign (wr (p3 - 10)) = 0 then (ob1 (F_Ro_putOut (F_St_text 3 p1) p2 h126) (fun (h132 : MH) => kj129 h132)) else (kj129 (F_Ro_change (F_St_text 3 p1) p2 (wr (p3 - 10)) h126))) else (ob1 (F_Ro_putIn (F_St_text 3 p1) p2 p3 h126) (fun (h134 : MH) => kj129 h134))))) else (some ((-3), h))))) else (if F_X_isSign p3 = 0 then (ob1 (F_Hi_record 3 h) (fun (h138 : MH) => jk1 (fun (h140 : MH) => some (F_Ro_size (F_St_text 3 p1) h140, h140)) (fun kj141 => if F_X_isSign p3 = 0 then (if F_X_isSign (wr (p3 - 10)) = 0 then (ob1 (F_Ro_putOut (F_St_text 3 p1) p2 h138) (fun (h144 : MH) => kj141 h144)) else (kj141 (F_Ro_change (F_St_text 3 p1) p2 (wr (p3 - 10)) h138))) else (ob1 (F_Ro_putIn (F_St_text 3 p1) p2 p3 h138) (fun (h146 : MH) => kj141 h146))))) else (if F_Ro_size (F_St_text 3 p1) h < 14 then (ob1 (F_Hi_record 3 h) (fun (h150 : MH) => jk1 (fun (h152 : MH) => some (F_Ro_size (F_St_text 3 p1) h152, h152)) (fun kj153 => if F_X_isSign p3 = 0 then (if F_X_isSign (wr (p3 - 10)) = 0 then (ob1 (F_Ro_putOut (F_St_text 3 p1) p2 h150) (fun (h156 : MH) => kj153 h156)) else (kj153 (F_Ro_change (F_St_text 3 p1) p2 (wr (p3 - 10)) h150))) else (ob1 (F_Ro_putIn (F_St_text 3 p1) p2 p3 h150) (fun (h158 : MH) => kj153 h158))))) else (some ((-3), h))))) else (some ((-1), h)))))
def F_Ro_becomeZeros_L6 (x0 : Nat) (x1 : Int) : Nat → Int → MH → Option (Int × MH)
  | 0, _, _ => none
  | n + 1, x2, h => if x2 < x1 then (F_Ro_becomeZeros_L6 x0 x1 n (wr (x2 + 1)) (F_Ro_add x0 0 h)) else (some (x2, h))
def F_Ro_becomeZeros (o : Nat) (p1 : Int) (h : MH) : Option MH :=
  ob2 (F_Ro_becomeZeros_L6 o p1 FUEL 0 (F_Ro_emptyOut o h)) (fun (x2_1 : Int) (h2 : MH) => some h2)
def F_C_keptFrom (p1 : Int) (p2 : Int) (h : MH) : Int :=
  F_Ro_at 50 (wr ((wr (p1 * 15)) + p2)) h
def F_C_compare_L29 (x1 : Nat) (x2 : Nat) (x3 : Int) : Nat → Int → MH → Option (Int × MH)
  | 0, _, _ => none
  | n + 1, x4, h => if x4 < 0 then (some (x4, h)) else (jn1 (if F_Ro_at x1 x3 h = F_Ro_at x2 x4 h then ((wr ((F_C_keptFrom (wr (x3 + 1)) (wr (x4 + 1)) h) + 1))) else ((imax (F_C_keptFrom (wr (x3 + 1)) x4 h) (F_C_keptFrom x3 (wr (x4 + 1)) h)))) (fun (s2 : Int) => F_C_compare_L29 x1 x2 x3 n (wr (x4 + (-1))) (F_Ro_change 50 (wr ((wr (x3 * 15)) + x4)) s2 h)))
def F_C_compare_L17 (x1 : Nat) (x2 : Nat) : Nat → Int → MH → Option (Int × MH)
  | 0, _, _ => none
  | n + 1, x3, h => if x3 < 0 then (some (x3, h)) else (ob2 (F_C_compare_L29 x1 x2 x3 FUEL (wr ((F_Ro_size x2 h) - 1)) h) (fun (x4_2 : Int) (h3 : MH) => F_C_compare_L17 x1 x2 n (wr (x3 + (-1))) h3))
def F_C_compare (p1 : Nat) (p2 : Nat) (h : MH) : Option MH :=
  ob1 (F_Ro_becomeZeros 50 225 h) (fun (h1 : MH) => ob2 (F_C_compare_L17 p1 p2 FUEL (wr ((F_Ro_size p1 h1) - 1)) h1) (fun (x3_3 : Int) (h4 : MH) => some h4))
def F_C_keptOf (p1 : Nat) (p2 : Nat) (h : MH) : Option (Int × MH) :=
  ob1 (F_C_compare p1 p2 h) (fun (h1 : MH) => some (F_C_keptFrom 0 0 h1, h1))
def F_C_apart (p1 : Nat) (p2 : Nat) (h : MH) : Option (Int × MH) :=
  ob2 (F_C_keptOf p1 p2 h) (fun (r1 : Int) (h2 : MH) => some (wr ((wr ((F_Ro_size p1 h) + (F_Ro_size p2 h))) - (wr (2 * r1))), h2))
def F_X_distanceNow (h : MH) : Option (Int × MH) :=
  ob2 (F_C_apart (F_St_text 3 0) (F_St_text 3 1) h) (fun (r1 : Int) (h2 : MH) => some (r1, h2))
def F_X_swap (p1 : Int) (p2 : Int) (h : MH) : Option (Int × MH) :=
  if F_X_isText p1 = 0 then (some ((-1), h)) else (if F_X_isText p2 = 0 then (some ((-1), h)) else (if p1 = p2 then (some ((-1), h)) else (ob1 (F_Hi_record 3 h) (fun (h4 : MH) => ob1 (F_Ro_become 47 (F_St_text 3 p1) h4) (fun (h6 : MH) => ob1 (F_Ro_become (F_St_text 3 p1) (F_St_text 3 p2) h6) (fun (h8 : MH) => ob1 (F_Ro_become (F_St_text 3 p2) 47 h8) (fun (h10 : MH) => ob2 (F_X_distanceNow h10) (fun (r12 : Int) (h13 : MH) => some (r12, h13)))))))))
def F_St_setting (o : Nat) (p1 : Int) (h : MH) : Int :=
  if p1 = 0 then (h o 3) else (h o 4)
def F_St_changeSetting (o : Nat) (p1 : Int) (p2 : Int) (h : MH) : MH :=
  if p1 = 0 then ((up h o 3 p2)) else ((up h o 4 p2))
def F_X_set (p1 : Int) (p2 : Int) (h : MH) : Option (Int × MH) :=
  if p1 = 0 then (if p2 < 0 then (some ((-1), h)) else (jn1 (if p1 = 0 then (3) else (1)) (fun (s3 : Int) => if p2 ≤ s3 then (ob1 (F_Hi_record 3 h) (fun (h7 : MH) => some (F_St_setting 3 p1 h7, (F_St_changeSetting 3 p1 p2 h7)))) else (some ((-1), h))))) else (if p1 = 1 then (if p2 < 0 then (some ((-1), h)) else (jn1 (if p1 = 0 then (3) else (1)) (fun (s12 : Int) => if p2 ≤ s12 then (ob1 (F_Hi_record 3 h) (fun (h16 : MH) => some (F_St_setting 3 p1 h16, (F_St_changeSetting 3 p1 p2 h16)))) else (some ((-1), h))))) else (some ((-1), h)))
def F_C_step (p1 : Nat) (p2 : Nat) (p3 : Int) (p4 : Int) (h : MH) : Int :=
  jn1 (if p3 < F_Ro_size p1 h then (1) else (0)) (fun (s1 : Int) => jn1 (if p4 < F_Ro_size p2 h then (1) else (0)) (fun (s4 : Int) => if s1 = 0 then (if s1 = 0 then (2) else (if s4 = 0 then (1) else (if F_C_keptFrom (wr (p3 + 1)) p4 h < F_C_keptFrom p3 (wr (p4 + 1)) h then (2) else (1)))) else (if s4 = 0 then (if s1 = 0 then (2) else (if s4 = 0 then (1) else (if F_C_keptFrom (wr (p3 + 1)) p4 h < F_C_keptFrom p3 (wr (p4 + 1)) h then (2) else (1)))) else (if F_Ro_at p1 p3 h = F_Ro_at p2 p4 h then (0) else (if s1 = 0 then (2) else (if s4 = 0 then (1) else (if F_C_keptFrom (wr (p3 + 1)) p4 h < F_C_keptFrom p3 (wr (p4 + 1)) h then (2) else (1))))))))
def F_V_size (h : MH) : Int :=
  F_Ro_size 55 h
def F_V_inHunk (p1 : Int) (h : MH) : Int :=
  if F_Ro_at 55 p1 h ≤ 0 then (0) else (1)
def F_V_hunks (h : MH) : Int :=
  F_Ro_size 59 h
def F_V_top (p1 : Int) (h : MH) : Int :=
  F_Ro_at 59 p1 h
def F_V_end (p1 : Int) (h : MH) : Int :=
  F_Ro_at 61 p1 h
def F_V_linesWithin_L6 (x2 : Int) (x3 : Int) (h : MH) : Nat → Int → Int → Option (Int × Int)
  | 0, _, _ => none
  | n + 1, x4, x5 => if x5 < x2 then (jn1 (if F_Ro_at 55 x5 h = x3 then (1) else (0)) (fun (s2 : Int) => F_V_linesWithin_L6 x2 x3 h n (wr (x4 + s2)) (wr (x5 + 1)))) else (some (x4, x5))
def F_V_linesWithin (p1 : Int) (p2 : Int) (p3 : Int) (h : MH) : Option Int :=
  ob2 (F_V_linesWithin_L6 p2 p3 h FUEL 0 p1) (fun (x4_1 : Int) (x5_2 : Int) => some x4_1)
def F_V_linesOf (p1 : Int) (p2 : Int) (h : MH) : Option Int :=
  ob1 (F_V_linesWithin (F_V_top p1 h) (F_V_end p1 h) p2 h) (fun (r1 : Int) => some r1)
def F_V_findHunks_L23  : Nat → Int → MH → Option (Int × MH)
  | 0, _, _ => none
  | n + 1, x1, h => if x1 < F_V_size h then (jn1 (if F_V_inHunk x1 h = 0 then (h) else (if F_V_inHunk (wr (x1 - 1)) h = 0 then ((F_Ro_add 59 x1 h)) else (h))) (fun (h2 : MH) => jn1 (if F_V_inHunk x1 h2 = 0 then (h2) else (if F_V_inHunk (wr (x1 + 1)) h2 = 0 then ((F_Ro_add 61 (wr (x1 + 1)) h2)) else (h2))) (fun (h6 : MH) => F_V_findHunks_L23  n (wr (x1 + 1)) h6))) else (some (x1, h))
def F_V_findHunks_L93  : Nat → Int → MH → Option (Int × MH)
  | 0, _, _ => none
  | n + 1, x1, h => if x1 < F_V_hunks h then (ob1 (F_V_linesOf x1 1 h) (fun (r2 : Int) => jk1 (fun (s4 : Int) => jn1 (if s4 = 0 then (1) else (0)) (fun (s10 : Int) => F_V_findHunks_L93  n (wr (x1 + 1)) (F_Ro_add 63 s10 h))) (fun kj5 => if r2 ≤ 0 then (kj5 0) else (ob1 (F_V_linesOf x1 2 h) (fun (r7 : Int) => if r7 ≤ 0 then (kj5 0) else (kj5 1)))))) else (some (x1, h))
def F_V_findHunks (h : MH) : Option MH :=
  ob2 (F_V_findHunks_L23 FUEL 0 (F_Ro_emptyOut 63 (F_Ro_emptyOut 61 (F_Ro_emptyOut 59 h)))) (fun (x1_1 : Int) (h2 : MH) => ob2 (F_V_findHunks_L93 FUEL 0 h2) (fun (x1_4 : Int) (h5 : MH) => some h5))
def F_V_gather_L40 (x1 : Nat) (x2 : Nat) (x4 : Int) : Nat → Int → Int → Int → MH → Option (Int × Int × Int × MH)
  | 0, _, _, _, _ => none
  | n + 1, x5, x6, x7, h => if x7 < x4 then (if wr (x5 + x6) < x4 then (jn1 (if F_C_step x1 x2 x5 x6 h = 2 then ((F_Ro_at x2 x6 (F_Ro_add 55 (F_C_step x1 x2 x5 x6 h) h))) else ((F_Ro_at x1 x5 (F_Ro_add 55 (F_C_step x1 x2 x5 x6 h) h)))) (fun (s3 : Int) => jn1 (if F_C_step x1 x2 x5 x6 h = 2 then (0) else (1)) (fun (s6 : Int) => jn1 (if F_C_step x1 x2 x5 x6 h = 1 then (0) else (1)) (fun (s9 : Int) => F_V_gather_L40 x1 x2 x4 n (wr (x5 + s6)) (wr (x6 + s9)) (wr (x7 + 1)) (F_Ro_add 57 s3 (F_Ro_add 55 (F_C_step x1 x2 x5 x6 h) h)))))) else (some (x5, x6, x7, h))) else (some (x5, x6, x7, h))
def F_V_gather (p1 : Nat) (p2 : Nat) (h : MH) : Option MH :=
  ob1 (F_C_compare p1 p2 h) (fun (h1 : MH) => ob4 (F_V_gather_L40 p1 p2 (wr ((F_Ro_size p1 (F_Ro_emptyOut 57 (F_Ro_emptyOut 55 h1))) + (F_Ro_size p2 (F_Ro_emptyOut 57 (F_Ro_emptyOut 55 h1))))) FUEL 0 0 0 (F_Ro_emptyOut 57 (F_Ro_emptyOut 55 h1))) (fun (x5_3 : Int) (x6_4 : Int) (x7_5 : Int) (h6 : MH) => ob1 (F_V_findHunks h6) (fun (h8 : MH) => some h8)))
def F_V_isPlain (p1 : Int) (h : MH) : Int :=
  if F_Ro_at 63 p1 h = 1 then (1) else (0)
def F_V_barAt (p1 : Int) (p2 : Int) (p3 : Int) (h : MH) : Int :=
  jn1 (if p3 = 0 then ((wr (p1 - 1))) else (p2)) (fun (s1 : Int) => jn1 (if p3 = 0 then ((wr (p2 - 1))) else (p1)) (fun (s4 : Int) => if F_Ro_at 57 s1 h = (-1) then (2) else (if F_Ro_at 57 s1 h = F_Ro_at 57 s4 h then (jn1 (if p3 = 0 then ((wr (p1 - 2))) else ((wr (p2 + 1)))) (fun (s9 : Int) => if F_Ro_at 55 s9 h ≤ 0 then (0) else (4))) else (3))))
def F_V_reach_L23 (x1 : Int) (x2 : Int) (x3 : Int) (h : MH) : Nat → Int → Option (Int)
  | 0, _ => none
  | n + 1, x4 => if x4 < F_V_size h then (if F_V_barAt (wr ((F_V_top x1 h) + (wr (x3 * x4)))) (wr ((F_V_end x1 h) + (wr (x3 * x4)))) x2 h = 0 then (F_V_reach_L23 x1 x2 x3 h n (wr (x4 + 1))) else (some x4)) else (some x4)
def F_V_reach (p1 : Int) (p2 : Int) (h : MH) : Option Int :=
  if F_V_isPlain p1 h = 0 then (some 0) else (jn1 (if p2 = 0 then ((-1)) else (1)) (fun (s2 : Int) => ob1 (F_V_reach_L23 p1 p2 s2 h FUEL 0) (fun (x4_5 : Int) => some x4_5)))
def F_V_worthAt (p1 : Int) (p2 : Int) (h : MH) : Int :=
  jn1 (if F_Ro_at 57 (wr (p1 - 1)) h = 6 then (4) else (if F_Ro_at 57 (wr (p1 - 1)) h = (-1) then (4) else (0))) (fun (s1 : Int) => jn1 (if F_Ro_at 57 (wr (p2 - 1)) h = 6 then (2) else (0)) (fun (s5 : Int) => jn1 (if F_Ro_at 57 p1 h = 7 then (1) else (0)) (fun (s8 : Int) => jn1 (if F_Ro_at 57 (wr (p2 - 1)) h = 8 then (3) else (0)) (fun (s11 : Int) => wr ((wr ((wr (s1 + s5)) + s8)) + s11)))))
def F_V_bestTop_L45 (x2 : Int) (x3 : Int) (h : MH) : Nat → Int → Int → Option (Int × Int)
  | 0, _, _ => none
  | n + 1, x4, x5 => if x5 ≤ x3 then (jn1 (if F_V_worthAt x5 (wr (x5 + x2)) h < F_V_worthAt x4 (wr (x4 + x2)) h then (x4) else (x5)) (fun (x4_2 : Int) => F_V_bestTop_L45 x2 x3 h n x4_2 (wr (x5 + 1)))) else (some (x4, x5))
def F_V_bestTop (p1 : Int) (h : MH) : Option Int :=
  ob1 (F_V_reach p1 1 h) (fun (r1 : Int) => ob1 (F_V_reach p1 0 h) (fun (r3 : Int) => ob2 (F_V_bestTop_L45 (wr ((F_V_end p1 h) - (F_V_top p1 h))) (wr ((F_V_top p1 h) + r1)) h FUEL (wr ((F_V_top p1 h) - r3)) (wr ((wr ((F_V_top p1 h) - r3)) + 1))) (fun (x4_5 : Int) (x5_6 : Int) => some x4_5)))
def F_V_moveTo_L35 (x1 : Int) (x2 : Int) (x3 : Int) (x4 : Int) : Nat → Int → MH → Option (Int × MH)
  | 0, _, _ => none
  | n + 1, x5, h => if x5 < F_V_end x1 h then (F_V_moveTo_L35 x1 x2 x3 x4 n (wr (x5 + 1)) (F_Ro_change 55 x5 0 h)) else (some (x5, h))
def F_V_moveTo_L64 (x1 : Int) (x2 : Int) (x3 : Int) (x4 : Int) : Nat → Int → MH → Option (Int × MH)
  | 0, _, _ => none
  | n + 1, x5, h => if x5 < x4 then (F_V_moveTo_L64 x1 x2 x3 x4 n (wr (x5 + 1)) (F_Ro_change 55 x5 x3 h)) else (some (x5, h))
def F_V_moveTo (p1 : Int) (p2 : Int) (h : MH) : Option MH :=
  ob2 (F_V_moveTo_L35 p1 p2 (F_Ro_at 55 (F_V_top p1 h) h) (wr ((wr (p2 + (F_V_end p1 h))) - (F_V_top p1 h))) FUEL (F_V_top p1 h) h) (fun (x5_1 : Int) (h2 : MH) => ob2 (F_V_moveTo_L64 p1 p2 (F_Ro_at 55 (F_V_top p1 h) h) (wr ((wr (p2 + (F_V_end p1 h))) - (F_V_top p1 h))) FUEL p2 h2) (fun (x5_4 : Int) (h5 : MH) => some (F_Ro_change 61 p1 (wr ((wr (p2 + (F_V_end p1 h))) - (F_V_top p1 h))) (F_Ro_change 59 p1 p2 h5))))
def F_V_settle_L2  : Nat → Int → MH → Option (Int × MH)
  | 0, _, _ => none
  | n + 1, x1, h => if x1 < F_V_hunks h then (jk1 (fun (h2 : MH) => F_V_settle_L2  n (wr (x1 + 1)) h2) (fun kj3 => if F_V_isPlain x1 h = 0 then (kj3 h) else (ob1 (F_V_bestTop x1 h) (fun (r5 : Int) => ob1 (F_V_moveTo x1 r5 h) (fun (h7 : MH) => kj3 h7))))) else (some (x1, h))
def F_V_settle (h : MH) : Option MH :=
  ob2 (F_V_settle_L2 FUEL 0 h) (fun (x1_1 : Int) (h2 : MH) => some h2)
def F_X_show (h : MH) : Option MH :=
  ob1 (F_V_gather (F_St_text 3 0) (F_St_text 3 1) h) (fun (h1 : MH) => if F_St_setting 3 1 h1 = 1 then (ob1 (F_V_settle h1) (fun (h4 : MH) => some h4)) else (some h1))
def F_V_has (p1 : Int) (h : MH) : Int :=
  if p1 < 0 then (0) else (if p1 < F_V_hunks h then (1) else (0))
def F_V_around (p1 : Int) (p2 : Int) (p3 : Int) (h : MH) : Int :=
  jn1 (if p3 = 0 then (jn1 (if F_V_has (wr (p1 - 1)) h = 0 then (0) else ((F_V_end (wr (p1 - 1)) h))) (fun (s4 : Int) => (wr ((F_V_top p1 h) - s4)))) else (jn1 (if F_V_has (wr (p1 + 1)) h = 0 then ((F_V_size h)) else ((F_V_top (wr (p1 + 1)) h))) (fun (s8 : Int) => (wr (s8 - (F_V_end p1 h)))))) (fun (x4_1 : Int) => imin p2 x4_1)
def F_V_kind (p1 : Int) (h : MH) : Int :=
  F_Ro_at 55 p1 h
def F_V_sign (p1 : Int) (h : MH) : Int :=
  F_Ro_at 57 p1 h
def F_La_takeParts_L41 (x3 : Int) (x5 : Int) (x6 : Int) : Nat → Int → MH → Option (Int × MH)
  | 0, _, _ => none
  | n + 1, x7, h => if x7 < x3 then (jn1 (if F_V_kind x7 h = x6 then (h) else ((F_Ro_add 68 (F_V_sign x7 h) h))) (fun (h2 : MH) => jn1 (if F_V_kind x7 h2 = x5 then (h2) else ((F_Ro_add 70 (F_V_sign x7 h2) h2))) (fun (h5 : MH) => F_La_takeParts_L41 x3 x5 x6 n (wr (x7 + 1)) h5))) else (some (x7, h))
def F_La_takeParts (p2 : Int) (p3 : Int) (p4 : Int) (h : MH) : Option MH :=
  jn1 (if p4 = 0 then (1) else (2)) (fun (s1 : Int) => jn1 (if p4 = 0 then (2) else (1)) (fun (s4 : Int) => ob2 (F_La_takeParts_L41 p3 s1 s4 FUEL p2 (F_Ro_emptyOut 70 (F_Ro_emptyOut 68 h))) (fun (x7_7 : Int) (h8 : MH) => some h8)))
def F_V_newAhead (p1 : Int) (h : MH) : Option Int :=
  ob1 (F_V_linesWithin 0 p1 1 h) (fun (r1 : Int) => some (wr (p1 - r1)))
def F_V_oldAhead (p1 : Int) (h : MH) : Option Int :=
  ob1 (F_V_linesWithin 0 p1 2 h) (fun (r1 : Int) => some (wr (p1 - r1)))
def F_La_fitsAt_L31 (x1 : Int) (h : MH) : Nat → Int → Option (Sum (Int) (Int))
  | 0, _ => none
  | n + 1, x2 => if x2 < F_Ro_size 68 h then (jk1 (fun (u2 : Unit) => F_La_fitsAt_L31 x1 h n (wr (x2 + 1))) (fun kj3 => if F_Ro_at 68 x2 h = F_Ro_at 66 (wr (x1 + x2)) h then (kj3 ()) else (some (Sum.inl 0)))) else (some (Sum.inr x2))
def F_La_fitsAt (p1 : Int) (h : MH) : Option Int :=
  if p1 < h 65 9 then (some 0) else (if wr (p1 + (F_Ro_size 68 h)) ≤ F_Ro_size 66 h then (os (F_La_fitsAt_L31 p1 h FUEL 0) (fun (a : Int) => some a) (fun (q5 : Int) => some 1)) else (some 0))
def F_La_search_L2 (x1 : Int) (h : MH) : Nat → Int → Option (Sum (Int) (Int))
  | 0, _ => none
  | n + 1, x2 => if x2 ≤ 112 then (ob1 (F_La_fitsAt (wr (x1 - x2)) h) (fun (r2 : Int) => jk1 (fun (u4 : Unit) => ob1 (F_La_fitsAt (wr (x1 + x2)) h) (fun (r7 : Int) => jk1 (fun (u9 : Unit) => F_La_search_L2 x1 h n (wr (x2 + 1))) (fun kj10 => if r7 = 0 then (kj10 ()) else (some (Sum.inl (wr (x1 + x2))))))) (fun kj5 => if r2 = 0 then (kj5 ()) else (some (Sum.inl (wr (x1 - x2))))))) else (some (Sum.inr x2))
def F_La_search (p1 : Int) (h : MH) : Option Int :=
  os (F_La_search_L2 p1 h FUEL 0) (fun (a : Int) => some a) (fun (q3 : Int) => some (-4))
def F_La_replaceAt_L2 (x1 : Int) : Nat → Int → MH → Option (Int × MH)
  | 0, _, _ => none
  | n + 1, x2, h => if x2 < F_Ro_size 68 h then (ob1 (F_Ro_putOut 66 x1 h) (fun (h2 : MH) => F_La_replaceAt_L2 x1 n (wr (x2 + 1)) h2)) else (some (x2, h))
def F_La_replaceAt_L29 (x1 : Int) : Nat → Int → MH → Option (Int × MH)
  | 0, _, _ => none
  | n + 1, x2, h => if x2 < F_Ro_size 70 h then (ob1 (F_Ro_putIn 66 (wr (x1 + x2)) (F_Ro_at 70 x2 h) h) (fun (h2 : MH) => F_La_replaceAt_L29 x1 n (wr (x2 + 1)) h2)) else (some (x2, h))
def F_La_replaceAt (p1 : Int) (h : MH) : Option MH :=
  ob2 (F_La_replaceAt_L2 p1 FUEL 0 h) (fun (x2_1 : Int) (h2 : MH) => ob2 (F_La_replaceAt_L29 p1 FUEL 0 h2) (fun (x2_4 : Int) (h5 : MH) => some h5))
def F_La_layOne (p2 : Int) (p3 : Int) (p4 : Int) (h : MH) : Option MH :=
  ob1 (F_La_takeParts (wr ((F_V_top p2 h) - (F_V_around p2 p3 0 h))) (wr ((F_V_end p2 h) + (F_V_around p2 p3 1 h))) p4 h) (fun (h1 : MH) => jk1 (fun (s3 : Int) => ob1 (F_La_search (wr ((wr (s3 + (h1 65 8))) + (h1 65 7))) h1) (fun (r10 : Int) => if r10 = (-4) then (some (F_Ro_add 74 (wr (r10 - (wr ((wr (s3 + (h1 65 8))) + (h1 65 7))))) (F_Ro_add 72 r10 h1))) else (ob1 (F_La_replaceAt r10 (F_Ro_add 74 (wr (r10 - (wr ((wr (s3 + (h1 65 8))) + (h1 65 7))))) (F_Ro_add 72 r10 h1))) (fun (h13 : MH) => some (up (up (up (up (up h13 65 8 (wr ((h13 65 8) + (wr ((F_Ro_size 70 h13) - (F_Ro_size 68 h13)))))) 65 7 (wr (((up h13 65 8 (wr ((h13 65 8) + (wr ((F_Ro_size 70 h13) - (F_Ro_size 68 h13)))))) 65 7) + (wr (r10 - (wr ((wr (s3 + (h1 65 8))) + (h1 65 7)))))))) 65 9 (wr ((wr (r10 + (F_Ro_size 70 (up (up h13 65 8 (wr ((h13 65 8) + (wr ((F_Ro_size 70 h13) - (F_Ro_size 68 h13)))))) 65 7 (wr (((up h13 65 8 (wr ((h13 65 8) + (wr ((F_Ro_size 70 h13) - (F_Ro_size 68 h13)))))) 65 7) + (wr (r10 - (wr ((wr (s3 + (h1 65 8))) + (h1 65 7))))))))))) - (F_V_around p2 p3 1 h)))) 65 6 (imax ((up (up (up h13 65 8 (wr ((h13 65 8) + (wr ((F_Ro_size 70 h13) - (F_Ro_size 68 h13)))))) 65 7 (wr (((up h13 65 8 (wr ((h13 65 8) + (wr ((F_Ro_size 70 h13) - (F_Ro_size 68 h13)))))) 65 7) + (wr (r10 - (wr ((wr (s3 + (h1 65 8))) + (h1 65 7)))))))) 65 9 (wr ((wr (r10 + (F_Ro_size 70 (up (up h13 65 8 (wr ((h13 65 8) + (wr ((F_Ro_size 70 h13) - (F_Ro_size 68 h13)))))) 65 7 (wr (((up h13 65 8 (wr ((h13 65 8) + (wr ((F_Ro_size 70 h13) - (F_Ro_size 68 h13)))))) 65 7) + (wr (r10 - (wr ((wr (s3 + (h1 65 8))) + (h1 65 7))))))))))) - (F_V_around p2 p3 1 h)))) 65 6) (F_Ro_size 66 (up (up (up h13 65 8 (wr ((h13 65 8) + (wr ((F_Ro_size 70 h13) - (F_Ro_size 68 h13)))))) 65 7 (wr (((up h13 65 8 (wr ((h13 65 8) + (wr ((F_Ro_size 70 h13) - (F_Ro_size 68 h13)))))) 65 7) + (wr (r10 - (wr ((wr (s3 + (h1 65 8))) + (h1 65 7)))))))) 65 9 (wr ((wr (r10 + (F_Ro_size 70 (up (up h13 65 8 (wr ((h13 65 8) + (wr ((F_Ro_size 70 h13) - (F_Ro_size 68 h13)))))) 65 7 (wr (((up h13 65 8 (wr ((h13 65 8) + (wr ((F_Ro_size 70 h13) - (F_Ro_size 68 h13)))))) 65 7) + (wr (r10 - (wr ((wr (s3 + (h1 65 8))) + (h1 65 7))))))))))) - (F_V_around p2 p3 1 h))))))) 65 5 (wr (((up (up (up (up h13 65 8 (wr ((h13 65 8) + (wr ((F_Ro_size 70 h13) - (F_Ro_size 68 h13)))))) 65 7 (wr (((up h13 65 8 (wr ((h13 65 8) + (wr ((F_Ro_size 70 h13) - (F_Ro_size 68 h13)))))) 65 7) + (wr (r10 - (wr ((wr (s3 + (h1 65 8))) + (h1 65 7)))))))) 65 9 (wr ((wr (r10 + (F_Ro_size 70 (up (up h13 65 8 (wr ((h13 65 8) + (wr ((F_Ro_size 70 h13) - (F_Ro_size 68 h13)))))) 65 7 (wr (((up h13 65 8 (wr ((h13 65 8) + (wr ((F_Ro_size 70 h13) - (F_Ro_size 68 h13)))))) 65 7) + (wr (r10 - (wr ((wr (s3 + (h1 65 8))) + (h1 65 7))))))))))) - (F_V_around p2 p3 1 h)))) 65 6 (imax ((up (up (up h13 65 8 (wr ((h13 65 8) + (wr ((F_Ro_size 70 h13) - (F_Ro_size 68 h13)))))) 65 7 (wr (((up h13 65 8 (wr ((h13 65 8) + (wr ((F_Ro_size 70 h13) - (F_Ro_size 68 h13)))))) 65 7) + (wr (r10 - (wr ((wr (s3 + (h1 65 8))) + (h1 65 7)))))))) 65 9 (wr ((wr (r10 + (F_Ro_size 70 (up (up h13 65 8 (wr ((h13 65 8) + (wr ((F_Ro_size 70 h13) - (F_Ro_size 68 h13)))))) 65 7 (wr (((up h13 65 8 (wr ((h13 65 8) + (wr ((F_Ro_size 70 h13) - (F_Ro_size 68 h13)))))) 65 7) + (wr (r10 - (wr ((wr (s3 + (h1 65 8))) + (h1 65 7))))))))))) - (F_V_around p2 p3 1 h)))) 65 6) (F_Ro_size 66 (up (up (up h13 65 8 (wr ((h13 65 8) + (wr ((F_Ro_size 70 h13) - (F_Ro_size 68 h13)))))) 65 7 (wr (((up h13 65 8 (wr ((h13 65 8) + (wr ((F_Ro_size 70 h13) - (F_Ro_size 68 h13)))))) 65 7) + (wr (r10 - (wr ((wr (s3 + (h1 65 8))) + (h1 65 7)))))))) 65 9 (wr ((wr (r10 + (F_Ro_size 70 (up (up h13 65 8 (wr ((h13 65 8) + (wr ((F_Ro_size 70 h13) - (F_Ro_size 68 h13)))))) 65 7 (wr (((up h13 65 8 (wr ((h13 65 8) + (wr ((F_Ro_size 70 h13) - (F_Ro_size 68 h13)))))) 65 7) + (wr (r10 - (wr ((wr (s3 + (h1 65 8))) + (h1 65 7))))))))))) - (F_V_around p2 p3 1 h))))))) 65 5) + 1))))))) (fun kj4 => if p4 = 0 then (ob1 (F_V_oldAhead (wr ((F_V_top p2 h) - (F_V_around p2 p3 0 h))) h1) (fun (r6 : Int) => kj4 r6)) else (ob1 (F_V_newAhead (wr ((F_V_top p2 h) - (F_V_around p2 p3 0 h))) h1) (fun (r8 : Int) => kj4 r8))))
def F_La_layAll_L50 (x3 : Int) (x4 : Int) : Nat → Int → MH → Option (Int × MH)
  | 0, _, _ => none
  | n + 1, x5, h => if x5 < F_V_hunks h then (ob1 (F_La_layOne x5 x3 x4 h) (fun (h2 : MH) => F_La_layAll_L50 x3 x4 n (wr (x5 + 1)) h2)) else (some (x5, h))
def F_La_layAll (p2 : Nat) (p3 : Int) (p4 : Int) (h : MH) : Option MH :=
  ob1 (F_Ro_become 66 p2 h) (fun (h1 : MH) => ob2 (F_La_layAll_L50 p3 p4 FUEL 0 (up (up (up (up (up (F_Ro_emptyOut 74 (F_Ro_emptyOut 72 h1)) 65 5 0) 65 6 0) 65 7 0) 65 8 0) 65 9 0)) (fun (x5_3 : Int) (h4 : MH) => some h4))
def F_La_longest (h : MH) : Int :=
  h 65 6
def F_La_result : Nat :=
  66
def F_La_laid (h : MH) : Int :=
  h 65 5
def F_St_addPatches (o : Nat) (p1 : Int) (p2 : Int) (h : MH) : MH :=
  (up (up h o 5 (wr ((h o 5) + p1))) o 6 (wr (((up h o 5 (wr ((h o 5) + p1))) o 6) + p2)))
def F_X_lay (p1 : Int) (h : MH) : Option (Int × MH) :=
  ob1 (F_X_show h) (fun (h1 : MH) => ob1 (F_La_layAll (F_St_text 3 2) (F_St_setting 3 0 h1) p1 h1) (fun (h3 : MH) => if F_La_longest h3 ≤ 14 then (ob1 (F_Hi_record 3 h3) (fun (h6 : MH) => ob1 (F_Ro_become (F_St_text 3 2) 66 h6) (fun (h8 : MH) => some (F_La_laid (F_St_addPatches 3 (F_La_laid h8) (wr ((F_V_hunks h8) - (F_La_laid h8))) h8), (F_St_addPatches 3 (F_La_laid h8) (wr ((F_V_hunks h8) - (F_La_laid h8))) h8))))) else (some ((-3), h3))))
def F_X_line (p1 : Int) (p2 : Int) (h : MH) : Int :=
  if F_X_isText p1 = 0 then ((-1)) else (if p2 < 0 then ((-1)) else (if p2 < F_Ro_size (F_St_text 3 p1) h then (F_Ro_at (F_St_text 3 p1) p2 h) else ((-4))))
def F_C_entry (p1 : Int) (p2 : Int) (h : MH) : Int :=
  if p2 = 0 then (0) else (if p1 = wr (-p2) then (F_Ro_at 52 (wr ((wr (29 + p1)) + 1)) h) else (if p1 = p2 then (wr ((F_Ro_at 52 (wr ((wr (29 + p1)) - 1)) h) + 1)) else (if wr ((F_Ro_at 52 (wr ((wr (29 + p1)) - 1)) h) + 1) ≤ F_Ro_at 52 (wr ((wr (29 + p1)) + 1)) h then (F_Ro_at 52 (wr ((wr (29 + p1)) + 1)) h) else (wr ((F_Ro_at 52 (wr ((wr (29 + p1)) - 1)) h) + 1)))))
def F_C_followKept_L3 (x0 : Nat) (x1 : Nat) (x3 : Int) (h : MH) : Nat → Int → Option (Int)
  | 0, _ => none
  | n + 1, x4 => if x4 < F_Ro_size x0 h then (if wr (x4 - x3) < F_Ro_size x1 h then (if F_Ro_at x0 x4 h = F_Ro_at x1 (wr (x4 - x3)) h then (F_C_followKept_L3 x0 x1 x3 h n (wr (x4 + 1))) else (some x4)) else (some x4)) else (some x4)
def F_C_followKept (p1 : Nat) (p2 : Nat) (p3 : Int) (p4 : Int) (h : MH) : Option Int :=
  ob1 (F_C_followKept_L3 p1 p2 p4 h FUEL p3) (fun (x4_1 : Int) => some x4_1)
def F_C_apartBySteps_L33 (x1 : Nat) (x2 : Nat) (x3 : Int) (x4 : Int) : Nat → Int → MH → Option (Sum (Int × MH) (Int × MH))
  | 0, _, _ => none
  | n + 1, x5, h => if x5 ≤ x4 then (ob1 (F_C_followKept x1 x2 (F_C_entry x5 x4 h) x5 h) (fun (r2 : Int) => jk1 (fun (u4 : Unit) => F_C_apartBySteps_L33 x1 x2 x3 x4 n (wr (x5 + 2)) (F_Ro_change 52 (wr (29 + x5)) r2 h)) (fun kj5 => if r2 < F_Ro_size x1 (F_Ro_change 52 (wr (29 + x5)) r2 h) then (kj5 ()) else (if wr (r2 - x5) < F_Ro_size x2 (F_Ro_change 52 (wr (29 + x5)) r2 h) then (kj5 ()) else (some (Sum.inl (x4, (F_Ro_change 52 (wr (29 + x5)) r2 h)))))))) else (some (Sum.inr (x5, h)))
def F_C_apartBySteps_L22 (x1 : Nat) (x2 : Nat) (x3 : Int) : Nat → Int → MH → Option (Sum (Int × MH) (Int × MH))
  | 0, _, _ => none
  | n + 1, x4, h => if x4 ≤ x3 then (os (F_C_apartBySteps_L33 x1 x2 x3 x4 FUEL (wr (-x4)) h) (fun (a : Int × MH) => some (Sum.inl a)) (fun (q5 : Int × MH) => F_C_apartBySteps_L22 x1 x2 x3 n (wr (x4 + 1)) q5.2)) else (some (Sum.inr (x4, h)))
def F_C_apartBySteps (p1 : Nat) (p2 : Nat) (h : MH) : Option (Int × MH) :=
  ob1 (F_Ro_becomeZeros 52 59 h) (fun (h1 : MH) => os (F_C_apartBySteps_L22 p1 p2 (wr ((F_Ro_size p1 h) + (F_Ro_size p2 h))) FUEL 0 h1) (fun (a : Int × MH) => some a) (fun (q6 : Int × MH) => some (wr ((F_Ro_size p1 h) + (F_Ro_size p2 h)), q6.2)))
def F_X_distance (p1 : Int) (h : MH) : Option (Int × MH) :=
  if p1 = 0 then (ob2 (F_X_distanceNow h) (fun (r2 : Int) (h3 : MH) => some (r2, h3))) else (if p1 = 1 then (ob2 (F_C_apartBySteps (F_St_text 3 0) (F_St_text 3 1) h) (fun (r6 : Int) (h7 : MH) => some (r6, h7))) else (some ((-1), h)))
def F_V_hunkOf_L2 (x1 : Int) (h : MH) : Nat → Int → Option (Sum (Int) (Int))
  | 0, _ => none
  | n + 1, x2 => if x2 < F_V_hunks h then (jk1 (fun (u2 : Unit) => F_V_hunkOf_L2 x1 h n (wr (x2 + 1))) (fun kj3 => if F_V_top x2 h ≤ x1 then (if x1 < F_V_end x2 h then (some (Sum.inl x2)) else (kj3 ())) else (kj3 ()))) else (some (Sum.inr x2))
def F_V_hunkOf (p1 : Int) (h : MH) : Option Int :=
  os (F_V_hunkOf_L2 p1 h FUEL 0) (fun (a : Int) => some a) (fun (q3 : Int) => some (-4))
def F_X_view (p1 : Int) (p2 : Int) (h : MH) : Option (Int × MH) :=
  if p1 < 0 then (some ((-1), h)) else (if p2 < 0 then (some ((-1), h)) else (if p2 ≤ 4 then (ob1 (F_X_show h) (fun (h4 : MH) => if p1 < F_V_size h4 then (if p2 = 0 then (some (F_V_kind p1 h4, h4)) else (if p2 = 1 then (some (F_V_sign p1 h4, h4)) else (if p2 = 2 then (if F_V_kind p1 h4 = 2 then (some ((-4), h4)) else (ob1 (F_V_oldAhead p1 h4) (fun (r11 : Int) => some (r11, h4)))) else (if p2 = 3 then (if F_V_kind p1 h4 = 1 then (some ((-4), h4)) else (ob1 (F_V_newAhead p1 h4) (fun (r15 : Int) => some (r15, h4)))) else (ob1 (F_V_hunkOf p1 h4) (fun (r17 : Int) => some (r17, h4))))))) else (some ((-4), h4)))) else (some ((-1), h))))
def F_V_worth (p1 : Int) (h : MH) : Int :=
  F_V_worthAt (F_V_top p1 h) (F_V_end p1 h) h
def F_V_greatestWorth (p1 : Int) (h : MH) : Option Int :=
  ob1 (F_V_bestTop p1 h) (fun (r1 : Int) => some (F_V_worthAt r1 (wr ((wr (r1 + (F_V_end p1 h))) - (F_V_top p1 h))) h))
def F_X_hunk (p1 : Int) (p2 : Int) (h : MH) : Option (Int × MH) :=
  if p2 < 0 then (some ((-1), h)) else (if p2 ≤ 9 then (ob1 (F_X_show h) (fun (h3 : MH) => if F_V_has p1 h3 = 0 then (some ((-1), h3)) else (if p2 = 0 then (some (F_V_top p1 h3, h3)) else (if p2 = 1 then (ob1 (F_V_linesOf p1 1 h3) (fun (r8 : Int) => some (r8, h3))) else (if p2 = 2 then (ob1 (F_V_linesOf p1 2 h3) (fun (r11 : Int) => some (r11, h3))) else (if p2 = 3 then (if F_V_isPlain p1 h3 = 0 then (some (0, h3)) else (some (1, h3))) else (if p2 = 4 then (ob1 (F_V_reach p1 0 h3) (fun (r16 : Int) => some (r16, h3))) else (if p2 = 5 then (ob1 (F_V_reach p1 1 h3) (fun (r19 : Int) => some (r19, h3))) else (if p2 = 6 then (some (F_V_worth p1 h3, h3)) else (if p2 = 7 then (ob1 (F_V_greatestWorth p1 h3) (fun (r23 : Int) => some (r23, h3))) else (if p2 = 8 then (some (F_V_around p1 (F_St_setting 3 0 h3) 0 h3, h3)) else (some (F_V_around p1 (F_St_setting 3 0 h3) 1 h3, h3))))))))))))) else (some ((-1), h)))
def F_V_hindrance (p1 : Int) (p2 : Int) (h : MH) : Int :=
  if F_V_isPlain p1 h = 0 then (1) else (F_V_barAt (F_V_top p1 h) (F_V_end p1 h) p2 h)
def F_X_whyNot (p1 : Int) (p2 : Int) (h : MH) : Option (Int × MH) :=
  ob1 (F_X_show h) (fun (h1 : MH) => if F_V_has p1 h1 = 0 then (some ((-1), h1)) else (some (F_V_hindrance p1 p2 h1, h1)))
def F_St_laid (o : Nat) (h : MH) : Int :=
  h o 5
def F_St_leftOut (o : Nat) (h : MH) : Int :=
  h o 6
def F_Hi_size (h : MH) : Int :=
  h 17 1
def F_X_heldNumber (p1 : Int) (h : MH) : Int :=
  if p1 = 12 then (F_St_laid 3 h) else (if p1 = 13 then (F_St_leftOut 3 h) else (if p1 = 14 then (F_St_setting 3 0 h) else (if p1 = 15 then (F_St_setting 3 1 h) else (if p1 = 16 then (F_Ro_size 1 h) else (F_Hi_size h)))))
def F_V_linesOfKind (p1 : Int) (h : MH) : Option Int :=
  ob1 (F_V_linesWithin 0 (F_V_size h) p1 h) (fun (r1 : Int) => some r1)
def F_V_plainHunks_L4 (h : MH) : Nat → Int → Int → Option (Int × Int)
  | 0, _, _ => none
  | n + 1, x1, x2 => if x2 < F_V_hunks h then (jn1 (if F_V_isPlain x2 h = 0 then (0) else (1)) (fun (s2 : Int) => F_V_plainHunks_L4 h n (wr (x1 + s2)) (wr (x2 + 1)))) else (some (x1, x2))
def F_V_plainHunks (h : MH) : Option Int :=
  ob2 (F_V_plainHunks_L4 h FUEL 0 0) (fun (x1_1 : Int) (x2_2 : Int) => some x1_1)
def F_V_slidingHunks_L4 (h : MH) : Nat → Int → Int → Option (Int × Int)
  | 0, _, _ => none
  | n + 1, x1, x2 => if x2 < F_V_hunks h then (ob1 (F_V_reach x2 0 h) (fun (r2 : Int) => ob1 (F_V_reach x2 1 h) (fun (r4 : Int) => jn1 (if wr (r2 + r4) ≤ 0 then (0) else (1)) (fun (s6 : Int) => F_V_slidingHunks_L4 h n (wr (x1 + s6)) (wr (x2 + 1)))))) else (some (x1, x2))
def F_V_slidingHunks (h : MH) : Option Int :=
  ob2 (F_V_slidingHunks_L4 h FUEL 0 0) (fun (x1_1 : Int) (x2_2 : Int) => some x1_1)
def F_V_worthOfAll_L4 (h : MH) : Nat → Int → Int → Option (Int × Int)
  | 0, _, _ => none
  | n + 1, x1, x2 => if x2 < F_V_hunks h then (F_V_worthOfAll_L4 h n (wr (x1 + (F_V_worth x2 h))) (wr (x2 + 1))) else (some (x1, x2))
def F_V_worthOfAll (h : MH) : Option Int :=
  ob2 (F_V_worthOfAll_L4 h FUEL 0 0) (fun (x1_1 : Int) (x2_2 : Int) => some x1_1)
def F_V_longestKept_L6 (h : MH) : Nat → Int → Int → Int → Option (Int × Int × Int)
  | 0, _, _, _ => none
  | n + 1, x1, x2, x3 => if x3 < F_V_size h then (jn1 (if F_V_inHunk x3 h = 0 then ((wr (x2 + 1))) else (0)) (fun (s2 : Int) => F_V_longestKept_L6 h n (imax x1 s2) s2 (wr (x3 + 1)))) else (some (x1, x2, x3))
def F_V_longestKept (h : MH) : Option Int :=
  ob3 (F_V_longestKept_L6 h FUEL 0 0 0) (fun (x1_1 : Int) (x2_2 : Int) (x3_3 : Int) => some x1_1)
def F_X_shownNumber (p1 : Int) (h : MH) : Option Int :=
  if p1 = 3 then (some (F_V_size h)) else (if p1 = 4 then (ob1 (F_V_linesOfKind 0 h) (fun (r3 : Int) => some r3)) else (if p1 = 5 then (ob1 (F_V_linesOfKind 1 h) (fun (r6 : Int) => some r6)) else (if p1 = 6 then (ob1 (F_V_linesOfKind 2 h) (fun (r9 : Int) => some r9)) else (if p1 = 7 then (some (F_V_hunks h)) else (if p1 = 8 then (ob1 (F_V_plainHunks h) (fun (r13 : Int) => some r13)) else (if p1 = 9 then (ob1 (F_V_slidingHunks h) (fun (r16 : Int) => some r16)) else (if p1 = 10 then (ob1 (F_V_worthOfAll h) (fun (r19 : Int) => some r19)) else (ob1 (F_V_longestKept h) (fun (r21 : Int) => some r21)))))))))
def F_X_count (p1 : Int) (h : MH) : Option (Int × MH) :=
  if p1 < 0 then (some ((-1), h)) else (if p1 ≤ 17 then (if F_X_isText p1 = 0 then (if p1 ≤ 11 then (ob1 (F_X_show h) (fun (h5 : MH) => ob1 (F_X_shownNumber p1 h5) (fun (r7 : Int) => some (r7, h5)))) else (some (F_X_heldNumber p1 h, h))) else (some (F_Ro_size (F_St_text 3 p1) h, h))) else (some ((-1), h)))
def F_X_alike (h : MH) : Option (UInt64 × MH) :=
  if wr ((F_Ro_size (F_St_text 3 0) h) + (F_Ro_size (F_St_text 3 1) h)) = 0 then (some (FP.dconst1, h)) else (ob2 (F_C_keptOf (F_St_text 3 0) (F_St_text 3 1) h) (fun (r2 : Int) (h3 : MH) => gd (FP.ddiv (FP.i2d (Int32.ofInt (wr (2 * r2)))) (FP.i2d (Int32.ofInt (wr ((F_Ro_size (F_St_text 3 0) h) + (F_Ro_size (F_St_text 3 1) h))))) &&& 0x7fffffffffffffff ≤ 0x7ff0000000000000) (some (FP.ddiv (FP.i2d (Int32.ofInt (wr (2 * r2)))) (FP.i2d (Int32.ofInt (wr ((F_Ro_size (F_St_text 3 0) h) + (F_Ro_size (F_St_text 3 1) h))))), h3))))
def F_La_placeOf (p1 : Int) (h : MH) : Int :=
  F_Ro_at 72 p1 h
def F_La_lowerOf (p1 : Int) (h : MH) : Int :=
  F_Ro_at 74 p1 h
def F_X_ifLaid (p1 : Int) (p2 : Int) (p3 : Int) (h : MH) : Option (Int × MH) :=
  if p3 = 0 then (ob1 (F_X_show h) (fun (h2 : MH) => if F_V_has p1 h2 = 0 then (some ((-1), h2)) else (ob1 (F_La_layAll (F_St_text 3 2) (F_St_setting 3 0 h2) p2 h2) (fun (h5 : MH) => if F_La_placeOf p1 h5 = (-4) then (some ((-4), h5)) else (if p3 = 0 then (some (F_La_placeOf p1 h5, h5)) else (some (wr ((F_La_lowerOf p1 h5) + 100), h5))))))) else (if p3 = 1 then (ob1 (F_X_show h) (fun (h10 : MH) => if F_V_has p1 h10 = 0 then (some ((-1), h10)) else (ob1 (F_La_layAll (F_St_text 3 2) (F_St_setting 3 0 h10) p2 h10) (fun (h13 : MH) => if F_La_placeOf p1 h13 = (-4) then (some ((-4), h13)) else (if p3 = 0 then (some (F_La_placeOf p1 h13, h13)) else (some (wr ((F_La_lowerOf p1 h13) + 100), h13))))))) else (some ((-1), h)))
def F_X_ifAround (p1 : Int) (h : MH) : Option (Int × MH) :=
  if p1 < 0 then (some ((-1), h)) else (if p1 ≤ 3 then (ob1 (F_X_show h) (fun (h3 : MH) => ob1 (F_La_layAll (F_St_text 3 2) p1 0 h3) (fun (h5 : MH) => some (F_La_laid h5, h5)))) else (some ((-1), h)))
def F_Ro_isEmpty (o : Nat) (h : MH) : Int :=
  if h o 1 = 0 then (1) else (0)
def F_X_least_L27 (x1 : Nat) : Nat → Int → Int → Int → MH → Option (Int × Int × Int × MH)
  | 0, _, _, _, _ => none
  | n + 1, x2, x3, x4, h => if x4 < F_Ro_size x1 h then (ob1 (F_Ro_become 47 x1 h) (fun (h2 : MH) => ob1 (F_Ro_putOut 47 x4 h2) (fun (h4 : MH) => ob2 (F_C_apart 47 (F_St_text 3 1) h4) (fun (r6 : Int) (h7 : MH) => jn2 (if r6 < x3 then ((x4, r6)) else ((x2, x3))) (fun (x2_9 : Int) (x3_10 : Int) => F_X_least_L27 x1 n x2_9 x3_10 (wr (x4 + 1)) h7))))) else (some (x2, x3, x4, h))
def F_X_least (h : MH) : Option (Int × MH) :=
  if F_Ro_isEmpty (F_St_text 3 0) h = 0 then (ob4 (F_X_least_L27 (F_St_text 3 0) FUEL 0 29 0 h) (fun (x2_2 : Int) (x3_3 : Int) (x4_4 : Int) (h5 : MH) => some (x2_2, h5))) else (some ((-2), h))
def F_Hi_isEmpty (h : MH) : Int :=
  if h 17 1 = 0 then (1) else (0)
def F_Hi_takeBack (p1 : Nat) (h : MH) : Option MH :=
  if h 17 1 ≤ 0 then (some h) else (ob1 (F_Hi_copy (F_Hi_slot ((up h 17 1 (wr ((h 17 1) - 1))) 17 1)) (some p1) (up h 17 1 (wr ((h 17 1) - 1)))) (fun (h2 : MH) => some h2))
def F_X_undo (h : MH) : Option (Int × MH) :=
  if F_Hi_isEmpty h = 0 then (ob1 (F_Hi_takeBack 3 h) (fun (h2 : MH) => some (F_Hi_size h2, h2))) else (some ((-2), h))
def F_X_save (h : MH) : Option (Int × MH) :=
  ob1 (F_St_become 10 3 h) (fun (h1 : MH) => ob2 (F_X_distanceNow (up h1 0 3 1)) (fun (r3 : Int) (h4 : MH) => some (r3, h4)))
def F_X_restore (h : MH) : Option (Int × MH) :=
  if h 0 3 = 0 then (some ((-2), h)) else (ob1 (F_Hi_record 3 h) (fun (h2 : MH) => ob1 (F_St_become 3 10 h2) (fun (h4 : MH) => ob2 (F_X_distanceNow h4) (fun (r6 : Int) (h7 : MH) => some (r6, h7)))))
def F_M_in (p1 : Int) (p2 : Int) (p3 : Int) : Int :=
  if p1 < p2 then (0) else (if p1 ≤ p3 then (1) else (0))
def F_M_remembers_L10  : Nat → Int → MH → Option (Int × MH)
  | 0, _, _ => none
  | n + 1, x1, h => if x1 < 147 then (gd (0 ≤ wr (49 + x1) ∧ wr (49 + x1) < 196) (gd (0 ≤ x1 ∧ x1 < 196) (F_M_remembers_L10  n (wr (x1 + 1)) (up h 78 x1.toNat (h 78 (wr (49 + x1)).toNat))))) else (some (x1, h))
def F_M_remembers_L50  : Nat → Int → MH → Option (Int × MH)
  | 0, _, _ => none
  | n + 1, x1, h => if x1 < 49 then (gd (0 ≤ x1 ∧ x1 < 49) (gd (0 ≤ wr ((wr (49 * (h 76 2))) + x1) ∧ wr ((wr (49 * (h 76 2))) + x1) < 196) (F_M_remembers_L50  n (wr (x1 + 1)) (up h 78 (wr ((wr (49 * (h 76 2))) + x1)).toNat (h 77 x1.toNat))))) else (some (x1, h))
def F_M_remembers (h : MH) : Option MH :=
  jk1 (fun (h1 : MH) => ob2 (F_M_remembers_L50 FUEL 0 h1) (fun (x1_7 : Int) (h8 : MH) => some (up h8 76 2 (wr ((h8 76 2) + 1))))) (fun kj2 => if h 76 2 = 4 then (ob2 (F_M_remembers_L10 FUEL 0 h) (fun (x1_4 : Int) (h5 : MH) => kj2 (up h5 76 2 (wr ((h5 76 2) - 1))))) else (kj2 h))
def F_M_lines (p1 : Int) (h : MH) : Option Int :=
  gd (0 ≤ wr (15 * p1) ∧ wr (15 * p1) < 49) (some (h 77 (wr (15 * p1)).toNat))
def F_M_lineOf (p1 : Int) (p2 : Int) (h : MH) : Option Int :=
  gd (0 ≤ wr ((wr ((wr (15 * p1)) + 1)) + p2) ∧ wr ((wr ((wr (15 * p1)) + 1)) + p2) < 49) (some (h 77 (wr ((wr ((wr (15 * p1)) + 1)) + p2)).toNat))
def F_M_olds (h : MH) : Option Int :=
  ob1 (F_M_lines 0 h) (fun (r1 : Int) => jn1 (if h 76 8 = (-4) then (0) else (1)) (fun (s3 : Int) => some (wr (r1 - s3))))
def F_M_old (p1 : Int) (h : MH) : Option Int :=
  jn1 (if h 76 8 = (-4) then (p1) else (if p1 < h 76 8 then (p1) else ((wr (p1 + 1))))) (fun (s1 : Int) => ob1 (F_M_lineOf 0 s1 h) (fun (r5 : Int) => some r5))
def F_M_counts_L15 (x1 : Int) : Nat → Int → MH → Option (Int × MH)
  | 0, _, _ => none
  | n + 1, x2, h => if x2 < 0 then (some (x2, h)) else (ob1 (F_M_olds h) (fun (r2 : Int) => jk1 (fun (x3_4 : Int) => gd (0 ≤ wr ((wr (15 * x1)) + x2) ∧ wr ((wr (15 * x1)) + x2) < 225) (F_M_counts_L15 x1 n (wr (x2 + (-1))) (up h 81 (wr ((wr (15 * x1)) + x2)).toNat x3_4))) (fun kj5 => if x1 < r2 then (ob1 (F_M_lines 1 h) (fun (r7 : Int) => if x2 < r7 then (gd (0 ≤ wr ((wr ((wr (15 * x1)) + 15)) + x2) ∧ wr ((wr ((wr (15 * x1)) + 15)) + x2) < 225) (gd (0 ≤ wr ((wr ((wr (15 * x1)) + x2)) + 1) ∧ wr ((wr ((wr (15 * x1)) + x2)) + 1) < 225) (jn1 (if h 81 (wr ((wr ((wr (15 * x1)) + 15)) + x2)).toNat ≤ h 81 (wr ((wr ((wr (15 * x1)) + x2)) + 1)).toNat then ((h 81 (wr ((wr ((wr (15 * x1)) + x2)) + 1)).toNat)) else ((h 81 (wr ((wr ((wr (15 * x1)) + 15)) + x2)).toNat))) (fun (s12 : Int) => ob1 (F_M_old x1 h) (fun (r15 : Int) => ob1 (F_M_lineOf 1 x2 h) (fun (r17 : Int) => jk1 (fun (s19 : Int) => kj5 s19) (fun kj20 => if r15 = r17 then (gd (0 ≤ wr ((wr ((wr (15 * x1)) + 16)) + x2) ∧ wr ((wr ((wr (15 * x1)) + 16)) + x2) < 225) (if wr ((h 81 (wr ((wr ((wr (15 * x1)) + 16)) + x2)).toNat) + 1) ≤ s12 then (kj20 s12) else (gd (0 ≤ wr ((wr ((wr (15 * x1)) + 16)) + x2) ∧ wr ((wr ((wr (15 * x1)) + 16)) + x2) < 225) (kj20 (wr ((h 81 (wr ((wr ((wr (15 * x1)) + 16)) + x2)).toNat) + 1)))))) else (kj20 s12)))))))) else (kj5 0))) else (kj5 0))))
def F_M_counts_L5  : Nat → Int → MH → Option (Int × MH)
  | 0, _, _ => none
  | n + 1, x1, h => if x1 < 0 then (some (x1, h)) else (ob1 (F_M_lines 1 h) (fun (r2 : Int) => ob2 (F_M_counts_L15 x1 FUEL r2 h) (fun (x2_4 : Int) (h5 : MH) => F_M_counts_L5  n (wr (x1 + (-1))) h5)))
def F_M_counts (h : MH) : Option (Int × MH) :=
  ob1 (F_M_olds h) (fun (r1 : Int) => ob2 (F_M_counts_L5 FUEL r1 h) (fun (x1_3 : Int) (h4 : MH) => ob1 (F_M_olds h4) (fun (r6 : Int) => ob1 (F_M_lines 1 h4) (fun (r8 : Int) => some (wr ((wr (r6 + r8)) - (wr (2 * (h4 81 0)))), h4)))))
def F_M_shows (p1 : Int) (p2 : Int) (h : MH) : Option MH :=
  gd (0 ≤ h 76 11 ∧ h 76 11 < 28) (gd (0 ≤ (up h 82 (h 76 11).toNat p2) 76 11 ∧ (up h 82 (h 76 11).toNat p2) 76 11 < 28) (some (up (up (up h 82 (h 76 11).toNat p2) 83 ((up h 82 (h 76 11).toNat p2) 76 11).toNat p1) 76 11 (wr (((up (up h 82 (h 76 11).toNat p2) 83 ((up h 82 (h 76 11).toNat p2) 76 11).toNat p1) 76 11) + 1)))))
def F_M_begins (p1 : Int) (h : MH) : Option Int :=
  gd (0 ≤ p1 ∧ p1 < 28) (if h 83 p1.toNat ≤ 0 then (some 0) else (if p1 = 0 then (some 1) else (gd (0 ≤ wr (p1 - 1) ∧ wr (p1 - 1) < 28) (if h 83 (wr (p1 - 1)).toNat = 0 then (some 1) else (some 0)))))
def F_M_hunks_L4 (h : MH) : Nat → Int → Int → Option (Int × Int)
  | 0, _, _ => none
  | n + 1, x1, x2 => if x2 < h 76 11 then (ob1 (F_M_begins x2 h) (fun (r2 : Int) => jn1 (if r2 = 0 then (0) else (1)) (fun (s4 : Int) => F_M_hunks_L4 h n (wr (x1 + s4)) (wr (x2 + 1))))) else (some (x1, x2))
def F_M_hunks (h : MH) : Option Int :=
  ob2 (F_M_hunks_L4 h FUEL 0 0) (fun (x1_1 : Int) (x2_2 : Int) => some x1_1)
def F_M_start_L4 (h : MH) : Nat → Int → Int → Option (Sum (Int) (Int × Int))
  | 0, _, _ => none
  | n + 1, x2, x3 => if x3 < h 76 11 then (ob1 (F_M_begins x3 h) (fun (r2 : Int) => jk1 (fun (x2_4 : Int) => F_M_start_L4 h n x2_4 (wr (x3 + 1))) (fun kj5 => if r2 = 0 then (kj5 x2) else (jk1 (fun (u7 : Unit) => kj5 (wr (x2 + (-1)))) (fun kj8 => if x2 = 0 then (some (Sum.inl x3)) else (kj8 ())))))) else (some (Sum.inr (x2, x3)))
def F_M_start (p1 : Int) (h : MH) : Option Int :=
  os (F_M_start_L4 h FUEL p1 0) (fun (a : Int) => some a) (fun (q4 : Int × Int) => some (-4))
def F_M_size_L2 (x1 : Int) (h : MH) : Nat → Int → Option (Int)
  | 0, _ => none
  | n + 1, x2 => if wr (x1 + x2) < h 76 11 then (gd (0 ≤ wr (x1 + x2) ∧ wr (x1 + x2) < 28) (if h 83 (wr (x1 + x2)).toNat ≤ 0 then (some x2) else (F_M_size_L2 x1 h n (wr (x2 + 1))))) else (some x2)
def F_M_size (p1 : Int) (h : MH) : Option Int :=
  ob1 (F_M_size_L2 p1 h FUEL 0) (fun (x2_1 : Int) => some x2_1)
def F_M_marked_L5 (x1 : Int) (x2 : Int) (h : MH) : Nat → Int → Int → Option (Int × Int)
  | 0, _, _ => none
  | n + 1, x3, x4 => ob1 (F_M_size x1 h) (fun (r1 : Int) => if x4 < r1 then (gd (0 ≤ wr (x1 + x4) ∧ wr (x1 + x4) < 28) (jn1 (if h 83 (wr (x1 + x4)).toNat = x2 then (1) else (0)) (fun (s5 : Int) => F_M_marked_L5 x1 x2 h n (wr (x3 + s5)) (wr (x4 + 1))))) else (some (x3, x4)))
def F_M_marked (p1 : Int) (p2 : Int) (h : MH) : Option Int :=
  ob2 (F_M_marked_L5 p1 p2 h FUEL 0 0) (fun (x3_1 : Int) (x4_2 : Int) => some x3_1)
def F_M_isPlain (p1 : Int) (h : MH) : Option Int :=
  ob1 (F_M_marked p1 1 h) (fun (r1 : Int) => if r1 = 0 then (some 1) else (ob1 (F_M_marked p1 2 h) (fun (r4 : Int) => if r4 = 0 then (some 1) else (some 0))))
def F_M_whyNotFrom (p1 : Int) (p2 : Int) (p3 : Int) (h : MH) : Option Int :=
  jn1 (if p3 = 0 then ((wr (p1 - 1))) else ((wr (p1 + p2)))) (fun (s1 : Int) => jn1 (if p3 = 0 then ((wr ((wr (p1 + p2)) - 1))) else (p1)) (fun (s4 : Int) => jn1 (if p3 = 0 then ((wr (s1 - 1))) else ((wr (s1 + 1)))) (fun (s7 : Int) => if F_M_in s1 0 (wr ((h 76 11) - 1)) = 0 then (some 2) else (gd (0 ≤ s1 ∧ s1 < 28) (gd (0 ≤ s4 ∧ s4 < 28) (if h 82 s1.toNat = h 82 s4.toNat then (if F_M_in s7 0 (wr ((h 76 11) - 1)) = 0 then (some 0) else (gd (0 ≤ s7 ∧ s7 < 28) (if h 83 s7.toNat ≤ 0 then (some 0) else (some 4)))) else (some 3)))))))
def F_M_slides_L13 (x1 : Int) (x2 : Int) (x4 : Int) (h : MH) : Nat → Int → Option (Int)
  | 0, _ => none
  | n + 1, x3 => ob1 (F_M_isPlain x1 h) (fun (r1 : Int) => if r1 = 0 then (some x3) else (ob1 (F_M_size x1 h) (fun (r4 : Int) => ob1 (F_M_whyNotFrom (wr (x1 + (wr (x3 * x4)))) r4 x2 h) (fun (r6 : Int) => if r6 = 0 then (F_M_slides_L13 x1 x2 x4 h n (wr (x3 + 1))) else (some x3)))))
def F_M_slides (p1 : Int) (p2 : Int) (h : MH) : Option Int :=
  jn1 (if p2 = 0 then ((-1)) else (1)) (fun (s1 : Int) => ob1 (F_M_slides_L13 p1 p2 s1 h FUEL 0) (fun (x3_4 : Int) => some x3_4))
def F_M_worth (p1 : Int) (p2 : Int) (h : MH) : Option Int :=
  gd (0 ≤ wr ((wr (p1 + p2)) - 1) ∧ wr ((wr (p1 + p2)) - 1) < 28) (jk1 (fun (s2 : Int) => jn1 (if s2 = 0 then (0) else (4)) (fun (s7 : Int) => jn1 (if h 82 (wr ((wr (p1 + p2)) - 1)).toNat = 6 then (2) else (0)) (fun (s10 : Int) => gd (0 ≤ p1 ∧ p1 < 28) (jn1 (if h 82 p1.toNat = 7 then (1) else (0)) (fun (s14 : Int) => jn1 (if h 82 (wr ((wr (p1 + p2)) - 1)).toNat = 8 then (3) else (0)) (fun (s17 : Int) => some (wr ((wr ((wr (s7 + s10)) + s14)) + s17)))))))) (fun kj3 => if p1 = 0 then (kj3 1) else (gd (0 ≤ wr (p1 - 1) ∧ wr (p1 - 1) < 28) (if h 82 (wr (p1 - 1)).toNat = 6 then (kj3 1) else (kj3 0)))))
def F_M_bestPlace_L27 (x1 : Int) (x4 : Int) (h : MH) : Nat → Int → Int → Int → Option (Int × Int × Int)
  | 0, _, _, _ => none
  | n + 1, x2, x5, x6 => if x6 ≤ x4 then (ob1 (F_M_size x1 h) (fun (r2 : Int) => ob1 (F_M_worth x6 r2 h) (fun (r4 : Int) => jn1 (if r4 < x5 then (x2) else (x6)) (fun (s6 : Int) => jn1 (if r4 < x5 then (x5) else (r4)) (fun (s9 : Int) => F_M_bestPlace_L27 x1 x4 h n s6 s9 (wr (x6 + 1))))))) else (some (x2, x5, x6))
def F_M_bestPlace (p1 : Int) (h : MH) : Option Int :=
  ob1 (F_M_slides p1 0 h) (fun (r1 : Int) => ob1 (F_M_slides p1 1 h) (fun (r3 : Int) => ob3 (F_M_bestPlace_L27 p1 (wr (p1 + r3)) h FUEL p1 (-1) (wr (p1 - r1))) (fun (x2_5 : Int) (x5_6 : Int) (x6_7 : Int) => some x2_5)))
def F_M_settles_L39 (x2 : Int) (x3 : Int) (x4 : Int) (x5 : Int) : Nat → Int → MH → Option (Int × MH)
  | 0, _, _ => none
  | n + 1, x6, h => if x6 < x3 then (gd (0 ≤ wr (x2 + x6) ∧ wr (x2 + x6) < 28) (F_M_settles_L39 x2 x3 x4 x5 n (wr (x6 + 1)) (up h 83 (wr (x2 + x6)).toNat 0))) else (some (x6, h))
def F_M_settles_L64 (x3 : Int) (x4 : Int) (x5 : Int) : Nat → Int → MH → Option (Int × MH)
  | 0, _, _ => none
  | n + 1, x6, h => if x6 < x3 then (gd (0 ≤ wr (x5 + x6) ∧ wr (x5 + x6) < 28) (F_M_settles_L64 x3 x4 x5 n (wr (x6 + 1)) (up h 83 (wr (x5 + x6)).toNat x4))) else (some (x6, h))
def F_M_settles (p1 : Int) (h : MH) : Option MH :=
  ob1 (F_M_start p1 h) (fun (r1 : Int) => ob1 (F_M_isPlain r1 h) (fun (r3 : Int) => if r3 = 0 then (some h) else (ob1 (F_M_size r1 h) (fun (r6 : Int) => gd (0 ≤ r1 ∧ r1 < 28) (ob1 (F_M_bestPlace r1 h) (fun (r9 : Int) => ob2 (F_M_settles_L39 r1 r6 (h 83 r1.toNat) r9 FUEL 0 h) (fun (x6_11 : Int) (h12 : MH) => ob2 (F_M_settles_L64 r6 (h 83 r1.toNat) r9 FUEL 0 h12) (fun (x6_14 : Int) (h15 : MH) => some h15))))))))
def F_M_views_L14  : Nat → Int → Int → MH → Option (Int × Int × MH)
  | 0, _, _, _ => none
  | n + 1, x2, x3, h => ob1 (F_M_lines 0 h) (fun (r1 : Int) => if x2 < r1 then (ob1 (F_M_lines 0 h) (fun (r4 : Int) => jn1 (if x2 < r4 then (1) else (0)) (fun (s6 : Int) => ob1 (F_M_lines 1 h) (fun (r9 : Int) => jn1 (if x3 < r9 then (1) else (0)) (fun (s11 : Int) => jk3 (fun (x2_14 : Int) (x3_15 : Int) (h16 : MH) => F_M_views_L14  n x2_14 x3_15 h16) (fun kj17 => if s6 = 0 then (if s6 = 0 then (ob1 (F_M_lineOf 1 x3 h) (fun (r20 : Int) => ob1 (F_M_shows 2 r20 h) (fun (h22 : MH) => kj17 x2 (wr (x3 + 1)) h22))) else (if s11 = 0 then (ob1 (F_M_old x2 h) (fun (r25 : Int) => ob1 (F_M_shows 1 r25 h) (fun (h27 : MH) => kj17 (wr (x2 + 1)) x3 h27))) else (gd (0 ≤ wr ((wr ((wr (15 * x2)) + 15)) + x3) ∧ wr ((wr ((wr (15 * x2)) + 15)) + x3) < 225) (gd (0 ≤ wr ((wr ((wr (15 * x2)) + x3)) + 1) ∧ wr ((wr ((wr (15 * x2)) + x3)) + 1) < 225) (if h 81 (wr ((wr ((wr (15 * x2)) + 15)) + x3)).toNat < h 81 (wr ((wr ((wr (15 * x2)) + x3)) + 1)).toNat then (ob1 (F_M_lineOf 1 x3 h) (fun (r32 : Int) => ob1 (F_M_shows 2 r32 h) (fun (h34 : MH) => kj17 x2 (wr (x3 + 1)) h34))) else (ob1 (F_M_old x2 h) (fun (r36 : Int) => ob1 (F_M_shows 1 r36 h) (fun (h38 : MH) => kj17 (wr (x2 + 1)) x3 h38)))))))) else (if s11 = 0 then (if s6 = 0 then (ob1 (F_M_lineOf 1 x3 h) (fun (r42 : Int) => ob1 (F_M_shows 2 r42 h) (fun (h44 : MH) => kj17 x2 (wr (x3 + 1)) h44))) else (if s11 = 0 then (ob1 (F_M_old x2 h) (fun (r47 : Int) => ob1 (F_M_shows 1 r47 h) (fun (h49 : MH) => kj17 (wr (x2 + 1)) x3 h49))) else (gd (0 ≤ wr ((wr ((wr (15 * x2)) + 15)) + x3) ∧ wr ((wr ((wr (15 * x2)) + 15)) + x3) < 225) (gd (0 ≤ wr ((wr ((wr (15 * x2)) + x3)) + 1) ∧ wr ((wr ((wr (15 * x2)) + x3)) + 1) < 225) (if h 81 (wr ((wr ((wr (15 * x2)) + 15)) + x3)).toNat < h 81 (wr ((wr ((wr (15 * x2)) + x3)) + 1)).toNat then (ob1 (F_M_lineOf 1 x3 h) (fun (r54 : Int) => ob1 (F_M_shows 2 r54 h) (fun (h56 : MH) => kj17 x2 (wr (x3 + 1)) h56))) else (ob1 (F_M_old x2 h) (fun (r58 : Int) => ob1 (F_M_shows 1 r58 h) (fun (h60 : MH) => kj17 (wr (x2 + 1)) x3 h60)))))))) else (ob1 (F_M_old x2 h) (fun (r62 : Int) => ob1 (F_M_lineOf 1 x3 h) (fun (r64 : Int) => if r62 = r64 then (ob1 (F_M_old x2 h) (fun (r67 : Int) => ob1 (F_M_shows 0 r67 h) (fun (h69 : MH) => kj17 (wr (x2 + 1)) (wr (x3 + 1)) h69))) else (if s6 = 0 then (ob1 (F_M_lineOf 1 x3 h) (fun (r72 : Int) => ob1 (F_M_shows 2 r72 h) (fun (h74 : MH) => kj17 x2 (wr (x3 + 1)) h74))) else (if s11 = 0 then (ob1 (F_M_old x2 h) (fun (r77 : Int) => ob1 (F_M_shows 1 r77 h) (fun (h79 : MH) => kj17 (wr (x2 + 1)) x3 h79))) else (gd (0 ≤ wr ((wr ((wr (15 * x2)) + 15)) + x3) ∧ wr ((wr ((wr (15 * x2)) + 15)) + x3) < 225) (gd (0 ≤ wr ((wr ((wr (15 * x2)) + x3)) + 1) ∧ wr ((wr ((wr (15 * x2)) + x3)) + 1) < 225) (if h 81 (wr ((wr ((wr (15 * x2)) + 15)) + x3)).toNat < h 81 (wr ((wr ((wr (15 * x2)) + x3)) + 1)).toNat then (ob1 (F_M_lineOf 1 x3 h) (fun (r84 : Int) => ob1 (F_M_shows 2 r84 h) (fun (h86 : MH) => kj17 x2 (wr (x3 + 1)) h86))) else (ob1 (F_M_old x2 h) (fun (r88 : Int) => ob1 (F_M_shows 1 r88 h) (fun (h90 : MH) => kj17 (wr (x2 + 1)) x3 h90)))))))))))))))))) else (ob1 (F_M_lines 1 h) (fun (r95 : Int) => if x3 < r95 then (ob1 (F_M_lines 0 h) (fun (r98 : Int) => jn1 (if x2 < r98 then (1) else (0)) (fun (s100 : Int) => ob1 (F_M_lines 1 h) (fun (r103 : Int) => jn1 (if x3 < r103 then (1) else (0)) (fun (s105 : Int) => jk3 (fun (x2_108 : Int) (x3_109 : Int) (h110 : MH) => F_M_views_L14  n x2_108 x3_109 h110) (fun kj111 => if s100 = 0 then (if s100 = 0 then (ob1 (F_M_lineOf 1 x3 h) (fun (r114 : Int) => ob1 (F_M_shows 2 r114 h) (fun (h116 : MH) => kj111 x2 (wr (x3 + 1)) h116))) else (if s105 = 0 then (ob1 (F_M_old x2 h) (fun (r119 : Int) => ob1 (F_M_shows 1 r119 h) (fun (h121 : MH) => kj111 (wr (x2 + 1)) x3 h121))) else (gd (0 ≤ wr ((wr ((wr (15 * x2)) + 15)) + x3) ∧ wr ((wr ((wr (15 * x2)) + 15)) + x3) < 225) (gd (0 ≤ wr ((wr ((wr (15 * x2)) + x3)) + 1) ∧ wr ((wr ((wr (15 * x2)) + x3)) + 1) < 225) (if h 81 (wr ((wr ((wr (15 * x2)) + 15)) + x3)).toNat < h 81 (wr ((wr ((wr (15 * x2)) + x3)) + 1)).toNat then (ob1 (F_M_lineOf 1 x3 h) (fun (r126 : Int) => ob1 (F_M_shows 2 r126 h) (fun (h128 : MH) => kj111 x2 (wr (x3 + 1)) h128))) else (ob1 (F_M_old x2 h) (fun (r130 : Int) => ob1 (F_M_shows 1 r130 h) (fun (h132 : MH) => kj111 (wr (x2 + 1)) x3 h132)))))))) else (if s105 = 0 then (if s100 = 0 then (ob1 (F_M_lineOf 1 x3 h) (fun (r136 : Int) => ob1 (F_M_shows 2 r136 h) (fun (h138 : MH) => kj111 x2 (wr (x3 + 1)) h138))) else (if s105 = 0 then (ob1 (F_M_old x2 h) (fun (r141 : Int) => ob1 (F_M_shows 1 r141 h) (fun (h143 : MH) => kj111 (wr (x2 + 1)) x3 h143))) else (gd (0 ≤ wr ((wr ((wr (15 * x2)) + 15)) + x3) ∧ wr ((wr ((wr (15 * x2)) + 15)) + x3) < 225) (gd (0 ≤ wr ((wr ((wr (15 * x2)) + x3)) + 1) ∧ wr ((wr ((wr (15 * x2)) + x3)) + 1) < 225) (if h 81 (wr ((wr ((wr (15 * x2)) + 15)) + x3)).toNat < h 81 (wr ((wr ((wr (15 * x2)) + x3)) + 1)).toNat then (ob1 (F_M_lineOf 1 x3 h) (fun (r148 : Int) => ob1 (F_M_shows 2 r148 h) (fun (h150 : MH) => kj111 x2 (wr (x3 + 1)) h150))) else (ob1 (F_M_old x2 h) (fun (r152 : Int) => ob1 (F_M_shows 1 r152 h) (fun (h154 : MH) => kj111 (wr (x2 + 1)) x3 h154)))))))) else (ob1 (F_M_old x2 h) (fun (r156 : Int) => ob1 (F_M_lineOf 1 x3 h) (fun (r158 : Int) => if r156 = r158 then (ob1 (F_M_old x2 h) (fun (r161 : Int) => ob1 (F_M_shows 0 r161 h) (fun (h163 : MH) => kj111 (wr (x2 + 1)) (wr (x3 + 1)) h163))) else (if s100 = 0 then (ob1 (F_M_lineOf 1 x3 h) (fun (r166 : Int) => ob1 (F_M_shows 2 r166 h) (fun (h168 : MH) => kj111 x2 (wr (x3 + 1)) h168))) else (if s105 = 0 then (ob1 (F_M_old x2 h) (fun (r171 : Int) => ob1 (F_M_shows 1 r171 h) (fun (h173 : MH) => kj111 (wr (x2 + 1)) x3 h173))) else (gd (0 ≤ wr ((wr ((wr (15 * x2)) + 15)) + x3) ∧ wr ((wr ((wr (15 * x2)) + 15)) + x3) < 225) (gd (0 ≤ wr ((wr ((wr (15 * x2)) + x3)) + 1) ∧ wr ((wr ((wr (15 * x2)) + x3)) + 1) < 225) (if h 81 (wr ((wr ((wr (15 * x2)) + 15)) + x3)).toNat < h 81 (wr ((wr ((wr (15 * x2)) + x3)) + 1)).toNat then (ob1 (F_M_lineOf 1 x3 h) (fun (r178 : Int) => ob1 (F_M_shows 2 r178 h) (fun (h180 : MH) => kj111 x2 (wr (x3 + 1)) h180))) else (ob1 (F_M_old x2 h) (fun (r182 : Int) => ob1 (F_M_shows 1 r182 h) (fun (h184 : MH) => kj111 (wr (x2 + 1)) x3 h184)))))))))))))))))) else (some (x2, x3, h)))))
def F_M_views_L183  : Nat → Int → MH → Option (Int × MH)
  | 0, _, _ => none
  | n + 1, x4, h => ob1 (F_M_hunks h) (fun (r1 : Int) => if x4 < r1 then (if h 77 46 = 1 then (ob1 (F_M_settles x4 h) (fun (h5 : MH) => F_M_views_L183  n (wr (x4 + 1)) h5)) else (some (x4, h))) else (some (x4, h)))
def F_M_views (h : MH) : Option MH :=
  ob2 (F_M_counts h) (fun (r1 : Int) (h2 : MH) => ob3 (F_M_views_L14 FUEL 0 0 (up h2 76 11 0)) (fun (x2_4 : Int) (x3_5 : Int) (h6 : MH) => ob2 (F_M_views_L183 FUEL 0 h6) (fun (x4_8 : Int) (h9 : MH) => some h9)))
def F_M_around_L33 (x3 : Int) (x4 : Int) (x5 : Int) (h : MH) : Nat → Int → Option (Int)
  | 0, _ => none
  | n + 1, x6 => if x6 < x3 then (if F_M_in (wr (x5 + (wr (x6 * x4)))) 0 (wr ((h 76 11) - 1)) = 0 then (some x6) else (gd (0 ≤ wr (x5 + (wr (x6 * x4))) ∧ wr (x5 + (wr (x6 * x4))) < 28) (if h 83 (wr (x5 + (wr (x6 * x4)))).toNat = 0 then (F_M_around_L33 x3 x4 x5 h n (wr (x6 + 1))) else (some x6)))) else (some x6)
def F_M_around (p1 : Int) (p2 : Int) (p3 : Int) (h : MH) : Option Int :=
  jn1 (if p2 = 0 then ((-1)) else (1)) (fun (s1 : Int) => jk1 (fun (s4 : Int) => ob1 (F_M_around_L33 p3 s1 s4 h FUEL 0) (fun (x6_9 : Int) => some x6_9)) (fun kj5 => if p2 = 0 then (kj5 (wr (p1 - 1))) else (ob1 (F_M_size p1 h) (fun (r7 : Int) => kj5 (wr (p1 + r7))))))
def F_M_linesBut_L6 (x2 : Int) (x3 : Int) (h : MH) : Nat → Int → Int → Option (Int × Int)
  | 0, _, _ => none
  | n + 1, x4, x5 => if x5 < x2 then (gd (0 ≤ x5 ∧ x5 < 28) (jn1 (if h 83 x5.toNat = x3 then (0) else (1)) (fun (s3 : Int) => F_M_linesBut_L6 x2 x3 h n (wr (x4 + s3)) (wr (x5 + 1))))) else (some (x4, x5))
def F_M_linesBut (p1 : Int) (p2 : Int) (p3 : Int) (h : MH) : Option Int :=
  ob2 (F_M_linesBut_L6 p2 p3 h FUEL 0 p1) (fun (x4_1 : Int) (x5_2 : Int) => some x4_1)
def F_M_fits_L9 (x3 : Int) (x4 : Int) (h : MH) : Nat → Int → Int → Int → Option (Int × Int × Int)
  | 0, _, _, _ => none
  | n + 1, x5, x6, x7 => if x7 < x3 then (jk1 (fun (s2 : Int) => gd (0 ≤ x7 ∧ x7 < 28) (jn1 (if h 83 x7.toNat = x4 then (0) else (1)) (fun (s11 : Int) => F_M_fits_L9 x3 x4 h n (wr (x5 + s11)) s2 (wr (x7 + 1))))) (fun kj3 => if x6 = 0 then (kj3 0) else (gd (0 ≤ x7 ∧ x7 < 28) (if h 83 x7.toNat = x4 then (kj3 1) else (gd (0 ≤ x5 ∧ x5 < 60) (gd (0 ≤ x7 ∧ x7 < 28) (if h 84 x5.toNat = h 82 x7.toNat then (kj3 1) else (kj3 0)))))))) else (some (x5, x6, x7))
def F_M_fits (p1 : Int) (p2 : Int) (p3 : Int) (p4 : Int) (h : MH) : Option Int :=
  ob3 (F_M_fits_L9 p3 p4 h FUEL p1 1 p2) (fun (x5_1 : Int) (x6_2 : Int) (x7_3 : Int) => gd (x6_2 = 0 ∨ x6_2 = 1) (some x6_2))
def F_M_looks_L19 (x1 : Int) (x2 : Int) (x3 : Int) (x4 : Int) (x5 : Int) (x6 : Int) (h : MH) : Nat → Int → Option (Sum (Int) (Int))
  | 0, _ => none
  | n + 1, x7 => if x7 < 200 then (jk1 (fun (u2 : Unit) => jk1 (fun (u8 : Unit) => F_M_looks_L19 x1 x2 x3 x4 x5 x6 h n (wr (x7 + 1))) (fun kj9 => if F_M_in (wr (x1 + x7)) x2 x6 = 0 then (kj9 ()) else (ob1 (F_M_fits (wr (x1 + x7)) x3 x4 x5 h) (fun (r11 : Int) => if r11 = 0 then (kj9 ()) else (some (Sum.inl (wr (x1 + x7)))))))) (fun kj3 => if F_M_in (wr (x1 - x7)) x2 x6 = 0 then (kj3 ()) else (ob1 (F_M_fits (wr (x1 - x7)) x3 x4 x5 h) (fun (r5 : Int) => if r5 = 0 then (kj3 ()) else (some (Sum.inl (wr (x1 - x7)))))))) else (some (Sum.inr x7))
def F_M_looks (p1 : Int) (p2 : Int) (p3 : Int) (p4 : Int) (p5 : Int) (h : MH) : Option Int :=
  ob1 (F_M_linesBut p3 p4 p5 h) (fun (r1 : Int) => os (F_M_looks_L19 p1 p2 p3 p4 p5 (wr ((h 76 13) - r1)) h FUEL 0) (fun (a : Int) => some a) (fun (q5 : Int) => some (-4)))
def F_M_replaces_L69 (x1 : Int) (x3 : Int) (x4 : Int) (x5 : Int) (x7 : Int) : Nat → Int → MH → Option (Int × MH)
  | 0, _, _ => none
  | n + 1, x8, h => if x8 < h 76 13 then (gd (0 ≤ x8 ∧ x8 < 60) (gd (0 ≤ wr (x8 + x7) ∧ wr (x8 + x7) < 60) (F_M_replaces_L69 x1 x3 x4 x5 x7 n (wr (x8 + 1)) (up h 84 (wr (x8 + x7)).toNat (h 84 x8.toNat))))) else (some (x8, h))
def F_M_replaces_L30 (x1 : Int) (x2 : Int) (x3 : Int) (x4 : Int) (x5 : Int) (x7 : Int) : Nat → Int → MH → Option (Int × MH)
  | 0, _, _ => none
  | n + 1, x8, h => if x8 < wr (x1 + x2) then (some (x8, h)) else (gd (0 ≤ x8 ∧ x8 < 60) (gd (0 ≤ wr (x8 + x7) ∧ wr (x8 + x7) < 60) (F_M_replaces_L30 x1 x2 x3 x4 x5 x7 n (wr (x8 + (-1))) (up h 84 (wr (x8 + x7)).toNat (h 84 x8.toNat)))))
def F_M_replaces_L118 (x4 : Int) (x5 : Int) : Nat → Int → Int → MH → Option (Int × Int × MH)
  | 0, _, _, _ => none
  | n + 1, x8, x9, h => if x9 < x4 then (gd (0 ≤ x9 ∧ x9 < 28) (jk2 (fun (x8_3 : Int) (h4 : MH) => F_M_replaces_L118 x4 x5 n x8_3 (wr (x9 + 1)) h4) (fun kj5 => if h 83 x9.toNat = x5 then (kj5 x8 h) else (gd (0 ≤ x9 ∧ x9 < 28) (gd (0 ≤ x8 ∧ x8 < 60) (kj5 (wr (x8 + 1)) (up h 84 x8.toNat (h 82 x9.toNat)))))))) else (some (x8, x9, h))
def F_M_replaces (p1 : Int) (p2 : Int) (p3 : Int) (p4 : Int) (p5 : Int) (h : MH) : Option MH :=
  ob1 (F_M_linesBut p3 p4 p5 h) (fun (r1 : Int) => jk1 (fun (h3 : MH) => ob3 (F_M_replaces_L118 p4 p5 FUEL p1 p3 (up h3 76 13 (wr ((h3 76 13) + (wr (r1 - p2)))))) (fun (x8_12 : Int) (x9_13 : Int) (h14 : MH) => some h14)) (fun kj4 => if wr (r1 - p2) ≤ 0 then (ob2 (F_M_replaces_L69 p1 p3 p4 p5 (wr (r1 - p2)) FUEL (wr (p1 + p2)) h) (fun (x8_6 : Int) (h7 : MH) => kj4 h7)) else (ob2 (F_M_replaces_L30 p1 p2 p3 p4 p5 (wr (r1 - p2)) FUEL (wr ((h 76 13) - 1)) h) (fun (x8_9 : Int) (h10 : MH) => kj4 h10))))
def F_M_lays_L33 (x2 : Int) (x3 : Int) (x4 : Int) : Nat → Int → MH → Option (Int × MH)
  | 0, _, _ => none
  | n + 1, x5, h => if x5 < h 76 13 then (ob1 (F_M_lineOf 2 x5 h) (fun (r2 : Int) => gd (0 ≤ x5 ∧ x5 < 60) (F_M_lays_L33 x2 x3 x4 n (wr (x5 + 1)) (up h 84 x5.toNat r2)))) else (some (x5, h))
def F_M_lays_L79 (x2 : Int) (x3 : Int) (x4 : Int) : Nat → Int → Int → Int → Int → MH → Option (Int × Int × Int × Int × MH)
  | 0, _, _, _, _, _ => none
  | n + 1, x5, x6, x7, x8, h => ob1 (F_M_hunks h) (fun (r1 : Int) => if x8 < r1 then (ob1 (F_M_start x8 h) (fun (r4 : Int) => ob1 (F_M_around r4 1 x2 h) (fun (r6 : Int) => ob1 (F_M_around r4 0 x2 h) (fun (r8 : Int) => ob1 (F_M_size r4 h) (fun (r10 : Int) => ob1 (F_M_linesBut 0 (wr (r4 - r8)) x3 h) (fun (r12 : Int) => ob1 (F_M_lines 2 h) (fun (r14 : Int) => ob1 (F_M_looks (wr ((wr ((wr (r12 + (h 76 13))) - r14)) + x6)) x7 (wr (r4 - r8)) (wr ((wr (r4 + r10)) + r6)) x3 h) (fun (r16 : Int) => gd (0 ≤ x8 ∧ x8 < 28) (gd (0 ≤ x8 ∧ x8 < 28) (gd (0 ≤ x8 ∧ x8 < 28) (gd (0 ≤ x8 ∧ x8 < 28) (jk4 (fun (x5_22 : Int) (x6_23 : Int) (x7_24 : Int) (h25 : MH) => F_M_lays_L79 x2 x3 x4 n x5_22 x6_23 x7_24 (wr (x8 + 1)) h25) (fun kj26 => if (up (up h 85 x8.toNat r16) 86 x8.toNat (wr (((up h 85 x8.toNat r16) 85 x8.toNat) - (wr ((wr ((wr (r12 + (h 76 13))) - r14)) + x6))))) 85 x8.toNat = (-4) then (kj26 x5 x6 x7 (up (up h 85 x8.toNat r16) 86 x8.toNat (wr (((up h 85 x8.toNat r16) 85 x8.toNat) - (wr ((wr ((wr (r12 + (h 76 13))) - r14)) + x6)))))) else (gd (0 ≤ x8 ∧ x8 < 28) (ob1 (F_M_linesBut (wr (r4 - r8)) (wr ((wr (r4 + r10)) + r6)) x3 (up (up h 85 x8.toNat r16) 86 x8.toNat (wr (((up h 85 x8.toNat r16) 85 x8.toNat) - (wr ((wr ((wr (r12 + (h 76 13))) - r14)) + x6)))))) (fun (r29 : Int) => ob1 (F_M_replaces ((up (up h 85 x8.toNat r16) 86 x8.toNat (wr (((up h 85 x8.toNat r16) 85 x8.toNat) - (wr ((wr ((wr (r12 + (h 76 13))) - r14)) + x6))))) 85 x8.toNat) r29 (wr (r4 - r8)) (wr ((wr (r4 + r10)) + r6)) x4 (up (up h 85 x8.toNat r16) 86 x8.toNat (wr (((up h 85 x8.toNat r16) 85 x8.toNat) - (wr ((wr ((wr (r12 + (h 76 13))) - r14)) + x6)))))) (fun (h31 : MH) => gd (0 ≤ x8 ∧ x8 < 28) (gd (0 ≤ x8 ∧ x8 < 28) (ob1 (F_M_linesBut (wr (r4 - r8)) (wr ((wr (r4 + r10)) + r6)) x4 h31) (fun (r35 : Int) => jn1 (if h31 76 16 = 0 then (if h31 76 13 ≤ 14 then (0) else (1)) else (1)) (fun (s37 : Int) => gd (s37 = 0 ∨ s37 = 1) (kj26 (wr (x5 + 1)) (wr (x6 + (h31 86 x8.toNat))) (wr ((wr ((h31 85 x8.toNat) + r35)) - r6)) (up h31 76 16 s37))))))))))))))))))))))) else (some (x5, x6, x7, x8, h)))
def F_M_lays (p1 : Int) (p2 : Int) (h : MH) : Option (Int × MH) :=
  jn1 (if p1 = 0 then (2) else (1)) (fun (s1 : Int) => jn1 (if p1 = 0 then (1) else (2)) (fun (s4 : Int) => ob1 (F_M_lines 2 h) (fun (r7 : Int) => ob2 (F_M_lays_L33 p2 s1 s4 FUEL 0 (up h 76 13 r7)) (fun (x5_9 : Int) (h10 : MH) => ob5 (F_M_lays_L79 p2 s1 s4 FUEL 0 0 0 0 (up h10 76 16 0)) (fun (x5_12 : Int) (x6_13 : Int) (x7_14 : Int) (x8_15 : Int) (h16 : MH) => some (x5_12, h16))))))
def F_M_append (p1 : Int) (h : MH) : Option (Int × MH) :=
  if F_M_in p1 33 126 = 0 then (some ((-1), h)) else (if h 76 6 = 40 then (some ((-3), h)) else (gd (0 ≤ h 76 6 ∧ h 76 6 < 40) (some ((up (up h 80 (h 76 6).toNat p1) 76 6 (wr (((up h 80 (h 76 6).toNat p1) 76 6) + 1))) 76 6, (up (up h 80 (h 76 6).toNat p1) 76 6 (wr (((up h 80 (h 76 6).toNat p1) 76 6) + 1)))))))
def F_M_clear (h : MH) : Int × MH :=
  (h 76 6, (up h 76 6 0))
def F_M_signOf (p1 : Int) : Int :=
  if F_M_in p1 97 102 = 0 then (if p1 = 46 then (6) else (if p1 = 123 then (7) else (if p1 = 125 then (8) else ((-4))))) else (wr (p1 - 97))
def F_M_fault_L2 (h : MH) : Nat → Int → Option (Sum (Int) (Int))
  | 0, _ => none
  | n + 1, x1 => if x1 < h 76 6 then (jk1 (fun (u2 : Unit) => gd (0 ≤ x1 ∧ x1 < 40) (jk1 (fun (u6 : Unit) => F_M_fault_L2 h n (wr (x1 + 1))) (fun kj7 => if F_M_signOf (h 80 x1.toNat) = (-4) then (some (Sum.inl x1)) else (kj7 ())))) (fun kj3 => if x1 = 14 then (some (Sum.inl x1)) else (kj3 ()))) else (some (Sum.inr x1))
def F_M_fault (h : MH) : Option Int :=
  os (F_M_fault_L2 h FUEL 0) (fun (a : Int) => some a) (fun (q3 : Int) => some (-4))
def F_M_load_L42 (x1 : Int) : Nat → Int → MH → Option (Int × MH)
  | 0, _, _ => none
  | n + 1, x2, h => if x2 < h 76 6 then (gd (0 ≤ x2 ∧ x2 < 40) (gd (0 ≤ wr ((wr ((wr (15 * x1)) + 1)) + x2) ∧ wr ((wr ((wr (15 * x1)) + 1)) + x2) < 49) (F_M_load_L42 x1 n (wr (x2 + 1)) (up h 77 (wr ((wr ((wr (15 * x1)) + 1)) + x2)).toNat (F_M_signOf (h 80 x2.toNat)))))) else (some (x2, h))
def F_M_load (p1 : Int) (h : MH) : Option (Int × MH) :=
  if F_M_in p1 0 2 = 0 then (some ((-1), h)) else (ob1 (F_M_fault h) (fun (r2 : Int) => if r2 = (-4) then (ob1 (F_M_remembers h) (fun (h5 : MH) => gd (0 ≤ wr (15 * p1) ∧ wr (15 * p1) < 49) (ob2 (F_M_load_L42 p1 FUEL 0 (up h5 77 (wr (15 * p1)).toNat (h5 76 6))) (fun (x2_8 : Int) (h9 : MH) => ob1 (F_M_lines p1 (up h9 76 6 0)) (fun (r11 : Int) => some (r11, (up h9 76 6 0))))))) else (some ((-2), h))))
def F_M_edit_L202 (x1 : Int) (x6 : Int) : Nat → Int → MH → Option (Int × MH)
  | 0, _, _ => none
  | n + 1, x7, h => ob1 (F_M_lines x1 h) (fun (r1 : Int) => if x7 < r1 then (gd (0 ≤ wr ((wr (x6 + x7)) + 1) ∧ wr ((wr (x6 + x7)) + 1) < 49) (gd (0 ≤ wr (x6 + x7) ∧ wr (x6 + x7) < 49) (F_M_edit_L202 x1 x6 n (wr (x7 + 1)) (up h 77 (wr (x6 + x7)).toNat (h 77 (wr ((wr (x6 + x7)) + 1)).toNat))))) else (some (x7, h)))
def F_M_edit_L120 (x1 : Int) (x2 : Int) (x3 : Int) (x6 : Int) : Nat → Int → MH → Option (Int × MH)
  | 0, _, _ => none
  | n + 1, x7, h => if x7 ≤ x2 then (some (x7, h)) else (gd (0 ≤ wr ((wr (x6 + x7)) - 1) ∧ wr ((wr (x6 + x7)) - 1) < 49) (gd (0 ≤ wr (x6 + x7) ∧ wr (x6 + x7) < 49) (F_M_edit_L120 x1 x2 x3 x6 n (wr (x7 + (-1))) (up h 77 (wr (x6 + x7)).toNat (h 77 (wr ((wr (x6 + x7)) - 1)).toNat)))))
def F_M_edit (p1 : Int) (p2 : Int) (p3 : Int) (h : MH) : Option (Int × MH) :=
  jn1 (if F_M_in p3 0 8 = 0 then (if F_M_in p3 10 18 = 0 then (if p3 = 20 then (1) else (0)) else (1)) else (1)) (fun (s1 : Int) => if F_M_in p1 0 2 = 0 then (some ((-1), h)) else (if s1 = 0 then (some ((-1), h)) else (ob1 (F_M_lines p1 h) (fun (r8 : Int) => jn1 (if F_M_in p3 0 8 = 0 then (1) else (0)) (fun (s10 : Int) => if F_M_in p2 0 (wr (r8 - s10)) = 0 then (some ((-1), h)) else (if F_M_in p3 0 8 = 0 then (ob1 (F_M_remembers h) (fun (h15 : MH) => jk1 (fun (h17 : MH) => ob1 (F_M_lines p1 h17) (fun (r35 : Int) => some (r35, h17))) (fun kj18 => if F_M_in p3 0 8 = 0 then (if p3 = 20 then (gd (0 ≤ wr (15 * p1) ∧ wr (15 * p1) < 49) (gd (0 ≤ wr (15 * p1) ∧ wr (15 * p1) < 49) (ob2 (F_M_edit_L202 p1 (wr ((wr (15 * p1)) + 1)) FUEL p2 (up h15 77 (wr (15 * p1)).toNat (wr ((h15 77 (wr (15 * p1)).toNat) - 1)))) (fun (x7_23 : Int) (h24 : MH) => kj18 h24)))) else (gd (0 ≤ wr ((wr ((wr (15 * p1)) + 1)) + p2) ∧ wr ((wr ((wr (15 * p1)) + 1)) + p2) < 49) (kj18 (up h15 77 (wr ((wr ((wr (15 * p1)) + 1)) + p2)).toNat (wr (p3 - 10)))))) else (ob1 (F_M_lines p1 h15) (fun (r27 : Int) => ob2 (F_M_edit_L120 p1 p2 p3 (wr ((wr (15 * p1)) + 1)) FUEL r27 h15) (fun (x7_29 : Int) (h30 : MH) => gd (0 ≤ wr (15 * p1) ∧ wr (15 * p1) < 49) (gd (0 ≤ wr (15 * p1) ∧ wr (15 * p1) < 49) (gd (0 ≤ wr ((wr ((wr (15 * p1)) + 1)) + p2) ∧ wr ((wr ((wr (15 * p1)) + 1)) + p2) < 49) (kj18 (up (up h30 77 (wr (15 * p1)).toNat (wr ((h30 77 (wr (15 * p1)).toNat) + 1))) 77 (wr ((wr ((wr (15 * p1)) + 1)) + p2)).toNat p3)))))))))) else (ob1 (F_M_lines p1 h) (fun (r38 : Int) => if r38 = 14 then (some ((-3), h)) else (ob1 (F_M_remembers h) (fun (h41 : MH) => jk1 (fun (h43 : MH) => ob1 (F_M_lines p1 h43) (fun (r61 : Int) => some (r61, h43))) (fun kj44 => if F_M_in p3 0 8 = 0 then (if p3 = 20 then (gd (0 ≤ wr (15 * p1) ∧ wr (15 * p1) < 49) (gd (0 ≤ wr (15 * p1) ∧ wr (15 * p1) < 49) (ob2 (F_M_edit_L202 p1 (wr ((wr (15 * p1)) + 1)) FUEL p2 (up h41 77 (wr (15 * p1)).toNat (wr ((h41 77 (wr (15 * p1)).toNat) - 1)))) (fun (x7_49 : Int) (h50 : MH) => kj44 h50)))) else (gd (0 ≤ wr ((wr ((wr (15 * p1)) + 1)) + p2) ∧ wr ((wr ((wr (15 * p1)) + 1)) + p2) < 49) (kj44 (up h41 77 (wr ((wr ((wr (15 * p1)) + 1)) + p2)).toNat (wr (p3 - 10)))))) else (ob1 (F_M_lines p1 h41) (fun (r53 : Int) => ob2 (F_M_edit_L120 p1 p2 p3 (wr ((wr (15 * p1)) + 1)) FUEL r53 h41) (fun (x7_55 : Int) (h56 : MH) => gd (0 ≤ wr (15 * p1) ∧ wr (15 * p1) < 49) (gd (0 ≤ wr (15 * p1) ∧ wr (15 * p1) < 49) (gd (0 ≤ wr ((wr ((wr (15 * p1)) + 1)) + p2) ∧ wr ((wr ((wr (15 * p1)) + 1)) + p2) < 49) (kj44 (up (up h56 77 (wr (15 * p1)).toNat (wr ((h56 77 (wr (15 * p1)).toNat) + 1))) 77 (wr ((wr ((wr (15 * p1)) + 1)) + p2)).toNat p3))))))))))))))))))
def F_M_swap_L31 (x1 : Int) (x2 : Int) : Nat → Int → MH → Option (Int × MH)
  | 0, _, _ => none
  | n + 1, x3, h => if x3 < 15 then (gd (0 ≤ wr ((wr (15 * x1)) + x3) ∧ wr ((wr (15 * x1)) + x3) < 49) (gd (0 ≤ wr ((wr (15 * x2)) + x3) ∧ wr ((wr (15 * x2)) + x3) < 49) (gd (0 ≤ wr ((wr (15 * x1)) + x3) ∧ wr ((wr (15 * x1)) + x3) < 49) (gd (0 ≤ wr ((wr (15 * x2)) + x3) ∧ wr ((wr (15 * x2)) + x3) < 49) (F_M_swap_L31 x1 x2 n (wr (x3 + 1)) (up (up h 77 (wr ((wr (15 * x1)) + x3)).toNat (h 77 (wr ((wr (15 * x2)) + x3)).toNat)) 77 (wr ((wr (15 * x2)) + x3)).toNat (h 77 (wr ((wr (15 * x1)) + x3)).toNat))))))) else (some (x3, h))
def F_M_swap (p1 : Int) (p2 : Int) (h : MH) : Option (Int × MH) :=
  if F_M_in p1 0 2 = 0 then (some ((-1), h)) else (if F_M_in p2 0 2 = 0 then (some ((-1), h)) else (if p1 = p2 then (some ((-1), h)) else (ob1 (F_M_remembers h) (fun (h4 : MH) => ob2 (F_M_swap_L31 p1 p2 FUEL 0 h4) (fun (x3_6 : Int) (h7 : MH) => ob2 (F_M_counts h7) (fun (r9 : Int) (h10 : MH) => some (r9, h10)))))))
def F_M_set (p1 : Int) (p2 : Int) (h : MH) : Option (Int × MH) :=
  if F_M_in p1 0 1 = 0 then (some ((-1), h)) else (jn1 (if p1 = 0 then (3) else (1)) (fun (s2 : Int) => if F_M_in p2 0 s2 = 0 then (some ((-1), h)) else (ob1 (F_M_remembers h) (fun (h6 : MH) => gd (0 ≤ wr (45 + p1) ∧ wr (45 + p1) < 49) (gd (0 ≤ wr (45 + p1) ∧ wr (45 + p1) < 49) (some (h6 77 (wr (45 + p1)).toNat, (up h6 77 (wr (45 + p1)).toNat p2))))))))
def F_M_lay_L44 (x2 : Int) : Nat → Int → MH → Option (Int × MH)
  | 0, _, _ => none
  | n + 1, x3, h => if x3 < h 76 13 then (gd (0 ≤ x3 ∧ x3 < 60) (gd (0 ≤ wr (31 + x3) ∧ wr (31 + x3) < 49) (F_M_lay_L44 x2 n (wr (x3 + 1)) (up h 77 (wr (31 + x3)).toNat (h 84 x3.toNat))))) else (some (x3, h))
def F_M_lay (p1 : Int) (h : MH) : Option (Int × MH) :=
  ob1 (F_M_views h) (fun (h1 : MH) => ob2 (F_M_lays p1 (h1 77 45) h1) (fun (r3 : Int) (h4 : MH) => if h4 76 16 = 0 then (ob1 (F_M_remembers h4) (fun (h7 : MH) => ob2 (F_M_lay_L44 r3 FUEL 0 (up h7 77 30 (h7 76 13))) (fun (x3_9 : Int) (h10 : MH) => ob1 (F_M_hunks (up h10 77 47 (wr ((h10 77 47) + r3)))) (fun (r12 : Int) => some (r3, (up (up h10 77 47 (wr ((h10 77 47) + r3))) 77 48 (wr (((up h10 77 47 (wr ((h10 77 47) + r3))) 77 48) + (wr (r12 - r3)))))))))) else (some ((-3), h4))))
def F_M_line (p1 : Int) (p2 : Int) (h : MH) : Option Int :=
  if F_M_in p1 0 2 = 0 then (some (-1)) else (if p2 < 0 then (some (-1)) else (ob1 (F_M_lines p1 h) (fun (r3 : Int) => if p2 < r3 then (ob1 (F_M_lineOf p1 p2 h) (fun (r6 : Int) => some r6)) else (some (-4)))))
def F_M_byDiagonals_L21 (x1 : Int) (x2 : Int) : Nat → Int → MH → Option (Int × MH)
  | 0, _, _ => none
  | n + 1, x3, h => ob1 (F_M_lines 1 h) (fun (r1 : Int) => if x3 ≤ r1 then (jn1 (if x2 = 0 then (if x3 = 0 then (1) else (0)) else (0)) (fun (s4 : Int) => jk1 (fun (s8 : Int) => jk1 (fun (s20 : Int) => jk1 (fun (s32 : Int) => jn1 (if s32 ≤ x1 then (s32) else (if s20 = 0 then (99) else (x1))) (fun (s36 : Int) => gd (0 ≤ wr ((wr (15 * x2)) + x3) ∧ wr ((wr (15 * x2)) + x3) < 225) (F_M_byDiagonals_L21 x1 x2 n (wr (x3 + 1)) (up h 81 (wr ((wr (15 * x2)) + x3)).toNat s36)))) (fun kj33 => if x1 = 0 then (kj33 99) else (gd (0 ≤ wr ((wr (15 * x2)) + x3) ∧ wr ((wr (15 * x2)) + x3) < 225) (kj33 (h 81 (wr ((wr (15 * x2)) + x3)).toNat))))) (fun kj21 => if s8 = 0 then (if x2 ≤ 0 then (kj21 0) else (if x3 ≤ 0 then (kj21 0) else (ob1 (F_M_lineOf 0 (wr (x2 - 1)) h) (fun (r25 : Int) => ob1 (F_M_lineOf 1 (wr (x3 - 1)) h) (fun (r27 : Int) => if r25 = r27 then (gd (0 ≤ wr ((wr ((wr (15 * x2)) - 16)) + x3) ∧ wr ((wr ((wr (15 * x2)) - 16)) + x3) < 225) (if h 81 (wr ((wr ((wr (15 * x2)) - 16)) + x3)).toNat ≤ x1 then (kj21 1) else (kj21 0))) else (kj21 0)))))) else (kj21 1))) (fun kj9 => if s4 = 0 then (if x2 ≤ 0 then (if x3 ≤ 0 then (kj9 0) else (gd (0 ≤ wr ((wr ((wr (15 * x2)) + x3)) - 1) ∧ wr ((wr ((wr (15 * x2)) + x3)) - 1) < 225) (if h 81 (wr ((wr ((wr (15 * x2)) + x3)) - 1)).toNat < x1 then (kj9 1) else (kj9 0)))) else (gd (0 ≤ wr ((wr ((wr (15 * x2)) - 15)) + x3) ∧ wr ((wr ((wr (15 * x2)) - 15)) + x3) < 225) (if h 81 (wr ((wr ((wr (15 * x2)) - 15)) + x3)).toNat < x1 then (kj9 1) else (if x3 ≤ 0 then (kj9 0) else (gd (0 ≤ wr ((wr ((wr (15 * x2)) + x3)) - 1) ∧ wr ((wr ((wr (15 * x2)) + x3)) - 1) < 225) (if h 81 (wr ((wr ((wr (15 * x2)) + x3)) - 1)).toNat < x1 then (kj9 1) else (kj9 0))))))) else (kj9 1)))) else (some (x3, h)))
def F_M_byDiagonals_L10 (x1 : Int) : Nat → Int → MH → Option (Int × MH)
  | 0, _, _ => none
  | n + 1, x2, h => ob1 (F_M_lines 0 h) (fun (r1 : Int) => if x2 ≤ r1 then (ob2 (F_M_byDiagonals_L21 x1 x2 FUEL 0 h) (fun (x3_4 : Int) (h5 : MH) => F_M_byDiagonals_L10 x1 n (wr (x2 + 1)) h5)) else (some (x2, h)))
def F_M_byDiagonals_L2  : Nat → Int → MH → Option (Sum (Int × MH) (Int × MH))
  | 0, _, _ => none
  | n + 1, x1, h => if x1 ≤ 28 then (ob2 (F_M_byDiagonals_L10 x1 FUEL 0 h) (fun (x2_2 : Int) (h3 : MH) => ob1 (F_M_lines 0 h3) (fun (r5 : Int) => ob1 (F_M_lines 1 h3) (fun (r7 : Int) => gd (0 ≤ wr ((wr (15 * r5)) + r7) ∧ wr ((wr (15 * r5)) + r7) < 225) (jk1 (fun (u10 : Unit) => F_M_byDiagonals_L2  n (wr (x1 + 1)) h3) (fun kj11 => if h3 81 (wr ((wr (15 * r5)) + r7)).toNat ≤ x1 then (some (Sum.inl (x1, h3))) else (kj11 ()))))))) else (some (Sum.inr (x1, h)))
def F_M_byDiagonals (h : MH) : Option (Int × MH) :=
  os (F_M_byDiagonals_L2 FUEL 0 h) (fun (a : Int × MH) => some a) (fun (q4 : Int × MH) => some ((-4), q4.2))
def F_M_distance (p1 : Int) (h : MH) : Option (Int × MH) :=
  if p1 = 0 then (ob2 (F_M_counts h) (fun (r2 : Int) (h3 : MH) => some (r2, h3))) else (if p1 = 1 then (ob2 (F_M_byDiagonals h) (fun (r6 : Int) (h7 : MH) => some (r6, h7))) else (some ((-1), h)))
def F_M_hunkAt_L4 (x1 : Int) (h : MH) : Nat → Int → Int → Option (Int × Int)
  | 0, _, _ => none
  | n + 1, x2, x3 => if x3 ≤ x1 then (ob1 (F_M_begins x3 h) (fun (r2 : Int) => jn1 (if r2 = 0 then (0) else (1)) (fun (s4 : Int) => F_M_hunkAt_L4 x1 h n (wr (x2 + s4)) (wr (x3 + 1))))) else (some (x2, x3))
def F_M_hunkAt (p1 : Int) (h : MH) : Option Int :=
  ob2 (F_M_hunkAt_L4 p1 h FUEL 0 0) (fun (x2_1 : Int) (x3_2 : Int) => gd (0 ≤ p1 ∧ p1 < 28) (if h 83 p1.toNat = 0 then (some (-4)) else (some (wr (x2_1 - 1)))))
def F_M_view (p1 : Int) (p2 : Int) (h : MH) : Option (Int × MH) :=
  if p1 < 0 then (some ((-1), h)) else (if F_M_in p2 0 4 = 0 then (some ((-1), h)) else (ob1 (F_M_views h) (fun (h3 : MH) => if p1 < h3 76 11 then (if p2 = 0 then (gd (0 ≤ p1 ∧ p1 < 28) (some (h3 83 p1.toNat, h3))) else (if p2 = 1 then (gd (0 ≤ p1 ∧ p1 < 28) (some (h3 82 p1.toNat, h3))) else (if p2 = 2 then (gd (0 ≤ p1 ∧ p1 < 28) (if h3 83 p1.toNat = 2 then (some ((-4), h3)) else (ob1 (F_M_linesBut 0 p1 2 h3) (fun (r13 : Int) => some (r13, h3))))) else (if p2 = 3 then (gd (0 ≤ p1 ∧ p1 < 28) (if h3 83 p1.toNat = 1 then (some ((-4), h3)) else (ob1 (F_M_linesBut 0 p1 1 h3) (fun (r18 : Int) => some (r18, h3))))) else (ob1 (F_M_hunkAt p1 h3) (fun (r20 : Int) => some (r20, h3))))))) else (some ((-4), h3)))))
def F_M_hunk (p1 : Int) (p2 : Int) (h : MH) : Option (Int × MH) :=
  ob1 (F_M_views h) (fun (h1 : MH) => ob1 (F_M_hunks h1) (fun (r3 : Int) => if F_M_in p1 0 (wr (r3 - 1)) = 0 then (some ((-1), h1)) else (ob1 (F_M_start p1 h1) (fun (r6 : Int) => if p2 = 0 then (some (r6, h1)) else (if p2 = 1 then (ob1 (F_M_marked r6 p2 h1) (fun (r10 : Int) => some (r10, h1))) else (if p2 = 2 then (ob1 (F_M_marked r6 p2 h1) (fun (r13 : Int) => some (r13, h1))) else (if p2 = 3 then (ob1 (F_M_isPlain r6 h1) (fun (r16 : Int) => if r16 = 0 then (some (0, h1)) else (some (1, h1)))) else (if p2 = 4 then (jn1 (if p2 = 5 then (1) else (0)) (fun (s20 : Int) => ob1 (F_M_slides r6 s20 h1) (fun (r23 : Int) => some (r23, h1)))) else (if p2 = 5 then (jn1 (if p2 = 5 then (1) else (0)) (fun (s27 : Int) => ob1 (F_M_slides r6 s27 h1) (fun (r30 : Int) => some (r30, h1)))) else (if p2 = 6 then (ob1 (F_M_size r6 h1) (fun (r34 : Int) => ob1 (F_M_worth r6 r34 h1) (fun (r36 : Int) => some (r36, h1)))) else (if p2 = 7 then (ob1 (F_M_bestPlace r6 h1) (fun (r39 : Int) => ob1 (F_M_size r6 h1) (fun (r41 : Int) => ob1 (F_M_worth r39 r41 h1) (fun (r43 : Int) => some (r43, h1))))) else (if p2 = 8 then (jn1 (if p2 = 9 then (1) else (0)) (fun (s46 : Int) => ob1 (F_M_around r6 s46 (h1 77 45) h1) (fun (r49 : Int) => some (r49, h1)))) else (if p2 = 9 then (jn1 (if p2 = 9 then (1) else (0)) (fun (s53 : Int) => ob1 (F_M_around r6 s53 (h1 77 45) h1) (fun (r56 : Int) => some (r56, h1)))) else (some ((-1), h1)))))))))))))))
def F_M_whyNot (p1 : Int) (p2 : Int) (h : MH) : Option (Int × MH) :=
  ob1 (F_M_views h) (fun (h1 : MH) => ob1 (F_M_hunks h1) (fun (r3 : Int) => if F_M_in p1 0 (wr (r3 - 1)) = 0 then (some ((-1), h1)) else (ob1 (F_M_start p1 h1) (fun (r6 : Int) => ob1 (F_M_isPlain r6 h1) (fun (r8 : Int) => if r8 = 0 then (some (1, h1)) else (ob1 (F_M_size r6 h1) (fun (r11 : Int) => ob1 (F_M_whyNotFrom r6 r11 p2 h1) (fun (r13 : Int) => some (r13, h1)))))))))
def F_M_linesOf_L4 (x1 : Int) (h : MH) : Nat → Int → Int → Option (Int × Int)
  | 0, _, _ => none
  | n + 1, x2, x3 => if x3 < h 76 11 then (gd (0 ≤ x3 ∧ x3 < 28) (jn1 (if h 83 x3.toNat = x1 then (1) else (0)) (fun (s3 : Int) => F_M_linesOf_L4 x1 h n (wr (x2 + s3)) (wr (x3 + 1))))) else (some (x2, x3))
def F_M_linesOf (p1 : Int) (h : MH) : Option Int :=
  ob2 (F_M_linesOf_L4 p1 h FUEL 0 0) (fun (x2_1 : Int) (x3_2 : Int) => some x2_1)
def F_M_ofHunks_L4 (x1 : Int) (h : MH) : Nat → Int → Int → Option (Int × Int)
  | 0, _, _ => none
  | n + 1, x2, x3 => ob1 (F_M_hunks h) (fun (r1 : Int) => if x3 < r1 then (ob1 (F_M_start x3 h) (fun (r4 : Int) => ob1 (F_M_slides r4 1 h) (fun (r6 : Int) => ob1 (F_M_slides r4 0 h) (fun (r8 : Int) => jn1 (if wr (r6 + r8) ≤ 0 then (0) else (1)) (fun (s10 : Int) => jk1 (fun (s13 : Int) => F_M_ofHunks_L4 x1 h n (wr (x2 + s13)) (wr (x3 + 1))) (fun kj14 => if x1 = 10 then (ob1 (F_M_size r4 h) (fun (r16 : Int) => ob1 (F_M_worth r4 r16 h) (fun (r18 : Int) => kj14 r18))) else (if x1 = 9 then (if s10 = 0 then (kj14 0) else (kj14 1)) else (ob1 (F_M_isPlain r4 h) (fun (r22 : Int) => if r22 = 0 then (kj14 0) else (kj14 1)))))))))) else (some (x2, x3)))
def F_M_ofHunks (p1 : Int) (h : MH) : Option Int :=
  ob2 (F_M_ofHunks_L4 p1 h FUEL 0 0) (fun (x2_1 : Int) (x3_2 : Int) => some x2_1)
def F_M_longestKept_L6 (h : MH) : Nat → Int → Int → Int → Option (Int × Int × Int)
  | 0, _, _, _ => none
  | n + 1, x1, x2, x3 => if x3 < h 76 11 then (gd (0 ≤ x3 ∧ x3 < 28) (jn1 (if h 83 x3.toNat = 0 then ((wr (x2 + 1))) else (0)) (fun (s3 : Int) => jn1 (if s3 ≤ x1 then (x1) else (s3)) (fun (s6 : Int) => F_M_longestKept_L6 h n s6 s3 (wr (x3 + 1)))))) else (some (x1, x2, x3))
def F_M_longestKept (h : MH) : Option Int :=
  ob3 (F_M_longestKept_L6 h FUEL 0 0 0) (fun (x1_1 : Int) (x2_2 : Int) (x3_3 : Int) => some x1_1)
def F_M_count (p1 : Int) (h : MH) : Option (Int × MH) :=
  ob1 (F_M_views h) (fun (h1 : MH) => if p1 = 0 then (ob1 (F_M_lines p1 h1) (fun (r4 : Int) => some (r4, h1))) else (if p1 = 1 then (ob1 (F_M_lines p1 h1) (fun (r7 : Int) => some (r7, h1))) else (if p1 = 2 then (ob1 (F_M_lines p1 h1) (fun (r10 : Int) => some (r10, h1))) else (if p1 = 3 then (some (h1 76 11, h1)) else (if p1 = 4 then (ob1 (F_M_linesOf (wr (p1 - 4)) h1) (fun (r14 : Int) => some (r14, h1))) else (if p1 = 5 then (ob1 (F_M_linesOf (wr (p1 - 4)) h1) (fun (r17 : Int) => some (r17, h1))) else (if p1 = 6 then (ob1 (F_M_linesOf (wr (p1 - 4)) h1) (fun (r20 : Int) => some (r20, h1))) else (if p1 = 7 then (ob1 (F_M_hunks h1) (fun (r23 : Int) => some (r23, h1))) else (if p1 = 8 then (ob1 (F_M_ofHunks p1 h1) (fun (r26 : Int) => some (r26, h1))) else (if p1 = 9 then (ob1 (F_M_ofHunks p1 h1) (fun (r29 : Int) => some (r29, h1))) else (if p1 = 10 then (ob1 (F_M_ofHunks p1 h1) (fun (r32 : Int) => some (r32, h1))) else (if p1 = 11 then (ob1 (F_M_longestKept h1) (fun (r35 : Int) => some (r35, h1))) else (if p1 = 12 then (gd (0 ≤ wr ((wr (47 + p1)) - 12) ∧ wr ((wr (47 + p1)) - 12) < 49) (some (h1 77 (wr ((wr (47 + p1)) - 12)).toNat, h1))) else (if p1 = 13 then (gd (0 ≤ wr ((wr (47 + p1)) - 12) ∧ wr ((wr (47 + p1)) - 12) < 49) (some (h1 77 (wr ((wr (47 + p1)) - 12)).toNat, h1))) else (if p1 = 14 then (gd (0 ≤ wr ((wr (45 + p1)) - 14) ∧ wr ((wr (45 + p1)) - 14) < 49) (some (h1 77 (wr ((wr (45 + p1)) - 14)).toNat, h1))) else (if p1 = 15 then (gd (0 ≤ wr ((wr (45 + p1)) - 14) ∧ wr ((wr (45 + p1)) - 14) < 49) (some (h1 77 (wr ((wr (45 + p1)) - 14)).toNat, h1))) else (if p1 = 16 then (some (h1 76 6, h1)) else (if p1 = 17 then (some (h1 76 2, h1)) else (some ((-1), h1))))))))))))))))))))
def F_M_alike (h : MH) : Option (UInt64 × MH) :=
  ob2 (F_M_counts h) (fun (r1 : Int) (h2 : MH) => ob1 (F_M_lines 0 h2) (fun (r4 : Int) => ob1 (F_M_lines 1 h2) (fun (r6 : Int) => if wr (r4 + r6) = 0 then (some (FP.dconst1, h2)) else (gd (FP.dmul (FP.i2d (Int32.ofInt (wr (2 * (h2 81 0))))) FP.dconst1 &&& 0x7fffffffffffffff ≤ 0x7ff0000000000000) (gd (FP.ddiv (FP.dmul (FP.i2d (Int32.ofInt (wr (2 * (h2 81 0))))) FP.dconst1) (FP.i2d (Int32.ofInt (wr (r4 + r6)))) &&& 0x7fffffffffffffff ≤ 0x7ff0000000000000) (some (FP.ddiv (FP.dmul (FP.i2d (Int32.ofInt (wr (2 * (h2 81 0))))) FP.dconst1) (FP.i2d (Int32.ofInt (wr (r4 + r6)))), h2)))))))
def F_M_ifLaid (p1 : Int) (p2 : Int) (p3 : Int) (h : MH) : Option (Int × MH) :=
  ob1 (F_M_views h) (fun (h1 : MH) => ob1 (F_M_hunks h1) (fun (r3 : Int) => if F_M_in p1 0 (wr (r3 - 1)) = 0 then (some ((-1), h1)) else (if F_M_in p3 0 1 = 0 then (some ((-1), h1)) else (ob2 (F_M_lays p2 (h1 77 45) h1) (fun (r7 : Int) (h8 : MH) => gd (0 ≤ p1 ∧ p1 < 28) (if h8 85 p1.toNat = (-4) then (some ((-4), h8)) else (if p3 = 0 then (gd (0 ≤ p1 ∧ p1 < 28) (some (h8 85 p1.toNat, h8))) else (gd (0 ≤ p1 ∧ p1 < 28) (some (wr ((h8 86 p1.toNat) + 100), h8))))))))))
def F_M_ifAround (p1 : Int) (h : MH) : Option (Int × MH) :=
  if F_M_in p1 0 3 = 0 then (some ((-1), h)) else (ob1 (F_M_views h) (fun (h2 : MH) => ob2 (F_M_lays 0 p1 h2) (fun (r4 : Int) (h5 : MH) => some (r4, h5))))
def F_M_least_L18  : Nat → Int → Int → Int → MH → Option (Int × Int × Int × MH)
  | 0, _, _, _, _ => none
  | n + 1, x1, x2, x3, h => ob1 (F_M_lines 0 h) (fun (r1 : Int) => if x3 < r1 then (ob2 (F_M_counts (up h 76 8 x3)) (fun (r4 : Int) (h5 : MH) => jn1 (if x1 = (-4) then (1) else (if r4 < x2 then (1) else (0))) (fun (s7 : Int) => jn1 (if s7 = 0 then (x1) else (x3)) (fun (s11 : Int) => jn1 (if s7 = 0 then (x2) else (r4)) (fun (s14 : Int) => F_M_least_L18  n s11 s14 (wr (x3 + 1)) h5))))) else (some (x1, x2, x3, h)))
def F_M_least (h : MH) : Option (Int × MH) :=
  ob1 (F_M_lines 0 h) (fun (r1 : Int) => if r1 = 0 then (some ((-2), h)) else (ob4 (F_M_least_L18 FUEL (-4) 0 0 h) (fun (x1_4 : Int) (x2_5 : Int) (x3_6 : Int) (h7 : MH) => some (x1_4, (up h7 76 8 (-4))))))
def F_M_undo_L22  : Nat → Int → MH → Option (Int × MH)
  | 0, _, _ => none
  | n + 1, x1, h => if x1 < 49 then (gd (0 ≤ wr ((wr (49 * (h 76 2))) + x1) ∧ wr ((wr (49 * (h 76 2))) + x1) < 196) (gd (0 ≤ x1 ∧ x1 < 49) (F_M_undo_L22  n (wr (x1 + 1)) (up h 77 x1.toNat (h 78 (wr ((wr (49 * (h 76 2))) + x1)).toNat))))) else (some (x1, h))
def F_M_undo (h : MH) : Option (Int × MH) :=
  if h 76 2 = 0 then (some ((-2), h)) else (ob2 (F_M_undo_L22 FUEL 0 (up h 76 2 (wr ((h 76 2) - 1)))) (fun (x1_2 : Int) (h3 : MH) => some (h3 76 2, h3)))
def F_M_save_L2  : Nat → Int → MH → Option (Int × MH)
  | 0, _, _ => none
  | n + 1, x1, h => if x1 < 49 then (gd (0 ≤ x1 ∧ x1 < 49) (gd (0 ≤ x1 ∧ x1 < 49) (F_M_save_L2  n (wr (x1 + 1)) (up h 79 x1.toNat (h 77 x1.toNat))))) else (some (x1, h))
def F_M_save (h : MH) : Option (Int × MH) :=
  ob2 (F_M_save_L2 FUEL 0 h) (fun (x1_1 : Int) (h2 : MH) => ob2 (F_M_counts (up h2 76 4 1)) (fun (r4 : Int) (h5 : MH) => some (r4, h5)))
def F_M_restore_L16  : Nat → Int → MH → Option (Int × MH)
  | 0, _, _ => none
  | n + 1, x1, h => if x1 < 49 then (gd (0 ≤ x1 ∧ x1 < 49) (gd (0 ≤ x1 ∧ x1 < 49) (F_M_restore_L16  n (wr (x1 + 1)) (up h 77 x1.toNat (h 79 x1.toNat))))) else (some (x1, h))
def F_M_restore (h : MH) : Option (Int × MH) :=
  if h 76 4 = 0 then (some ((-2), h)) else (ob1 (F_M_remembers h) (fun (h2 : MH) => ob2 (F_M_restore_L16 FUEL 0 h2) (fun (x1_4 : Int) (h5 : MH) => ob2 (F_M_counts h5) (fun (r7 : Int) (h8 : MH) => some (r7, h8)))))
theorem kd_St_text {o : Nat} {p1 : Int} (ks : kd o = 6) : kd (F_St_text o p1) = 5 := by
  unfold F_St_text
  split
  · exact kt_6_0 ks
  · split
    · exact kt_6_1 ks
    · exact kt_6_2 ks
theorem kd_Hi_slot (p1 : Int) : ∀ i, F_Hi_slot p1 = some i → kd i = 6 := by
  intro i hi
  unfold F_Hi_slot at hi
  by_cases h0 : p1 < 0
  · rw [if_pos h0] at hi; cases hi
  · rw [if_neg h0] at hi
    by_cases h1 : p1 < 4
    · rw [if_pos h1] at hi
      cases hi
      have key : ∀ n, n < 4 → kd (rf 18 n) = 6 := by decide
      exact key _ (by omega)
    · rw [if_neg h1] at hi; cases hi
end
section
theorem T_S_length (h : MH) : CON 1 yJ0_length_8abf5 cJ0_length_8abf5 1 (some .int) [vR 101] h (some (vI sg_length)) h := sorry
theorem T_S_indexOf (c : Int) (h : MH) : CON 3 yJ0_indexOf_0f7a4 cJ0_indexOf_0f7a4 2 (some .int) [vR 101, vI c] h (some (vI (sg_indexOf c))) h := sorry
end
section
set_option maxHeartbeats 4000000 in
set_option maxRecDepth 100000 in
theorem T_Ro_size {o : Nat} {h : MH} {r : Int} (ko : kd o = 5) (hF : F_Ro_size o h = r) : CON 0 yX3_size cX3_size 1 (Option.some Jvm.ClassFile.FieldType.int) [vR o] h (some (vI r)) h := by
  refine con_of (own := RX3) (fl := flX3) (by decide +kernel) rfl flok_X3 rfl (Nat.le_of_ble_eq_true rfl) ?_
  intro K hK hR
  show K 0 [(0, vR o)] [] h
  unfold F_Ro_size at hF
  refine g_seg hK [.aload_n 0, .getfield 7] 0 4 (L1 := [(0, vR o)]) (st1 := [vI (h o 1)]) (h1 := h) (P := True ∧ kd o = 5 ∧ True) (by decide +kernel) rfl rfl ⟨trivial, ko, trivial⟩ ?_
  cases hF
  exact hR.1 4 _ _ _ (by decide +kernel) rfl ⟨rfl, rfl⟩
set_option maxHeartbeats 4000000 in
set_option maxRecDepth 100000 in
theorem T_Ro_add {o : Nat} {p1 : Int} {h : MH} {h' : MH} (ko : kd o = 5) (hF : F_Ro_add o p1 h = h') : CON 0 yX3_add cX3_add 2 none [vR o, vI p1] h none h' := by
  refine con_of (own := RX3) (fl := flX3) (by decide +kernel) rfl flok_X3 rfl (Nat.le_of_ble_eq_true rfl) ?_
  intro K hK hR
  show K 0 [(0, vR o), (1, vI p1)] [] h
  unfold F_Ro_add at hF
  refine g_seg hK [.aload_n 0, .getfield 7] 0 4 (L1 := [(0, vR o), (1, vI p1)]) (st1 := [vI (h o 1)]) (h1 := h) (P := True ∧ kd o = 5 ∧ True) (by decide +kernel) rfl rfl ⟨trivial, ko, trivial⟩ ?_
  refine g_ifz hK 4 .lt (35) 39 (t1 := 39) (t2 := 7) (by decide +kernel) (by decide) rfl rfl (fun (hc1 : h o 1 < 0) => ?_) (fun (hc1 : ¬ (h o 1 < 0)) => ?_)
  · have hF := ite_t hc1 hF
    cases hF
    exact hR.2.2.2.2 39 _ _ (by decide +kernel) rfl ⟨rfl, rfl⟩
  · have hF := ite_f hc1 hF
    refine g_seg hK [.aload_n 0, .getfield 7, .aload_n 0, .getfield 13, .arraylength] 7 16 (L1 := [(0, vR o), (1, vI p1)]) (st1 := [vI (al (rf o 0) : Int), vI (h o 1)]) (h1 := h) (P := True ∧ kd o = 5 ∧ True ∧ kd o = 5 ∧ kd (rf o 0) ≤ 1 ∧ True) (by decide +kernel) rfl rfl ⟨trivial, ko, trivial, ko, (by rw [show kd (rf o 0) = 0 from (kt_5_0 ko)]; decide), trivial⟩ ?_
    refine g_icmp hK 16 .ge (23) 39 (t1 := 19) (t2 := 39) (by decide +kernel) (by decide) rfl rfl (fun (hc2 : h o 1 < (al (rf o 0) : Int)) => ?_) (fun (hc2 : ¬ (h o 1 < (al (rf o 0) : Int))) => ?_)
    · have hF := ite_t hc2 hF
      refine g_seg hK [.aload_n 0, .getfield 13, .aload_n 0, .getfield 7, .iload_n 1, .iastore, .aload_n 0, .dup, .getfield 7, .iconst 1, .iadd, .putfield 7] 19 39 (L1 := [(0, vR o), (1, vI p1)]) (st1 := []) (h1 := (up (up h (rf o 0) (h o 1).toNat p1) o 1 (wr (((up h (rf o 0) (h o 1).toNat p1) o 1) + 1)))) (P := True ∧ kd o = 5 ∧ True ∧ kd o = 5 ∧ True ∧ (kd (rf o 0) = 0 ∧ 0 ≤ h o 1 ∧ h o 1 < (al (rf o 0) : Int)) ∧ True ∧ True ∧ kd o = 5 ∧ True ∧ True ∧ kd o = 5 ∧ True) (by decide +kernel) rfl rfl ⟨trivial, ko, trivial, ko, trivial, ⟨(kt_5_0 ko), ⟨(by omega), hc2⟩⟩, trivial, trivial, ko, trivial, trivial, ko, trivial⟩ ?_
      cases hF
      exact hR.2.2.2.2 39 _ _ (by decide +kernel) rfl ⟨rfl, rfl⟩
    · have hF := ite_f hc2 hF
      cases hF
      exact hR.2.2.2.2 39 _ _ (by decide +kernel) rfl ⟨rfl, rfl⟩
set_option maxHeartbeats 4000000 in
set_option maxRecDepth 100000 in
theorem T_X_append {p1 : Int} {h : MH} {r : Int} {h' : MH} (hF : F_X_append p1 h = (r, h')) : CON 1 yX6_append cX6_append 2 (Option.some Jvm.ClassFile.FieldType.int) [vR 0, vI p1] h (some (vI r)) h' := by
  refine con_of (own := RX6) (fl := flX6) (by decide +kernel) rfl flok_X6 rfl (Nat.le_of_ble_eq_true rfl) ?_
  intro K hK hR
  show K 0 [(0, vR 0), (1, vI p1)] [] h
  unfold F_X_append at hF
  refine g_seg hK [.iload_n 1, .bipush 33] 0 3 (L1 := [(0, vR 0), (1, vI p1)]) (st1 := [vI 33, vI p1]) (h1 := h) (P := True ∧ True ∧ True) (by decide +kernel) rfl rfl ⟨trivial, trivial, trivial⟩ ?_
  refine g_icmp hK 3 .lt (9) 12 (t1 := 12) (t2 := 6) (by decide +kernel) (by decide) rfl rfl (fun (hc1 : p1 < 33) => ?_) (fun (hc1 : ¬ (p1 < 33)) => ?_)
  · have hF := ite_t hc1 hF
    refine g_seg hK [.iconst (-1)] 12 13 (L1 := [(0, vR 0), (1, vI p1)]) (st1 := [vI (-1)]) (h1 := h) (P := True ∧ True) (by decide +kernel) rfl rfl ⟨trivial, trivial⟩ ?_
    cases hF
    exact hR.1 13 _ _ _ (by decide +kernel) rfl ⟨rfl, rfl⟩
  · have hF := ite_f hc1 hF
    refine g_seg hK [.iload_n 1, .bipush 126] 6 9 (L1 := [(0, vR 0), (1, vI p1)]) (st1 := [vI 126, vI p1]) (h1 := h) (P := True ∧ True ∧ True) (by decide +kernel) rfl rfl ⟨trivial, trivial, trivial⟩ ?_
    refine g_icmp hK 9 .le (5) 14 (t1 := 14) (t2 := 12) (by decide +kernel) (by decide) rfl rfl (fun (hc2 : p1 ≤ 126) => ?_) (fun (hc2 : ¬ (p1 ≤ 126)) => ?_)
    · have hF := ite_t hc2 hF
      refine g_seg hK [.aload_n 0, .getfield 14] 14 18 (L1 := [(0, vR 0), (1, vI p1)]) (st1 := [vR 1]) (h1 := h) (P := True ∧ kd 0 = 8 ∧ True) (by decide +kernel) rfl rfl ⟨trivial, rfl, trivial⟩ ?_
      refine g_callV1 hK 18 63 (d1 := 0) (ci := 3) (i := 1) (vs := []) (rest := []) (h1 := h) (r := vI (F_Ro_size 1 h)) my_yX3_size vw_X6_63 (by decide) (T_Ro_size (o := 1) (h := h) (ko := rfl) (hF := rfl)) rfl rfl rfl (Nat.le_of_ble_eq_true rfl) (by decide +kernel) ?_
      refine g_seg hK [.bipush 40] 21 23 (L1 := [(0, vR 0), (1, vI p1)]) (st1 := [vI 40, vI (F_Ro_size 1 h)]) (h1 := h) (P := True ∧ True) (by decide +kernel) rfl rfl ⟨trivial, trivial⟩ ?_
      refine g_icmp hK 23 .lt (6) 29 (t1 := 29) (t2 := 26) (by decide +kernel) (by decide) rfl rfl (fun (hc3 : F_Ro_size 1 h < 40) => ?_) (fun (hc3 : ¬ (F_Ro_size 1 h < 40)) => ?_)
      · have hF := ite_t hc3 hF
        refine g_seg hK [.aload_n 0, .getfield 14, .iload_n 1] 29 34 (L1 := [(0, vR 0), (1, vI p1)]) (st1 := [vI p1, vR 1]) (h1 := h) (P := True ∧ kd 0 = 8 ∧ True ∧ True) (by decide +kernel) rfl rfl ⟨trivial, rfl, trivial, trivial⟩ ?_
        refine g_callV0 hK 34 67 (d1 := 0) (ci := 3) (i := 1) (vs := [vI p1]) (rest := []) (h1 := (F_Ro_add 1 p1 h)) my_yX3_add vw_X6_67 (by decide) (T_Ro_add (o := 1) (p1 := p1) (h := h) (ko := rfl) (hF := rfl)) rfl rfl rfl (Nat.le_of_ble_eq_true rfl) (by decide +kernel) ?_
        refine g_seg hK [.aload_n 0, .getfield 14] 37 41 (L1 := [(0, vR 0), (1, vI p1)]) (st1 := [vR 1]) (h1 := (F_Ro_add 1 p1 h)) (P := True ∧ kd 0 = 8 ∧ True) (by decide +kernel) rfl rfl ⟨trivial, rfl, trivial⟩ ?_
        refine g_callV1 hK 41 63 (d1 := 0) (ci := 3) (i := 1) (vs := []) (rest := []) (h1 := (F_Ro_add 1 p1 h)) (r := vI (F_Ro_size 1 (F_Ro_add 1 p1 h))) my_yX3_size vw_X6_63 (by decide) (T_Ro_size (o := 1) (h := (F_Ro_add 1 p1 h)) (ko := rfl) (hF := rfl)) rfl rfl rfl (Nat.le_of_ble_eq_true rfl) (by decide +kernel) ?_
        cases hF
        exact hR.1 44 _ _ _ (by decide +kernel) rfl ⟨rfl, rfl⟩
      · have hF := ite_f hc3 hF
        refine g_seg hK [.bipush (-3)] 26 28 (L1 := [(0, vR 0), (1, vI p1)]) (st1 := [vI (-3)]) (h1 := h) (P := True ∧ True) (by decide +kernel) rfl rfl ⟨trivial, trivial⟩ ?_
        cases hF
        exact hR.1 28 _ _ _ (by decide +kernel) rfl ⟨rfl, rfl⟩
    · have hF := ite_f hc2 hF
      refine g_seg hK [.iconst (-1)] 12 13 (L1 := [(0, vR 0), (1, vI p1)]) (st1 := [vI (-1)]) (h1 := h) (P := True ∧ True) (by decide +kernel) rfl rfl ⟨trivial, trivial⟩ ?_
      cases hF
      exact hR.1 13 _ _ _ (by decide +kernel) rfl ⟨rfl, rfl⟩
set_option maxHeartbeats 4000000 in
set_option maxRecDepth 100000 in
theorem T_Ro_emptyOut {o : Nat} {h : MH} {h' : MH} (ko : kd o = 5) (hF : F_Ro_emptyOut o h = h') : CON 0 yX3_emptyOut cX3_emptyOut 1 none [vR o] h none h' := by
  refine con_of (own := RX3) (fl := flX3) (by decide +kernel) rfl flok_X3 rfl (Nat.le_of_ble_eq_true rfl) ?_
  intro K hK hR
  show K 0 [(0, vR o)] [] h
  unfold F_Ro_emptyOut at hF
  refine g_seg hK [.aload_n 0, .iconst 0, .putfield 7] 0 5 (L1 := [(0, vR o)]) (st1 := []) (h1 := (up h o 1 0)) (P := True ∧ True ∧ kd o = 5 ∧ True) (by decide +kernel) rfl rfl ⟨trivial, trivial, ko, trivial⟩ ?_
  cases hF
  exact hR.2.2.2.2 5 _ _ (by decide +kernel) rfl ⟨rfl, rfl⟩
set_option maxHeartbeats 4000000 in
set_option maxRecDepth 100000 in
theorem T_X_clear {h : MH} {r : Int} {h' : MH} (hF : F_X_clear h = (r, h')) : CON 1 yX6_clear cX6_clear 2 (Option.some Jvm.ClassFile.FieldType.int) [vR 0] h (some (vI r)) h' := by
  refine con_of (own := RX6) (fl := flX6) (by decide +kernel) rfl flok_X6 rfl (Nat.le_of_ble_eq_true rfl) ?_
  intro K hK hR
  show K 0 [(0, vR 0)] [] h
  unfold F_X_clear at hF
  refine g_seg hK [.aload_n 0, .getfield 14] 0 4 (L1 := [(0, vR 0)]) (st1 := [vR 1]) (h1 := h) (P := True ∧ kd 0 = 8 ∧ True) (by decide +kernel) rfl rfl ⟨trivial, rfl, trivial⟩ ?_
  refine g_callV1 hK 4 63 (d1 := 0) (ci := 3) (i := 1) (vs := []) (rest := []) (h1 := h) (r := vI (F_Ro_size 1 h)) my_yX3_size vw_X6_63 (by decide) (T_Ro_size (o := 1) (h := h) (ko := rfl) (hF := rfl)) rfl rfl rfl (Nat.le_of_ble_eq_true rfl) (by decide +kernel) ?_
  refine g_seg hK [.istore_n 1, .aload_n 0, .getfield 14] 7 12 (L1 := [(1, vI (F_Ro_size 1 h)), (0, vR 0)]) (st1 := [vR 1]) (h1 := h) (P := True ∧ True ∧ kd 0 = 8 ∧ True) (by decide +kernel) rfl rfl ⟨trivial, trivial, rfl, trivial⟩ ?_
  refine g_callV0 hK 12 70 (d1 := 0) (ci := 3) (i := 1) (vs := []) (rest := []) (h1 := (F_Ro_emptyOut 1 h)) my_yX3_emptyOut vw_X6_70 (by decide) (T_Ro_emptyOut (o := 1) (h := h) (ko := rfl) (hF := rfl)) rfl rfl rfl (Nat.le_of_ble_eq_true rfl) (by decide +kernel) ?_
  refine g_seg hK [.iload_n 1] 15 16 (L1 := [(1, vI (F_Ro_size 1 h)), (0, vR 0)]) (st1 := [vI (F_Ro_size 1 h)]) (h1 := (F_Ro_emptyOut 1 h)) (P := True ∧ True) (by decide +kernel) rfl rfl ⟨trivial, trivial⟩ ?_
  cases hF
  exact hR.1 16 _ _ _ (by decide +kernel) rfl ⟨rfl, rfl⟩
set_option maxHeartbeats 4000000 in
set_option maxRecDepth 100000 in
theorem T_Ro_at {o : Nat} {p1 : Int} {h : MH} {r : Int} (ko : kd o = 5) (hF : F_Ro_at o p1 h = r) : CON 0 yX3_at cX3_at 2 (Option.some Jvm.ClassFile.FieldType.int) [vR o, vI p1] h (some (vI r)) h := by
  refine con_of (own := RX3) (fl := flX3) (by decide +kernel) rfl flok_X3 rfl (Nat.le_of_ble_eq_true rfl) ?_
  intro K hK hR
  show K 0 [(0, vR o), (1, vI p1)] [] h
  unfold F_Ro_at at hF
  refine g_seg hK [.iload_n 1] 0 1 (L1 := [(0, vR o), (1, vI p1)]) (st1 := [vI p1]) (h1 := h) (P := True ∧ True) (by decide +kernel) rfl rfl ⟨trivial, trivial⟩ ?_
  refine g_ifz hK 1 .lt (29) 30 (t1 := 30) (t2 := 4) (by decide +kernel) (by decide) rfl rfl (fun (hc1 : p1 < 0) => ?_) (fun (hc1 : ¬ (p1 < 0)) => ?_)
  · have hF := ite_t hc1 hF
    refine g_seg hK [.iconst (-1)] 30 31 (L1 := [(0, vR o), (1, vI p1)]) (st1 := [vI (-1)]) (h1 := h) (P := True ∧ True) (by decide +kernel) rfl rfl ⟨trivial, trivial⟩ ?_
    cases hF
    exact hR.1 31 _ _ _ (by decide +kernel) rfl ⟨rfl, rfl⟩
  · have hF := ite_f hc1 hF
    refine g_seg hK [.iload_n 1, .aload_n 0, .getfield 7] 4 9 (L1 := [(0, vR o), (1, vI p1)]) (st1 := [vI (h o 1), vI p1]) (h1 := h) (P := True ∧ True ∧ kd o = 5 ∧ True) (by decide +kernel) rfl rfl ⟨trivial, trivial, ko, trivial⟩ ?_
    refine g_icmp hK 9 .ge (21) 30 (t1 := 12) (t2 := 30) (by decide +kernel) (by decide) rfl rfl (fun (hc2 : p1 < h o 1) => ?_) (fun (hc2 : ¬ (p1 < h o 1)) => ?_)
    · have hF := ite_t hc2 hF
      refine g_seg hK [.iload_n 1, .aload_n 0, .getfield 13, .arraylength] 12 18 (L1 := [(0, vR o), (1, vI p1)]) (st1 := [vI (al (rf o 0) : Int), vI p1]) (h1 := h) (P := True ∧ True ∧ kd o = 5 ∧ kd (rf o 0) ≤ 1 ∧ True) (by decide +kernel) rfl rfl ⟨trivial, trivial, ko, (by rw [show kd (rf o 0) = 0 from (kt_5_0 ko)]; decide), trivial⟩ ?_
      refine g_icmp hK 18 .ge (12) 30 (t1 := 21) (t2 := 30) (by decide +kernel) (by decide) rfl rfl (fun (hc3 : p1 < (al (rf o 0) : Int)) => ?_) (fun (hc3 : ¬ (p1 < (al (rf o 0) : Int))) => ?_)
      · have hF := ite_t hc3 hF
        refine g_seg hK [.aload_n 0, .getfield 13, .iload_n 1, .iaload] 21 27 (L1 := [(0, vR o), (1, vI p1)]) (st1 := [vI (h (rf o 0) p1.toNat)]) (h1 := h) (P := True ∧ kd o = 5 ∧ True ∧ (kd (rf o 0) = 0 ∧ 0 ≤ p1 ∧ p1 < (al (rf o 0) : Int)) ∧ True) (by decide +kernel) rfl rfl ⟨trivial, ko, trivial, ⟨(kt_5_0 ko), ⟨(by omega), hc3⟩⟩, trivial⟩ ?_
        refine g_goto hK 27 (4) 31 (by decide +kernel) (by decide) ?_
        cases hF
        exact hR.1 31 _ _ _ (by decide +kernel) rfl ⟨rfl, rfl⟩
      · have hF := ite_f hc3 hF
        refine g_seg hK [.iconst (-1)] 30 31 (L1 := [(0, vR o), (1, vI p1)]) (st1 := [vI (-1)]) (h1 := h) (P := True ∧ True) (by decide +kernel) rfl rfl ⟨trivial, trivial⟩ ?_
        cases hF
        exact hR.1 31 _ _ _ (by decide +kernel) rfl ⟨rfl, rfl⟩
    · have hF := ite_f hc2 hF
      refine g_seg hK [.iconst (-1)] 30 31 (L1 := [(0, vR o), (1, vI p1)]) (st1 := [vI (-1)]) (h1 := h) (P := True ∧ True) (by decide +kernel) rfl rfl ⟨trivial, trivial⟩ ?_
      cases hF
      exact hR.1 31 _ _ _ (by decide +kernel) rfl ⟨rfl, rfl⟩
set_option maxHeartbeats 4000000 in
set_option maxRecDepth 100000 in
theorem T_X_padSign {p1 : Int} {h : MH} {r : Int} (hF : F_X_padSign p1 h = r) : CON 4 yX6_padSign cX6_padSign 2 (Option.some Jvm.ClassFile.FieldType.int) [vR 0, vI p1] h (some (vI r)) h := by
  refine con_of (own := RX6) (fl := flX6) (by decide +kernel) rfl flok_X6 rfl (Nat.le_of_ble_eq_true rfl) ?_
  intro K hK hR
  show K 0 [(0, vR 0), (1, vI p1)] [] h
  unfold F_X_padSign at hF
  refine g_ldc hK 0 2 rfl (by decide +kernel) rfl ?_
  refine g_seg hK [.aload_n 0, .getfield 14, .iload_n 1] 2 7 (L1 := [(0, vR 0), (1, vI p1)]) (st1 := [vI p1, vR 1, vR 101]) (h1 := h) (P := True ∧ kd 0 = 8 ∧ True ∧ True) (by decide +kernel) rfl rfl ⟨trivial, rfl, trivial, trivial⟩ ?_
  refine g_callV1 hK 7 141 (d1 := 0) (ci := 3) (i := 1) (vs := [vI p1]) (rest := [vR 101]) (h1 := h) (r := vI (F_Ro_at 1 p1 h)) my_yX3_at vw_X6_141 (by decide) (T_Ro_at (o := 1) (p1 := p1) (h := h) (ko := rfl) (hF := rfl)) rfl rfl rfl (Nat.le_of_ble_eq_true rfl) (by decide +kernel) ?_
  refine g_seg hK [.i2c] 10 11 (L1 := [(0, vR 0), (1, vI p1)]) (st1 := [vI ((F_Ro_at 1 p1 h) % 65536), vR 101]) (h1 := h) (P := True ∧ True) (by decide +kernel) rfl rfl ⟨trivial, trivial⟩ ?_
  refine g_callG1 hK 11 230 (d1 := 3) (vs := [vI ((F_Ro_at 1 p1 h) % 65536)]) (rest := []) (r := vI (sg_indexOf ((F_Ro_at 1 p1 h) % 65536))) rfl my_yJ0_indexOf_0f7a4 (by exact vw_X6_230) (by decide) (T_S_indexOf ((F_Ro_at 1 p1 h) % 65536) h) rfl (Nat.le_of_ble_eq_true rfl) (by decide +kernel) ?_
  cases hF
  exact hR.1 14 _ _ _ (by decide +kernel) rfl ⟨rfl, rfl⟩
set_option maxHeartbeats 4000000 in
set_option maxRecDepth 100000 in
theorem LT_X_fault_L2 {K : KT} (hK : Rules RX6 cX6_fault 2 (Option.some Jvm.ClassFile.FieldType.int) flX6 5 K) {Post : Option MV → MH → Prop} (hR : R_ret cX6_fault (Option.some Jvm.ClassFile.FieldType.int) Post K) {h : MH} : ∀ (n : Nat) (x1 : Int) (out : Sum (Int) (Int)), F_X_fault_L2 h n x1 = some out → (∀ a : Int, out = Sum.inl a → Post (some (vI a)) h) → (∀ q : Int, out = Sum.inr q → K 35 [(0, vR 0), (1, vI q)] [] h) → K 2 [(0, vR 0), (1, vI x1)] [] h := by
  intro n
  induction n with
  | zero =>
    intro x1 out hF
    cases hF
  | succ n ih =>
    intro x1 out hF hRet hE
    unfold F_X_fault_L2 at hF
    refine g_seg hK [.iload_n 1, .aload_n 0, .getfield 14] 2 7 (L1 := [(0, vR 0), (1, vI x1)]) (st1 := [vR 1, vI x1]) (h1 := h) (P := True ∧ True ∧ kd 0 = 8 ∧ True) (by decide +kernel) rfl rfl ⟨trivial, trivial, rfl, trivial⟩ ?_
    refine g_callV1 hK 7 63 (d1 := 0) (ci := 3) (i := 1) (vs := []) (rest := [vI x1]) (h1 := h) (r := vI (F_Ro_size 1 h)) my_yX3_size vw_X6_63 (by decide) (T_Ro_size (o := 1) (h := h) (ko := rfl) (hF := rfl)) rfl rfl rfl (Nat.le_of_ble_eq_true rfl) (by decide +kernel) ?_
    refine g_icmp hK 10 .ge (25) 35 (t1 := 13) (t2 := 35) (by decide +kernel) (by decide) rfl rfl (fun (hc1 : x1 < F_Ro_size 1 h) => ?_) (fun (hc1 : ¬ (x1 < F_Ro_size 1 h)) => ?_)
    · have hF := ite_t hc1 hF
      refine g_seg hK [.iload_n 1, .bipush 14] 13 16 (L1 := [(0, vR 0), (1, vI x1)]) (st1 := [vI 14, vI x1]) (h1 := h) (P := True ∧ True ∧ True) (by decide +kernel) rfl rfl ⟨trivial, trivial, trivial⟩ ?_
      obtain ⟨kj3, e9, hF⟩ := jk1_elim hF
      have j3 : ∀ (u2 : Unit), kj3 u2 = some out → K 19 [(0, vR 0), (1, vI x1)] [] h := by
        intro u2 hF
        have hF := (e9 u2).symm.trans hF
        refine g_seg hK [.aload_n 0, .iload_n 1] 19 21 (L1 := [(0, vR 0), (1, vI x1)]) (st1 := [vI x1, vR 0]) (h1 := h) (P := True ∧ True ∧ True) (by decide +kernel) rfl rfl ⟨trivial, trivial, trivial⟩ ?_
        refine g_callV1 hK 21 73 (d1 := 4) (ci := 6) (i := 0) (vs := [vI x1]) (rest := []) (h1 := h) (r := vI (F_X_padSign x1 h)) my_yX6_padSign vw_X6_73 (by decide) (T_X_padSign (p1 := x1) (h := h) (hF := rfl)) rfl rfl rfl (Nat.le_of_ble_eq_true rfl) (by decide +kernel) ?_
        obtain ⟨kj6, e8, hF⟩ := jk1_elim hF
        have j6 : ∀ (u5 : Unit), kj6 u5 = some out → K 29 [(0, vR 0), (1, vI x1)] [] h := by
          intro u5 hF
          have hF := (e8 u5).symm.trans hF
          refine g_seg hK [.iinc 1 1] 29 32 (L1 := [(1, vI (wr (x1 + 1))), (0, vR 0)]) (st1 := []) (h1 := h) (P := True ∧ True) (by decide +kernel) rfl rfl ⟨trivial, trivial⟩ ?_
          refine g_goto hK 32 (-30) 2 (by decide +kernel) (by decide) ?_
          refine hK.2.1 _ _ ([(0, vR 0), (1, vI (wr (x1 + 1)))]) _ _ (sub_of [1, 0] rfl) ?_
          exact ih _ _ hF hRet hE
        refine g_ifz hK 24 .ge (5) 29 (t1 := 27) (t2 := 29) (by decide +kernel) (by decide) rfl rfl (fun (hc7 : F_X_padSign x1 h < 0) => ?_) (fun (hc7 : ¬ (F_X_padSign x1 h < 0)) => ?_)
        · have hF := ite_t hc7 hF
          refine g_seg hK [.iload_n 1] 27 28 (L1 := [(0, vR 0), (1, vI x1)]) (st1 := [vI x1]) (h1 := h) (P := True ∧ True) (by decide +kernel) rfl rfl ⟨trivial, trivial⟩ ?_
          cases hF
          exact hR.1 28 _ _ _ (by decide +kernel) rfl (hRet _ rfl)
        · have hF := ite_f hc7 hF
          exact j6 _ hF
      refine g_icmp hK 16 .ge (11) 27 (t1 := 19) (t2 := 27) (by decide +kernel) (by decide) rfl rfl (fun (hc4 : x1 < 14) => ?_) (fun (hc4 : ¬ (x1 < 14)) => ?_)
      · have hF := ite_t hc4 hF
        exact j3 _ hF
      · have hF := ite_f hc4 hF
        refine g_seg hK [.iload_n 1] 27 28 (L1 := [(0, vR 0), (1, vI x1)]) (st1 := [vI x1]) (h1 := h) (P := True ∧ True) (by decide +kernel) rfl rfl ⟨trivial, trivial⟩ ?_
        cases hF
        exact hR.1 28 _ _ _ (by decide +kernel) rfl (hRet _ rfl)
    · have hF := ite_f hc1 hF
      cases hF
      exact hE _ rfl
set_option maxHeartbeats 4000000 in
set_option maxRecDepth 100000 in
theorem T_X_fault {h : MH} {r : Int} (hF : F_X_fault h = some r) : CON 5 yX6_fault cX6_fault 2 (Option.some Jvm.ClassFile.FieldType.int) [vR 0] h (some (vI r)) h := by
  refine con_of (own := RX6) (fl := flX6) (by decide +kernel) rfl flok_X6 rfl (Nat.le_of_ble_eq_true rfl) ?_
  intro K hK hR
  show K 0 [(0, vR 0)] [] h
  unfold F_X_fault at hF
  refine g_seg hK [.iconst 0, .istore_n 1] 0 2 (L1 := [(1, vI 0), (0, vR 0)]) (st1 := []) (h1 := h) (P := True ∧ True ∧ True) (by decide +kernel) rfl rfl ⟨trivial, trivial, trivial⟩ ?_
  refine hK.2.1 _ _ ([(0, vR 0), (1, vI 0)]) _ _ (sub_of [1, 0] rfl) ?_
  obtain ⟨out4, e2, hr5, hx6⟩ := os_elim hF
  refine LT_X_fault_L2 hK hR _ _ out4 e2 ?_ ?_
  · intro a ha
    have hF := hr5 a ha
    cases hF
    exact ⟨rfl, rfl⟩
  · intro q3 hq
    have hF := hx6 q3 hq
    refine g_seg hK [.bipush (-4)] 35 37 (L1 := [(0, vR 0), (1, vI q3)]) (st1 := [vI (-4)]) (h1 := h) (P := True ∧ True) (by decide +kernel) rfl rfl ⟨trivial, trivial⟩ ?_
    cases hF
    exact hR.1 37 _ _ _ (by decide +kernel) rfl ⟨rfl, rfl⟩
set_option maxHeartbeats 4000000 in
set_option maxRecDepth 100000 in
theorem T_X_isText {p1 : Int} {h : MH} {r : Int} (hF : F_X_isText p1 = r) : CON 0 yX6_isText cX6_isText 1 (Option.some Jvm.ClassFile.FieldType.boolean) [vI p1] h (some (vI r)) h := by
  refine con_of (own := RX6) (fl := flX6) (by decide +kernel) rfl flok_X6 rfl (Nat.le_of_ble_eq_true rfl) ?_
  intro K hK hR
  show K 0 [(0, vI p1)] [] h
  unfold F_X_isText at hF
  refine g_seg hK [.iload_n 0] 0 1 (L1 := [(0, vI p1)]) (st1 := [vI p1]) (h1 := h) (P := True ∧ True) (by decide +kernel) rfl rfl ⟨trivial, trivial⟩ ?_
  refine g_ifz hK 1 .lt (12) 13 (t1 := 13) (t2 := 4) (by decide +kernel) (by decide) rfl rfl (fun (hc1 : p1 < 0) => ?_) (fun (hc1 : ¬ (p1 < 0)) => ?_)
  · have hF := ite_t hc1 hF
    refine g_seg hK [.iconst 0] 13 14 (L1 := [(0, vI p1)]) (st1 := [vI 0]) (h1 := h) (P := True ∧ True) (by decide +kernel) rfl rfl ⟨trivial, trivial⟩ ?_
    cases hF
    exact hR.2.1 14 _ _ _ (by decide +kernel) rfl (by decide) ⟨rfl, rfl⟩
  · have hF := ite_f hc1 hF
    refine g_seg hK [.iload_n 0, .iconst 2] 4 6 (L1 := [(0, vI p1)]) (st1 := [vI 2, vI p1]) (h1 := h) (P := True ∧ True ∧ True) (by decide +kernel) rfl rfl ⟨trivial, trivial, trivial⟩ ?_
    refine g_icmp hK 6 .gt (7) 13 (t1 := 9) (t2 := 13) (by decide +kernel) (by decide) rfl rfl (fun (hc2 : p1 ≤ 2) => ?_) (fun (hc2 : ¬ (p1 ≤ 2)) => ?_)
    · have hF := ite_t hc2 hF
      refine g_seg hK [.iconst 1] 9 10 (L1 := [(0, vI p1)]) (st1 := [vI 1]) (h1 := h) (P := True ∧ True) (by decide +kernel) rfl rfl ⟨trivial, trivial⟩ ?_
      refine g_goto hK 10 (4) 14 (by decide +kernel) (by decide) ?_
      cases hF
      exact hR.2.1 14 _ _ _ (by decide +kernel) rfl (by decide) ⟨rfl, rfl⟩
    · have hF := ite_f hc2 hF
      refine g_seg hK [.iconst 0] 13 14 (L1 := [(0, vI p1)]) (st1 := [vI 0]) (h1 := h) (P := True ∧ True) (by decide +kernel) rfl rfl ⟨trivial, trivial⟩ ?_
      cases hF
      exact hR.2.1 14 _ _ _ (by decide +kernel) rfl (by decide) ⟨rfl, rfl⟩
set_option maxHeartbeats 4000000 in
set_option maxRecDepth 100000 in
theorem T_Hi_slot {p1 : Int} {h : MH} {r : Option Nat} (hF : F_Hi_slot p1 = r) : CON 0 yX1_slot cX1_slot 2 (Option.some (Jvm.ClassFile.FieldType.object "HunkSlides$State")) [vR 17, vI p1] h (some (vO r)) h := by
  refine con_of (own := RX1) (fl := flX1) (by decide +kernel) rfl flok_X1 rfl (Nat.le_of_ble_eq_true rfl) ?_
  intro K hK hR
  show K 0 [(0, vR 17), (1, vI p1)] [] h
  unfold F_Hi_slot at hF
  refine g_seg hK [.iload_n 1] 0 1 (L1 := [(0, vR 17), (1, vI p1)]) (st1 := [vI p1]) (h1 := h) (P := True ∧ True) (by decide +kernel) rfl rfl ⟨trivial, trivial⟩ ?_
  refine g_ifz hK 1 .lt (21) 22 (t1 := 22) (t2 := 4) (by decide +kernel) (by decide) rfl rfl (fun (hc1 : p1 < 0) => ?_) (fun (hc1 : ¬ (p1 < 0)) => ?_)
  · have hF := ite_t hc1 hF
    refine g_seg hK [.aconst_null] 22 23 (L1 := [(0, vR 17), (1, vI p1)]) (st1 := [vO none]) (h1 := h) (P := True ∧ True) (by decide +kernel) rfl rfl ⟨trivial, trivial⟩ ?_
    cases hF
    exact hR.2.2.1 23 _ _ _ (by decide +kernel) ⟨_, rfl⟩ ⟨rfl, rfl⟩
  · have hF := ite_f hc1 hF
    refine g_seg hK [.iload_n 1, .aload_n 0, .getfield 11, .arraylength] 4 10 (L1 := [(0, vR 17), (1, vI p1)]) (st1 := [vI 4, vI p1]) (h1 := h) (P := True ∧ True ∧ kd 17 = 3 ∧ kd 18 ≤ 1 ∧ True) (by decide +kernel) rfl rfl ⟨trivial, trivial, rfl, (by rw [show kd 18 = 1 from rfl]; decide), trivial⟩ ?_
    refine g_icmp hK 10 .ge (12) 22 (t1 := 13) (t2 := 22) (by decide +kernel) (by decide) rfl rfl (fun (hc2 : p1 < 4) => ?_) (fun (hc2 : ¬ (p1 < 4)) => ?_)
    · have hF := ite_t hc2 hF
      refine g_seg hK [.aload_n 0, .getfield 11, .iload_n 1, .aaload] 13 19 (L1 := [(0, vR 17), (1, vI p1)]) (st1 := [vR (rf 18 p1.toNat)]) (h1 := h) (P := True ∧ kd 17 = 3 ∧ True ∧ (kd 18 = 1 ∧ 0 ≤ p1 ∧ p1 < 4) ∧ True) (by decide +kernel) rfl rfl ⟨trivial, rfl, trivial, ⟨rfl, ⟨(by omega), hc2⟩⟩, trivial⟩ ?_
      refine g_goto hK 19 (4) 23 (by decide +kernel) (by decide) ?_
      cases hF
      exact hR.2.2.1 23 _ _ _ (by decide +kernel) ⟨_, rfl⟩ ⟨rfl, rfl⟩
    · have hF := ite_f hc2 hF
      refine g_seg hK [.aconst_null] 22 23 (L1 := [(0, vR 17), (1, vI p1)]) (st1 := [vO none]) (h1 := h) (P := True ∧ True) (by decide +kernel) rfl rfl ⟨trivial, trivial⟩ ?_
      cases hF
      exact hR.2.2.1 23 _ _ _ (by decide +kernel) ⟨_, rfl⟩ ⟨rfl, rfl⟩
set_option maxHeartbeats 4000000 in
set_option maxRecDepth 100000 in
theorem LT_Ro_become_L6 {K : KT} (hK : Rules RX3 cX3_become 3 none flX3 1 K) {x0 : Nat} {x1 : Nat} (kx0 : kd x0 = 5) (kx1 : kd x1 = 5) : ∀ (n : Nat) (x2 : Int) (h : MH) (x2' : Int) (h' : MH), F_Ro_become_L6 x0 x1 n x2 h = some (x2', h') → K 29 [(0, vR x0), (1, vR x1), (2, vI x2')] [] h' → K 6 [(0, vR x0), (1, vR x1), (2, vI x2)] [] h := by
  intro n
  induction n with
  | zero =>
    intro x2 h x2' h' hF
    cases hF
  | succ n ih =>
    intro x2 h x2' h' hF hE
    unfold F_Ro_become_L6 at hF
    refine g_seg hK [.iload_n 2, .aload_n 1] 6 8 (L1 := [(0, vR x0), (1, vR x1), (2, vI x2)]) (st1 := [vR x1, vI x2]) (h1 := h) (P := True ∧ True ∧ True) (by decide +kernel) rfl rfl ⟨trivial, trivial, trivial⟩ ?_
    refine g_callV1 hK 8 28 (d1 := 0) (ci := 3) (i := x1) (vs := []) (rest := [vI x2]) (h1 := h) (r := vI (F_Ro_size x1 h)) my_yX3_size vw_X3_28 (by decide) (T_Ro_size (o := x1) (h := h) (ko := kx1) (hF := rfl)) kx1 rfl rfl (Nat.le_of_ble_eq_true rfl) (by decide +kernel) ?_
    refine g_icmp hK 11 .ge (18) 29 (t1 := 14) (t2 := 29) (by decide +kernel) (by decide) rfl rfl (fun (hc1 : x2 < F_Ro_size x1 h) => ?_) (fun (hc1 : ¬ (x2 < F_Ro_size x1 h)) => ?_)
    · have hF := ite_t hc1 hF
      refine g_seg hK [.aload_n 0, .aload_n 1, .iload_n 2] 14 17 (L1 := [(0, vR x0), (1, vR x1), (2, vI x2)]) (st1 := [vI x2, vR x1, vR x0]) (h1 := h) (P := True ∧ True ∧ True ∧ True) (by decide +kernel) rfl rfl ⟨trivial, trivial, trivial, trivial⟩ ?_
      refine g_callV1 hK 17 17 (d1 := 0) (ci := 3) (i := x1) (vs := [vI x2]) (rest := [vR x0]) (h1 := h) (r := vI (F_Ro_at x1 x2 h)) my_yX3_at vw_X3_17 (by decide) (T_Ro_at (o := x1) (p1 := x2) (h := h) (ko := kx1) (hF := rfl)) kx1 rfl rfl (Nat.le_of_ble_eq_true rfl) (by decide +kernel) ?_
      refine g_callV0 hK 20 31 (d1 := 0) (ci := 3) (i := x0) (vs := [vI (F_Ro_at x1 x2 h)]) (rest := []) (h1 := (F_Ro_add x0 (F_Ro_at x1 x2 h) h)) my_yX3_add vw_X3_31 (by decide) (T_Ro_add (o := x0) (p1 := (F_Ro_at x1 x2 h)) (h := h) (ko := kx0) (hF := rfl)) kx0 rfl rfl (Nat.le_of_ble_eq_true rfl) (by decide +kernel) ?_
      refine g_seg hK [.iinc 2 1] 23 26 (L1 := [(2, vI (wr (x2 + 1))), (0, vR x0), (1, vR x1)]) (st1 := []) (h1 := (F_Ro_add x0 (F_Ro_at x1 x2 h) h)) (P := True ∧ True) (by decide +kernel) rfl rfl ⟨trivial, trivial⟩ ?_
      refine g_goto hK 26 (-20) 6 (by decide +kernel) (by decide) ?_
      refine hK.2.1 _ _ ([(0, vR x0), (1, vR x1), (2, vI (wr (x2 + 1)))]) _ _ (sub_of [1, 2, 0] rfl) ?_
      exact ih _ _ _ _ hF hE
    · have hF := ite_f hc1 hF
      cases hF
      exact hE
set_option maxHeartbeats 4000000 in
set_option maxRecDepth 100000 in
theorem T_Ro_become {o : Nat} {p1 : Nat} {h : MH} {h' : MH} (ko : kd o = 5) (kp1 : kd p1 = 5) (hF : F_Ro_become o p1 h = some h') : CON 1 yX3_become cX3_become 3 none [vR o, vR p1] h none h' := by
  refine con_of (own := RX3) (fl := flX3) (by decide +kernel) rfl flok_X3 rfl (Nat.le_of_ble_eq_true rfl) ?_
  intro K hK hR
  show K 0 [(0, vR o), (1, vR p1)] [] h
  unfold F_Ro_become at hF
  refine g_seg hK [.aload_n 0] 0 1 (L1 := [(0, vR o), (1, vR p1)]) (st1 := [vR o]) (h1 := h) (P := True ∧ True) (by decide +kernel) rfl rfl ⟨trivial, trivial⟩ ?_
  refine g_callV0 hK 1 25 (d1 := 0) (ci := 3) (i := o) (vs := []) (rest := []) (h1 := (F_Ro_emptyOut o h)) my_yX3_emptyOut vw_X3_25 (by decide) (T_Ro_emptyOut (o := o) (h := h) (ko := ko) (hF := rfl)) ko rfl rfl (Nat.le_of_ble_eq_true rfl) (by decide +kernel) ?_
  refine g_seg hK [.iconst 0, .istore_n 2] 4 6 (L1 := [(2, vI 0), (0, vR o), (1, vR p1)]) (st1 := []) (h1 := (F_Ro_emptyOut o h)) (P := True ∧ True ∧ True) (by decide +kernel) rfl rfl ⟨trivial, trivial, trivial⟩ ?_
  refine hK.2.1 _ _ ([(0, vR o), (1, vR p1), (2, vI 0)]) _ _ (sub_of [1, 2, 0] rfl) ?_
  obtain ⟨x2_1, h2, e3, hF⟩ := ob2_elim hF
  refine LT_Ro_become_L6 hK (kx0 := ko) (kx1 := kp1) _ _ _ _ _ e3 ?_
  cases hF
  exact hR.2.2.2.2 29 _ _ (by decide +kernel) rfl ⟨rfl, rfl⟩
set_option maxHeartbeats 4000000 in
set_option maxRecDepth 100000 in
theorem T_St_become {o : Nat} {p1 : Nat} {h : MH} {h' : MH} (ks : kd o = 6) (kp1 : kd p1 = 6) (hF : F_St_become o p1 h = some h') : CON 2 yX4_become cX4_become 2 none [vR o, vR p1] h none h' := by
  refine con_of (own := RX4) (fl := flX4) (by decide +kernel) rfl flok_X4 rfl (Nat.le_of_ble_eq_true rfl) ?_
  intro K hK hR
  show K 0 [(0, vR o), (1, vR p1)] [] h
  unfold F_St_become at hF
  refine g_seg hK [.aload_n 0, .getfield 14, .aload_n 1, .getfield 14] 0 8 (L1 := [(0, vR o), (1, vR p1)]) (st1 := [vR (rf p1 0), vR (rf o 0)]) (h1 := h) (P := True ∧ kd o = 6 ∧ True ∧ kd p1 = 6 ∧ True) (by decide +kernel) rfl rfl ⟨trivial, ks, trivial, kp1, trivial⟩ ?_
  obtain ⟨h1, e2, hF⟩ := ob1_elim hF
  refine g_callV0 hK 8 39 (d1 := 1) (ci := 3) (i := rf o 0) (vs := [vR (rf p1 0)]) (rest := []) (h1 := h1) my_yX3_become vw_X4_39 (by decide) (T_Ro_become (o := (rf o 0)) (p1 := (rf p1 0)) (h := h) (ko := (kt_6_0 ks)) (kp1 := (kt_6_0 kp1)) (hF := e2)) (kt_6_0 ks) rfl rfl (Nat.le_of_ble_eq_true rfl) (by decide +kernel) ?_
  refine g_seg hK [.aload_n 0, .getfield 20, .aload_n 1, .getfield 20] 11 19 (L1 := [(0, vR o), (1, vR p1)]) (st1 := [vR (rf p1 1), vR (rf o 1)]) (h1 := h1) (P := True ∧ kd o = 6 ∧ True ∧ kd p1 = 6 ∧ True) (by decide +kernel) rfl rfl ⟨trivial, ks, trivial, kp1, trivial⟩ ?_
  obtain ⟨h3, e4, hF⟩ := ob1_elim hF
  refine g_callV0 hK 19 39 (d1 := 1) (ci := 3) (i := rf o 1) (vs := [vR (rf p1 1)]) (rest := []) (h1 := h3) my_yX3_become vw_X4_39 (by decide) (T_Ro_become (o := (rf o 1)) (p1 := (rf p1 1)) (h := h1) (ko := (kt_6_1 ks)) (kp1 := (kt_6_1 kp1)) (hF := e4)) (kt_6_1 ks) rfl rfl (Nat.le_of_ble_eq_true rfl) (by decide +kernel) ?_
  refine g_seg hK [.aload_n 0, .getfield 23, .aload_n 1, .getfield 23] 22 30 (L1 := [(0, vR o), (1, vR p1)]) (st1 := [vR (rf p1 2), vR (rf o 2)]) (h1 := h3) (P := True ∧ kd o = 6 ∧ True ∧ kd p1 = 6 ∧ True) (by decide +kernel) rfl rfl ⟨trivial, ks, trivial, kp1, trivial⟩ ?_
  obtain ⟨h5, e6, hF⟩ := ob1_elim hF
  refine g_callV0 hK 30 39 (d1 := 1) (ci := 3) (i := rf o 2) (vs := [vR (rf p1 2)]) (rest := []) (h1 := h5) my_yX3_become vw_X4_39 (by decide) (T_Ro_become (o := (rf o 2)) (p1 := (rf p1 2)) (h := h3) (ko := (kt_6_2 ks)) (kp1 := (kt_6_2 kp1)) (hF := e6)) (kt_6_2 ks) rfl rfl (Nat.le_of_ble_eq_true rfl) (by decide +kernel) ?_
  refine g_seg hK [.aload_n 0, .aload_n 1, .getfield 26, .putfield 26, .aload_n 0, .aload_n 1, .getfield 30, .putfield 30, .aload_n 0, .aload_n 1, .getfield 33, .putfield 33, .aload_n 0, .aload_n 1, .getfield 36, .putfield 36] 33 65 (L1 := [(0, vR o), (1, vR p1)]) (st1 := []) (h1 := (up (up (up (up h5 o 3 (h5 p1 3)) o 4 ((up h5 o 3 (h5 p1 3)) p1 4)) o 5 ((up (up h5 o 3 (h5 p1 3)) o 4 ((up h5 o 3 (h5 p1 3)) p1 4)) p1 5)) o 6 ((up (up (up h5 o 3 (h5 p1 3)) o 4 ((up h5 o 3 (h5 p1 3)) p1 4)) o 5 ((up (up h5 o 3 (h5 p1 3)) o 4 ((up h5 o 3 (h5 p1 3)) p1 4)) p1 5)) p1 6))) (P := True ∧ True ∧ kd p1 = 6 ∧ kd o = 6 ∧ True ∧ True ∧ kd p1 = 6 ∧ kd o = 6 ∧ True ∧ True ∧ kd p1 = 6 ∧ kd o = 6 ∧ True ∧ True ∧ kd p1 = 6 ∧ kd o = 6 ∧ True) (by decide +kernel) rfl rfl ⟨trivial, trivial, kp1, ks, trivial, trivial, kp1, ks, trivial, trivial, kp1, ks, trivial, trivial, kp1, ks, trivial⟩ ?_
  cases hF
  exact hR.2.2.2.2 65 _ _ (by decide +kernel) rfl ⟨rfl, rfl⟩
set_option maxHeartbeats 4000000 in
set_option maxRecDepth 100000 in
theorem T_Hi_copy {p1 : Option Nat} {p2 : Option Nat} {h : MH} {h' : MH} (kp1 : ∀ i, p1 = some i → kd i = 6) (kp2 : ∀ i, p2 = some i → kd i = 6) (hF : F_Hi_copy p1 p2 h = some h') : CON 3 yX1_copy cX1_copy 2 none [vO p1, vO p2] h none h' := by
  refine con_of (own := RX1) (fl := flX1) (by decide +kernel) rfl flok_X1 rfl (Nat.le_of_ble_eq_true rfl) ?_
  intro K hK hR
  show K 0 [(0, vO p1), (1, vO p2)] [] h
  unfold F_Hi_copy at hF
  refine g_seg hK [.aload_n 0] 0 1 (L1 := [(0, vO p1), (1, vO p2)]) (st1 := [vO p1]) (h1 := h) (P := True ∧ True) (by decide +kernel) rfl rfl ⟨trivial, trivial⟩ ?_
  refine g_null hK 1 12 13 (by decide +kernel) (by decide) (fun hc6 => ?_) (fun i1 hc6 => ?_)
  · have hF := om_n hc6 hF
    cases hF
    exact hR.2.2.2.2 13 _ _ (by decide +kernel) rfl ⟨rfl, rfl⟩
  · subst hc6
    have hF := om_s rfl hF
    refine g_seg hK [.aload_n 1] 4 5 (L1 := [(0, vR i1), (1, vO p2)]) (st1 := [vO p2]) (h1 := h) (P := True ∧ True) (by decide +kernel) rfl rfl ⟨trivial, trivial⟩ ?_
    refine g_null hK 5 8 13 (by decide +kernel) (by decide) (fun hc5 => ?_) (fun i2 hc5 => ?_)
    · have hF := om_n hc5 hF
      cases hF
      exact hR.2.2.2.2 13 _ _ (by decide +kernel) rfl ⟨rfl, rfl⟩
    · subst hc5
      have hF := om_s rfl hF
      refine g_seg hK [.aload_n 1, .aload_n 0] 8 10 (L1 := [(0, vR i1), (1, vR i2)]) (st1 := [vR i1, vR i2]) (h1 := h) (P := True ∧ True ∧ True) (by decide +kernel) rfl rfl ⟨trivial, trivial, trivial⟩ ?_
      obtain ⟨h3, e4, hF⟩ := ob1_elim hF
      refine g_callV0 hK 10 33 (d1 := 2) (ci := 4) (i := i2) (vs := [vR i1]) (rest := []) (h1 := h3) my_yX4_become vw_X1_33 (by decide) (T_St_become (o := i2) (p1 := i1) (h := h) (ks := (kp2 _ rfl)) (kp1 := (kp1 _ rfl)) (hF := e4)) (kp2 _ rfl) rfl rfl (Nat.le_of_ble_eq_true rfl) (by decide +kernel) ?_
      cases hF
      exact hR.2.2.2.2 13 _ _ (by decide +kernel) rfl ⟨rfl, rfl⟩
set_option maxHeartbeats 4000000 in
set_option maxRecDepth 100000 in
theorem LT_Hi_dropOldest_L2 {K : KT} (hK : Rules RX1 cX1_dropOldest 2 none flX1 4 K) : ∀ (n : Nat) (x1 : Int) (h : MH) (x1' : Int) (h' : MH), F_Hi_dropOldest_L2 n x1 h = some (x1', h') → K 31 [(0, vR 17), (1, vI x1')] [] h' → K 2 [(0, vR 17), (1, vI x1)] [] h := by
  intro n
  induction n with
  | zero =>
    intro x1 h x1' h' hF
    cases hF
  | succ n ih =>
    intro x1 h x1' h' hF hE
    unfold F_Hi_dropOldest_L2 at hF
    refine g_seg hK [.iload_n 1, .aload_n 0, .getfield 17] 2 7 (L1 := [(0, vR 17), (1, vI x1)]) (st1 := [vI (h 17 1), vI x1]) (h1 := h) (P := True ∧ True ∧ kd 17 = 3 ∧ True) (by decide +kernel) rfl rfl ⟨trivial, trivial, rfl, trivial⟩ ?_
    refine g_icmp hK 7 .ge (24) 31 (t1 := 10) (t2 := 31) (by decide +kernel) (by decide) rfl rfl (fun (hc1 : x1 < h 17 1) => ?_) (fun (hc1 : ¬ (x1 < h 17 1)) => ?_)
    · have hF := ite_t hc1 hF
      refine g_seg hK [.aload_n 0, .iload_n 1] 10 12 (L1 := [(0, vR 17), (1, vI x1)]) (st1 := [vI x1, vR 17]) (h1 := h) (P := True ∧ True ∧ True) (by decide +kernel) rfl rfl ⟨trivial, trivial, trivial⟩ ?_
      refine g_callV1 hK 12 25 (d1 := 0) (ci := 1) (i := 17) (vs := [vI x1]) (rest := []) (h1 := h) (r := vO (F_Hi_slot x1)) my_yX1_slot vw_X1_25 (by decide) (T_Hi_slot (p1 := x1) (h := h) (hF := rfl)) rfl rfl rfl (Nat.le_of_ble_eq_true rfl) (by decide +kernel) ?_
      refine g_seg hK [.aload_n 0, .iload_n 1, .iconst 1, .isub] 15 19 (L1 := [(0, vR 17), (1, vI x1)]) (st1 := [vI (wr (x1 - 1)), vR 17, vO (F_Hi_slot x1)]) (h1 := h) (P := True ∧ True ∧ True ∧ True ∧ True) (by decide +kernel) rfl rfl ⟨trivial, trivial, trivial, trivial, trivial⟩ ?_
      refine g_callV1 hK 19 25 (d1 := 0) (ci := 1) (i := 17) (vs := [vI (wr (x1 - 1))]) (rest := [vO (F_Hi_slot x1)]) (h1 := h) (r := vO (F_Hi_slot (wr (x1 - 1)))) my_yX1_slot vw_X1_25 (by decide) (T_Hi_slot (p1 := (wr (x1 - 1))) (h := h) (hF := rfl)) rfl rfl rfl (Nat.le_of_ble_eq_true rfl) (by decide +kernel) ?_
      obtain ⟨h2, e3, hF⟩ := ob1_elim hF
      refine g_callS0 hK 22 29 (d1 := 3) (vs := [vO (F_Hi_slot x1), vO (F_Hi_slot (wr (x1 - 1)))]) (rest := []) (h1 := h2) my_yX1_copy sw_X1_29 (by decide) (T_Hi_copy (p1 := (F_Hi_slot x1)) (p2 := (F_Hi_slot (wr (x1 - 1)))) (h := h) (kp1 := (kd_Hi_slot _)) (kp2 := (kd_Hi_slot _)) (hF := e3)) rfl (Nat.le_of_ble_eq_true rfl) (by decide +kernel) ?_
      refine g_seg hK [.iinc 1 1] 25 28 (L1 := [(1, vI (wr (x1 + 1))), (0, vR 17)]) (st1 := []) (h1 := h2) (P := True ∧ True) (by decide +kernel) rfl rfl ⟨trivial, trivial⟩ ?_
      refine g_goto hK 28 (-26) 2 (by decide +kernel) (by decide) ?_
      refine hK.2.1 _ _ ([(0, vR 17), (1, vI (wr (x1 + 1)))]) _ _ (sub_of [1, 0] rfl) ?_
      exact ih _ _ _ _ hF hE
    · have hF := ite_f hc1 hF
      cases hF
      exact hE
set_option maxHeartbeats 4000000 in
set_option maxRecDepth 100000 in
theorem T_Hi_dropOldest {h : MH} {h' : MH} (hF : F_Hi_dropOldest h = some h') : CON 4 yX1_dropOldest cX1_dropOldest 2 none [vR 17] h none h' := by
  refine con_of (own := RX1) (fl := flX1) (by decide +kernel) rfl flok_X1 rfl (Nat.le_of_ble_eq_true rfl) ?_
  intro K hK hR
  show K 0 [(0, vR 17)] [] h
  unfold F_Hi_dropOldest at hF
  refine g_seg hK [.iconst 1, .istore_n 1] 0 2 (L1 := [(1, vI 1), (0, vR 17)]) (st1 := []) (h1 := h) (P := True ∧ True ∧ True) (by decide +kernel) rfl rfl ⟨trivial, trivial, trivial⟩ ?_
  refine hK.2.1 _ _ ([(0, vR 17), (1, vI 1)]) _ _ (sub_of [1, 0] rfl) ?_
  obtain ⟨x1_1, h2, e3, hF⟩ := ob2_elim hF
  refine LT_Hi_dropOldest_L2 hK _ _ _ _ _ e3 ?_
  refine g_seg hK [.aload_n 0, .dup, .getfield 17, .iconst 1, .isub, .putfield 17] 31 41 (L1 := [(0, vR 17), (1, vI x1_1)]) (st1 := []) (h1 := (up h2 17 1 (wr ((h2 17 1) - 1)))) (P := True ∧ True ∧ kd 17 = 3 ∧ True ∧ True ∧ kd 17 = 3 ∧ True) (by decide +kernel) rfl rfl ⟨trivial, trivial, rfl, trivial, trivial, rfl, trivial⟩ ?_
  cases hF
  exact hR.2.2.2.2 41 _ _ (by decide +kernel) rfl ⟨rfl, rfl⟩
set_option maxHeartbeats 4000000 in
set_option maxRecDepth 100000 in
theorem T_Hi_record {p1 : Nat} {h : MH} {h' : MH} (kp1 : kd p1 = 6) (hF : F_Hi_record p1 h = some h') : CON 5 yX1_record cX1_record 2 none [vR 17, vR p1] h none h' := by
  refine con_of (own := RX1) (fl := flX1) (by decide +kernel) rfl flok_X1 rfl (Nat.le_of_ble_eq_true rfl) ?_
  intro K hK hR
  show K 0 [(0, vR 17), (1, vR p1)] [] h
  unfold F_Hi_record at hF
  refine g_seg hK [.aload_n 0, .getfield 17, .aload_n 0, .getfield 11, .arraylength] 0 9 (L1 := [(0, vR 17), (1, vR p1)]) (st1 := [vI 4, vI (h 17 1)]) (h1 := h) (P := True ∧ kd 17 = 3 ∧ True ∧ kd 17 = 3 ∧ kd 18 ≤ 1 ∧ True) (by decide +kernel) rfl rfl ⟨trivial, rfl, trivial, rfl, (by rw [show kd 18 = 1 from rfl]; decide), trivial⟩ ?_
  obtain ⟨kj2, e8, hF⟩ := jk1_elim hF
  have j2 : ∀ (h1 : MH), kj2 h1 = some h' → K 16 [(0, vR 17), (1, vR p1)] [] h1 := by
    intro h1 hF
    have hF := (e8 h1).symm.trans hF
    refine g_seg hK [.aload_n 1, .aload_n 0, .aload_n 0, .getfield 17] 16 22 (L1 := [(0, vR 17), (1, vR p1)]) (st1 := [vI (h1 17 1), vR 17, vR p1]) (h1 := h1) (P := True ∧ True ∧ True ∧ kd 17 = 3 ∧ True) (by decide +kernel) rfl rfl ⟨trivial, trivial, trivial, rfl, trivial⟩ ?_
    refine g_callV1 hK 22 25 (d1 := 0) (ci := 1) (i := 17) (vs := [vI (h1 17 1)]) (rest := [vR p1]) (h1 := h1) (r := vO (F_Hi_slot (h1 17 1))) my_yX1_slot vw_X1_25 (by decide) (T_Hi_slot (p1 := (h1 17 1)) (h := h1) (hF := rfl)) rfl rfl rfl (Nat.le_of_ble_eq_true rfl) (by decide +kernel) ?_
    obtain ⟨h6, e7, hF⟩ := ob1_elim hF
    refine g_callS0 hK 25 29 (d1 := 3) (vs := [vR p1, vO (F_Hi_slot (h1 17 1))]) (rest := []) (h1 := h6) my_yX1_copy sw_X1_29 (by decide) (T_Hi_copy (p1 := (some p1)) (p2 := (F_Hi_slot (h1 17 1))) (h := h1) (kp1 := (fun i e => by cases e; exact kp1)) (kp2 := (kd_Hi_slot _)) (hF := e7)) rfl (Nat.le_of_ble_eq_true rfl) (by decide +kernel) ?_
    refine g_seg hK [.aload_n 0, .dup, .getfield 17, .iconst 1, .iadd, .putfield 17] 28 38 (L1 := [(0, vR 17), (1, vR p1)]) (st1 := []) (h1 := (up h6 17 1 (wr ((h6 17 1) + 1)))) (P := True ∧ True ∧ kd 17 = 3 ∧ True ∧ True ∧ kd 17 = 3 ∧ True) (by decide +kernel) rfl rfl ⟨trivial, trivial, rfl, trivial, trivial, rfl, trivial⟩ ?_
    cases hF
    exact hR.2.2.2.2 38 _ _ (by decide +kernel) rfl ⟨rfl, rfl⟩
  refine g_icmp hK 9 .lt (7) 16 (t1 := 16) (t2 := 12) (by decide +kernel) (by decide) rfl rfl (fun (hc3 : h 17 1 < 4) => ?_) (fun (hc3 : ¬ (h 17 1 < 4)) => ?_)
  · have hF := ite_t hc3 hF
    exact j2 _ hF
  · have hF := ite_f hc3 hF
    refine g_seg hK [.aload_n 0] 12 13 (L1 := [(0, vR 17), (1, vR p1)]) (st1 := [vR 17]) (h1 := h) (P := True ∧ True) (by decide +kernel) rfl rfl ⟨trivial, trivial⟩ ?_
    obtain ⟨h4, e5, hF⟩ := ob1_elim hF
    refine g_callV0 hK 13 22 (d1 := 4) (ci := 1) (i := 17) (vs := []) (rest := []) (h1 := h4) my_yX1_dropOldest vw_X1_22 (by decide) (T_Hi_dropOldest (h := h) (hF := e5)) rfl rfl rfl (Nat.le_of_ble_eq_true rfl) (by decide +kernel) ?_
    exact j2 _ hF
set_option maxHeartbeats 4000000 in
set_option maxRecDepth 100000 in
theorem T_St_text {o : Nat} {p1 : Int} {h : MH} {r : Nat} (ks : kd o = 6) (hF : F_St_text o p1 = r) : CON 0 yX4_text cX4_text 2 (Option.some (Jvm.ClassFile.FieldType.object "HunkSlides$Row")) [vR o, vI p1] h (some (vR r)) h := by
  refine con_of (own := RX4) (fl := flX4) (by decide +kernel) rfl flok_X4 rfl (Nat.le_of_ble_eq_true rfl) ?_
  intro K hK hR
  show K 0 [(0, vR o), (1, vI p1)] [] h
  unfold F_St_text at hF
  refine g_seg hK [.iload_n 1] 0 1 (L1 := [(0, vR o), (1, vI p1)]) (st1 := [vI p1]) (h1 := h) (P := True ∧ True) (by decide +kernel) rfl rfl ⟨trivial, trivial⟩ ?_
  refine g_ifz hK 1 .ne (8) 9 (t1 := 4) (t2 := 9) (by decide +kernel) (by decide) rfl rfl (fun (hc1 : p1 = 0) => ?_) (fun (hc1 : ¬ (p1 = 0)) => ?_)
  · have hF := ite_t hc1 hF
    refine g_seg hK [.aload_n 0, .getfield 14] 4 8 (L1 := [(0, vR o), (1, vI p1)]) (st1 := [vR (rf o 0)]) (h1 := h) (P := True ∧ kd o = 6 ∧ True) (by decide +kernel) rfl rfl ⟨trivial, ks, trivial⟩ ?_
    cases hF
    exact hR.2.2.1 8 _ _ _ (by decide +kernel) ⟨_, rfl⟩ ⟨rfl, rfl⟩
  · have hF := ite_f hc1 hF
    refine g_seg hK [.iload_n 1, .iconst 1] 9 11 (L1 := [(0, vR o), (1, vI p1)]) (st1 := [vI 1, vI p1]) (h1 := h) (P := True ∧ True ∧ True) (by decide +kernel) rfl rfl ⟨trivial, trivial, trivial⟩ ?_
    refine g_icmp hK 11 .ne (10) 21 (t1 := 14) (t2 := 21) (by decide +kernel) (by decide) rfl rfl (fun (hc2 : p1 = 1) => ?_) (fun (hc2 : ¬ (p1 = 1)) => ?_)
    · have hF := ite_t hc2 hF
      refine g_seg hK [.aload_n 0, .getfield 20] 14 18 (L1 := [(0, vR o), (1, vI p1)]) (st1 := [vR (rf o 1)]) (h1 := h) (P := True ∧ kd o = 6 ∧ True) (by decide +kernel) rfl rfl ⟨trivial, ks, trivial⟩ ?_
      refine g_goto hK 18 (7) 25 (by decide +kernel) (by decide) ?_
      cases hF
      exact hR.2.2.1 25 _ _ _ (by decide +kernel) ⟨_, rfl⟩ ⟨rfl, rfl⟩
    · have hF := ite_f hc2 hF
      refine g_seg hK [.aload_n 0, .getfield 23] 21 25 (L1 := [(0, vR o), (1, vI p1)]) (st1 := [vR (rf o 2)]) (h1 := h) (P := True ∧ kd o = 6 ∧ True) (by decide +kernel) rfl rfl ⟨trivial, ks, trivial⟩ ?_
      cases hF
      exact hR.2.2.1 25 _ _ _ (by decide +kernel) ⟨_, rfl⟩ ⟨rfl, rfl⟩
set_option maxHeartbeats 4000000 in
set_option maxRecDepth 100000 in
theorem LT_X_load_L47 {K : KT} (hK : Rules RX6 cX6_load 4 (Option.some Jvm.ClassFile.FieldType.int) flX6 6 K) {x2 : Nat} (kx2 : kd x2 = 5) : ∀ (n : Nat) (x3 : Int) (h : MH) (x3' : Int) (h' : MH), F_X_load_L47 x2 n x3 h = some (x3', h') → K 73 [(0, vR 0), (2, vR x2), (3, vI x3')] [] h' → K 47 [(0, vR 0), (2, vR x2), (3, vI x3)] [] h := by
  intro n
  induction n with
  | zero =>
    intro x3 h x3' h' hF
    cases hF
  | succ n ih =>
    intro x3 h x3' h' hF hE
    unfold F_X_load_L47 at hF
    refine g_seg hK [.iload_n 3, .aload_n 0, .getfield 14] 47 52 (L1 := [(0, vR 0), (2, vR x2), (3, vI x3)]) (st1 := [vR 1, vI x3]) (h1 := h) (P := True ∧ True ∧ kd 0 = 8 ∧ True) (by decide +kernel) rfl rfl ⟨trivial, trivial, rfl, trivial⟩ ?_
    refine g_callV1 hK 52 63 (d1 := 0) (ci := 3) (i := 1) (vs := []) (rest := [vI x3]) (h1 := h) (r := vI (F_Ro_size 1 h)) my_yX3_size vw_X6_63 (by decide) (T_Ro_size (o := 1) (h := h) (ko := rfl) (hF := rfl)) rfl rfl rfl (Nat.le_of_ble_eq_true rfl) (by decide +kernel) ?_
    refine g_icmp hK 55 .ge (18) 73 (t1 := 58) (t2 := 73) (by decide +kernel) (by decide) rfl rfl (fun (hc1 : x3 < F_Ro_size 1 h) => ?_) (fun (hc1 : ¬ (x3 < F_Ro_size 1 h)) => ?_)
    · have hF := ite_t hc1 hF
      refine g_seg hK [.aload_n 2, .aload_n 0, .iload_n 3] 58 61 (L1 := [(0, vR 0), (2, vR x2), (3, vI x3)]) (st1 := [vI x3, vR 0, vR x2]) (h1 := h) (P := True ∧ True ∧ True ∧ True) (by decide +kernel) rfl rfl ⟨trivial, trivial, trivial, trivial⟩ ?_
      refine g_callV1 hK 61 73 (d1 := 4) (ci := 6) (i := 0) (vs := [vI x3]) (rest := [vR x2]) (h1 := h) (r := vI (F_X_padSign x3 h)) my_yX6_padSign vw_X6_73 (by decide) (T_X_padSign (p1 := x3) (h := h) (hF := rfl)) rfl rfl rfl (Nat.le_of_ble_eq_true rfl) (by decide +kernel) ?_
      refine g_callV0 hK 64 67 (d1 := 0) (ci := 3) (i := x2) (vs := [vI (F_X_padSign x3 h)]) (rest := []) (h1 := (F_Ro_add x2 (F_X_padSign x3 h) h)) my_yX3_add vw_X6_67 (by decide) (T_Ro_add (o := x2) (p1 := (F_X_padSign x3 h)) (h := h) (ko := kx2) (hF := rfl)) kx2 rfl rfl (Nat.le_of_ble_eq_true rfl) (by decide +kernel) ?_
      refine g_seg hK [.iinc 3 1] 67 70 (L1 := [(3, vI (wr (x3 + 1))), (0, vR 0), (2, vR x2)]) (st1 := []) (h1 := (F_Ro_add x2 (F_X_padSign x3 h) h)) (P := True ∧ True) (by decide +kernel) rfl rfl ⟨trivial, trivial⟩ ?_
      refine g_goto hK 70 (-23) 47 (by decide +kernel) (by decide) ?_
      refine hK.2.1 _ _ ([(0, vR 0), (2, vR x2), (3, vI (wr (x3 + 1)))]) _ _ (sub_of [1, 2, 0] rfl) ?_
      exact ih _ _ _ _ hF hE
    · have hF := ite_f hc1 hF
      cases hF
      exact hE
set_option maxHeartbeats 4000000 in
set_option maxRecDepth 100000 in
theorem T_X_load {p1 : Int} {h : MH} {r : Int} {h' : MH} (hF : F_X_load p1 h = some (r, h')) : CON 6 yX6_load cX6_load 4 (Option.some Jvm.ClassFile.FieldType.int) [vR 0, vI p1] h (some (vI r)) h' := by
  refine con_of (own := RX6) (fl := flX6) (by decide +kernel) rfl flok_X6 rfl (Nat.le_of_ble_eq_true rfl) ?_
  intro K hK hR
  show K 0 [(0, vR 0), (1, vI p1)] [] h
  unfold F_X_load at hF
  refine g_seg hK [.iload_n 1] 0 1 (L1 := [(0, vR 0), (1, vI p1)]) (st1 := [vI p1]) (h1 := h) (P := True ∧ True) (by decide +kernel) rfl rfl ⟨trivial, trivial⟩ ?_
  refine g_callS1 hK 1 77 (d1 := 0) (vs := [vI p1]) (rest := []) (h1 := h) (r := vI (F_X_isText p1)) my_yX6_isText sw_X6_77 (by decide) (T_X_isText (p1 := p1) (h := h) (hF := rfl)) rfl (Nat.le_of_ble_eq_true rfl) (by decide +kernel) ?_
  refine g_ifz hK 4 .ne (5) 9 (t1 := 7) (t2 := 9) (by decide +kernel) (by decide) rfl rfl (fun (hc1 : F_X_isText p1 = 0) => ?_) (fun (hc1 : ¬ (F_X_isText p1 = 0)) => ?_)
  · have hF := ite_t hc1 hF
    refine g_seg hK [.iconst (-1)] 7 8 (L1 := [(0, vR 0), (1, vI p1)]) (st1 := [vI (-1)]) (h1 := h) (P := True ∧ True) (by decide +kernel) rfl rfl ⟨trivial, trivial⟩ ?_
    cases hF
    exact hR.1 8 _ _ _ (by decide +kernel) rfl ⟨rfl, rfl⟩
  · have hF := ite_f hc1 hF
    refine g_seg hK [.aload_n 0] 9 10 (L1 := [(0, vR 0), (1, vI p1)]) (st1 := [vR 0]) (h1 := h) (P := True ∧ True) (by decide +kernel) rfl rfl ⟨trivial, trivial⟩ ?_
    obtain ⟨r2, e3, hF⟩ := ob1_elim hF
    refine g_callV1 hK 10 81 (d1 := 5) (ci := 6) (i := 0) (vs := []) (rest := []) (h1 := h) (r := vI r2) my_yX6_fault vw_X6_81 (by decide) (T_X_fault (h := h) (hF := e3)) rfl rfl rfl (Nat.le_of_ble_eq_true rfl) (by decide +kernel) ?_
    refine g_seg hK [.bipush (-4)] 13 15 (L1 := [(0, vR 0), (1, vI p1)]) (st1 := [vI (-4), vI r2]) (h1 := h) (P := True ∧ True) (by decide +kernel) rfl rfl ⟨trivial, trivial⟩ ?_
    refine g_icmp hK 15 .eq (6) 21 (t1 := 21) (t2 := 18) (by decide +kernel) (by decide) rfl rfl (fun (hc4 : r2 = (-4)) => ?_) (fun (hc4 : ¬ (r2 = (-4))) => ?_)
    · have hF := ite_t hc4 hF
      refine g_seg hK [.aload_n 0, .getfield 35, .aload_n 0, .getfield 21] 21 29 (L1 := [(0, vR 0), (1, vI p1)]) (st1 := [vR 3, vR 17]) (h1 := h) (P := True ∧ kd 0 = 8 ∧ True ∧ kd 0 = 8 ∧ True) (by decide +kernel) rfl rfl ⟨trivial, rfl, trivial, rfl, trivial⟩ ?_
      obtain ⟨h5, e6, hF⟩ := ob1_elim hF
      refine g_callV0 hK 29 84 (d1 := 5) (ci := 1) (i := 17) (vs := [vR 3]) (rest := []) (h1 := h5) my_yX1_record vw_X6_84 (by decide) (T_Hi_record (p1 := 3) (h := h) (kp1 := rfl) (hF := e6)) rfl rfl rfl (Nat.le_of_ble_eq_true rfl) (by decide +kernel) ?_
      refine g_seg hK [.aload_n 0, .getfield 21, .iload_n 1] 32 37 (L1 := [(0, vR 0), (1, vI p1)]) (st1 := [vI p1, vR 3]) (h1 := h5) (P := True ∧ kd 0 = 8 ∧ True ∧ True) (by decide +kernel) rfl rfl ⟨trivial, rfl, trivial, trivial⟩ ?_
      refine g_callV1 hK 37 88 (d1 := 0) (ci := 4) (i := 3) (vs := [vI p1]) (rest := []) (h1 := h5) (r := vR (F_St_text 3 p1)) my_yX4_text vw_X6_88 (by decide) (T_St_text (o := 3) (p1 := p1) (h := h5) (ks := rfl) (hF := rfl)) rfl rfl rfl (Nat.le_of_ble_eq_true rfl) (by decide +kernel) ?_
      refine g_seg hK [.astore_n 2, .aload_n 2] 40 42 (L1 := [(2, vR (F_St_text 3 p1)), (0, vR 0), (1, vI p1)]) (st1 := [vR (F_St_text 3 p1)]) (h1 := h5) (P := True ∧ True ∧ True) (by decide +kernel) rfl rfl ⟨trivial, trivial, trivial⟩ ?_
      refine g_callV0 hK 42 70 (d1 := 0) (ci := 3) (i := F_St_text 3 p1) (vs := []) (rest := []) (h1 := (F_Ro_emptyOut (F_St_text 3 p1) h5)) my_yX3_emptyOut vw_X6_70 (by decide) (T_Ro_emptyOut (o := (F_St_text 3 p1)) (h := h5) (ko := (kd_St_text rfl)) (hF := rfl)) (kd_St_text rfl) rfl rfl (Nat.le_of_ble_eq_true rfl) (by decide +kernel) ?_
      refine g_seg hK [.iconst 0, .istore_n 3] 45 47 (L1 := [(3, vI 0), (2, vR (F_St_text 3 p1)), (0, vR 0), (1, vI p1)]) (st1 := []) (h1 := (F_Ro_emptyOut (F_St_text 3 p1) h5)) (P := True ∧ True ∧ True) (by decide +kernel) rfl rfl ⟨trivial, trivial, trivial⟩ ?_
      refine hK.2.1 _ _ ([(0, vR 0), (2, vR (F_St_text 3 p1)), (3, vI 0)]) _ _ (sub_of [2, 1, 0] rfl) ?_
      obtain ⟨x3_7, h8, e9, hF⟩ := ob2_elim hF
      refine LT_X_load_L47 hK (kx2 := (kd_St_text rfl)) _ _ _ _ _ e9 ?_
      refine g_seg hK [.aload_n 0, .getfield 14] 73 77 (L1 := [(0, vR 0), (2, vR (F_St_text 3 p1)), (3, vI x3_7)]) (st1 := [vR 1]) (h1 := h8) (P := True ∧ kd 0 = 8 ∧ True) (by decide +kernel) rfl rfl ⟨trivial, rfl, trivial⟩ ?_
      refine g_callV0 hK 77 70 (d1 := 0) (ci := 3) (i := 1) (vs := []) (rest := []) (h1 := (F_Ro_emptyOut 1 h8)) my_yX3_emptyOut vw_X6_70 (by decide) (T_Ro_emptyOut (o := 1) (h := h8) (ko := rfl) (hF := rfl)) rfl rfl rfl (Nat.le_of_ble_eq_true rfl) (by decide +kernel) ?_
      refine g_seg hK [.aload_n 2] 80 81 (L1 := [(0, vR 0), (2, vR (F_St_text 3 p1)), (3, vI x3_7)]) (st1 := [vR (F_St_text 3 p1)]) (h1 := (F_Ro_emptyOut 1 h8)) (P := True ∧ True) (by decide +kernel) rfl rfl ⟨trivial, trivial⟩ ?_
      refine g_callV1 hK 81 63 (d1 := 0) (ci := 3) (i := F_St_text 3 p1) (vs := []) (rest := []) (h1 := (F_Ro_emptyOut 1 h8)) (r := vI (F_Ro_size (F_St_text 3 p1) (F_Ro_emptyOut 1 h8))) my_yX3_size vw_X6_63 (by decide) (T_Ro_size (o := (F_St_text 3 p1)) (h := (F_Ro_emptyOut 1 h8)) (ko := (kd_St_text rfl)) (hF := rfl)) (kd_St_text rfl) rfl rfl (Nat.le_of_ble_eq_true rfl) (by decide +kernel) ?_
      cases hF
      exact hR.1 84 _ _ _ (by decide +kernel) rfl ⟨rfl, rfl⟩
    · have hF := ite_f hc4 hF
      refine g_seg hK [.bipush (-2)] 18 20 (L1 := [(0, vR 0), (1, vI p1)]) (st1 := [vI (-2)]) (h1 := h) (P := True ∧ True) (by decide +kernel) rfl rfl ⟨trivial, trivial⟩ ?_
      cases hF
      exact hR.1 20 _ _ _ (by decide +kernel) rfl ⟨rfl, rfl⟩
set_option maxHeartbeats 4000000 in
set_option maxRecDepth 100000 in
theorem T_X_isSign {p1 : Int} {h : MH} {r : Int} (hF : F_X_isSign p1 = r) : CON 2 yX6_isSign cX6_isSign 1 (Option.some Jvm.ClassFile.FieldType.boolean) [vI p1] h (some (vI r)) h := by
  refine con_of (own := RX6) (fl := flX6) (by decide +kernel) rfl flok_X6 rfl (Nat.le_of_ble_eq_true rfl) ?_
  intro K hK hR
  show K 0 [(0, vI p1)] [] h
  unfold F_X_isSign at hF
  refine g_seg hK [.iload_n 0] 0 1 (L1 := [(0, vI p1)]) (st1 := [vI p1]) (h1 := h) (P := True ∧ True) (by decide +kernel) rfl rfl ⟨trivial, trivial⟩ ?_
  refine g_ifz hK 1 .lt (16) 17 (t1 := 17) (t2 := 4) (by decide +kernel) (by decide) rfl rfl (fun (hc1 : p1 < 0) => ?_) (fun (hc1 : ¬ (p1 < 0)) => ?_)
  · have hF := ite_t hc1 hF
    refine g_seg hK [.iconst 0] 17 18 (L1 := [(0, vI p1)]) (st1 := [vI 0]) (h1 := h) (P := True ∧ True) (by decide +kernel) rfl rfl ⟨trivial, trivial⟩ ?_
    cases hF
    exact hR.2.1 18 _ _ _ (by decide +kernel) rfl (by decide) ⟨rfl, rfl⟩
  · have hF := ite_f hc1 hF
    refine g_seg hK [.iload_n 0] 4 5 (L1 := [(0, vI p1)]) (st1 := [vI p1]) (h1 := h) (P := True ∧ True) (by decide +kernel) rfl rfl ⟨trivial, trivial⟩ ?_
    refine g_ldc hK 5 7 rfl (by decide +kernel) rfl ?_
    refine g_callG1 hK 7 225 (d1 := 1) (vs := []) (rest := [vI p1]) (r := vI (sg_length)) rfl my_yJ0_length_8abf5 (by exact vw_X6_225) (by decide) (T_S_length h) rfl (Nat.le_of_ble_eq_true rfl) (by decide +kernel) ?_
    refine g_icmp hK 10 .ge (7) 17 (t1 := 13) (t2 := 17) (by decide +kernel) (by decide) rfl rfl (fun (hc2 : p1 < sg_length) => ?_) (fun (hc2 : ¬ (p1 < sg_length)) => ?_)
    · have hF := ite_t hc2 hF
      refine g_seg hK [.iconst 1] 13 14 (L1 := [(0, vI p1)]) (st1 := [vI 1]) (h1 := h) (P := True ∧ True) (by decide +kernel) rfl rfl ⟨trivial, trivial⟩ ?_
      refine g_goto hK 14 (4) 18 (by decide +kernel) (by decide) ?_
      cases hF
      exact hR.2.1 18 _ _ _ (by decide +kernel) rfl (by decide) ⟨rfl, rfl⟩
    · have hF := ite_f hc2 hF
      refine g_seg hK [.iconst 0] 17 18 (L1 := [(0, vI p1)]) (st1 := [vI 0]) (h1 := h) (P := True ∧ True) (by decide +kernel) rfl rfl ⟨trivial, trivial⟩ ?_
      cases hF
      exact hR.2.1 18 _ _ _ (by decide +kernel) rfl (by decide) ⟨rfl, rfl⟩
set_option maxHeartbeats 4000000 in
set_option maxRecDepth 100000 in
theorem T_Ro_change {o : Nat} {p1 : Int} {p2 : Int} {h : MH} {h' : MH} (ko : kd o = 5) (hF : F_Ro_change o p1 p2 h = h') : CON 0 yX3_change cX3_change 3 none [vR o, vI p1, vI p2] h none h' := by
  refine con_of (own := RX3) (fl := flX3) (by decide +kernel) rfl flok_X3 rfl (Nat.le_of_ble_eq_true rfl) ?_
  intro K hK hR
  show K 0 [(0, vR o), (1, vI p1), (2, vI p2)] [] h
  unfold F_Ro_change at hF
  refine g_seg hK [.iload_n 1] 0 1 (L1 := [(0, vR o), (1, vI p1), (2, vI p2)]) (st1 := [vI p1]) (h1 := h) (P := True ∧ True) (by decide +kernel) rfl rfl ⟨trivial, trivial⟩ ?_
  refine g_ifz hK 1 .lt (27) 28 (t1 := 28) (t2 := 4) (by decide +kernel) (by decide) rfl rfl (fun (hc1 : p1 < 0) => ?_) (fun (hc1 : ¬ (p1 < 0)) => ?_)
  · have hF := ite_t hc1 hF
    cases hF
    exact hR.2.2.2.2 28 _ _ (by decide +kernel) rfl ⟨rfl, rfl⟩
  · have hF := ite_f hc1 hF
    refine g_seg hK [.iload_n 1, .aload_n 0, .getfield 7] 4 9 (L1 := [(0, vR o), (1, vI p1), (2, vI p2)]) (st1 := [vI (h o 1), vI p1]) (h1 := h) (P := True ∧ True ∧ kd o = 5 ∧ True) (by decide +kernel) rfl rfl ⟨trivial, trivial, ko, trivial⟩ ?_
    refine g_icmp hK 9 .ge (19) 28 (t1 := 12) (t2 := 28) (by decide +kernel) (by decide) rfl rfl (fun (hc2 : p1 < h o 1) => ?_) (fun (hc2 : ¬ (p1 < h o 1)) => ?_)
    · have hF := ite_t hc2 hF
      refine g_seg hK [.iload_n 1, .aload_n 0, .getfield 13, .arraylength] 12 18 (L1 := [(0, vR o), (1, vI p1), (2, vI p2)]) (st1 := [vI (al (rf o 0) : Int), vI p1]) (h1 := h) (P := True ∧ True ∧ kd o = 5 ∧ kd (rf o 0) ≤ 1 ∧ True) (by decide +kernel) rfl rfl ⟨trivial, trivial, ko, (by rw [show kd (rf o 0) = 0 from (kt_5_0 ko)]; decide), trivial⟩ ?_
      refine g_icmp hK 18 .ge (10) 28 (t1 := 21) (t2 := 28) (by decide +kernel) (by decide) rfl rfl (fun (hc3 : p1 < (al (rf o 0) : Int)) => ?_) (fun (hc3 : ¬ (p1 < (al (rf o 0) : Int))) => ?_)
      · have hF := ite_t hc3 hF
        refine g_seg hK [.aload_n 0, .getfield 13, .iload_n 1, .iload_n 2, .iastore] 21 28 (L1 := [(0, vR o), (1, vI p1), (2, vI p2)]) (st1 := []) (h1 := (up h (rf o 0) p1.toNat p2)) (P := True ∧ kd o = 5 ∧ True ∧ True ∧ (kd (rf o 0) = 0 ∧ 0 ≤ p1 ∧ p1 < (al (rf o 0) : Int)) ∧ True) (by decide +kernel) rfl rfl ⟨trivial, ko, trivial, trivial, ⟨(kt_5_0 ko), ⟨(by omega), hc3⟩⟩, trivial⟩ ?_
        cases hF
        exact hR.2.2.2.2 28 _ _ (by decide +kernel) rfl ⟨rfl, rfl⟩
      · have hF := ite_f hc3 hF
        cases hF
        exact hR.2.2.2.2 28 _ _ (by decide +kernel) rfl ⟨rfl, rfl⟩
    · have hF := ite_f hc2 hF
      cases hF
      exact hR.2.2.2.2 28 _ _ (by decide +kernel) rfl ⟨rfl, rfl⟩
set_option maxHeartbeats 4000000 in
set_option maxRecDepth 100000 in
theorem LT_Ro_putIn_L42 {K : KT} (hK : Rules RX3 cX3_putIn 4 none flX3 1 K) {x0 : Nat} {x1 : Int} {x2 : Int} (kx0 : kd x0 = 5) : ∀ (n : Nat) (x3 : Int) (h : MH) (x3' : Int) (h' : MH), F_Ro_putIn_L42 x0 x1 x2 n x3 h = some (x3', h') → K 65 [(0, vR x0), (1, vI x1), (2, vI x2), (3, vI x3')] [] h' → K 42 [(0, vR x0), (1, vI x1), (2, vI x2), (3, vI x3)] [] h := by
  intro n
  induction n with
  | zero =>
    intro x3 h x3' h' hF
    cases hF
  | succ n ih =>
    intro x3 h x3' h' hF hE
    unfold F_Ro_putIn_L42 at hF
    refine g_seg hK [.iload_n 3, .iload_n 1] 42 44 (L1 := [(0, vR x0), (1, vI x1), (2, vI x2), (3, vI x3)]) (st1 := [vI x1, vI x3]) (h1 := h) (P := True ∧ True ∧ True) (by decide +kernel) rfl rfl ⟨trivial, trivial, trivial⟩ ?_
    refine g_icmp hK 44 .le (21) 65 (t1 := 65) (t2 := 47) (by decide +kernel) (by decide) rfl rfl (fun (hc1 : x3 ≤ x1) => ?_) (fun (hc1 : ¬ (x3 ≤ x1)) => ?_)
    · have hF := ite_t hc1 hF
      cases hF
      exact hE
    · have hF := ite_f hc1 hF
      refine g_seg hK [.aload_n 0, .iload_n 3, .aload_n 0, .iload_n 3, .iconst 1, .isub] 47 53 (L1 := [(0, vR x0), (1, vI x1), (2, vI x2), (3, vI x3)]) (st1 := [vI (wr (x3 - 1)), vR x0, vI x3, vR x0]) (h1 := h) (P := True ∧ True ∧ True ∧ True ∧ True ∧ True ∧ True) (by decide +kernel) rfl rfl ⟨trivial, trivial, trivial, trivial, trivial, trivial, trivial⟩ ?_
      refine g_callV1 hK 53 17 (d1 := 0) (ci := 3) (i := x0) (vs := [vI (wr (x3 - 1))]) (rest := [vI x3, vR x0]) (h1 := h) (r := vI (F_Ro_at x0 (wr (x3 - 1)) h)) my_yX3_at vw_X3_17 (by decide) (T_Ro_at (o := x0) (p1 := (wr (x3 - 1))) (h := h) (ko := kx0) (hF := rfl)) kx0 rfl rfl (Nat.le_of_ble_eq_true rfl) (by decide +kernel) ?_
      refine g_callV0 hK 56 21 (d1 := 0) (ci := 3) (i := x0) (vs := [vI x3, vI (F_Ro_at x0 (wr (x3 - 1)) h)]) (rest := []) (h1 := (F_Ro_change x0 x3 (F_Ro_at x0 (wr (x3 - 1)) h) h)) my_yX3_change vw_X3_21 (by decide) (T_Ro_change (o := x0) (p1 := x3) (p2 := (F_Ro_at x0 (wr (x3 - 1)) h)) (h := h) (ko := kx0) (hF := rfl)) kx0 rfl rfl (Nat.le_of_ble_eq_true rfl) (by decide +kernel) ?_
      refine g_seg hK [.iinc 3 (-1)] 59 62 (L1 := [(3, vI (wr (x3 + (-1)))), (0, vR x0), (1, vI x1), (2, vI x2)]) (st1 := []) (h1 := (F_Ro_change x0 x3 (F_Ro_at x0 (wr (x3 - 1)) h) h)) (P := True ∧ True) (by decide +kernel) rfl rfl ⟨trivial, trivial⟩ ?_
      refine g_goto hK 62 (-20) 42 (by decide +kernel) (by decide) ?_
      refine hK.2.1 _ _ ([(0, vR x0), (1, vI x1), (2, vI x2), (3, vI (wr (x3 + (-1))))]) _ _ (sub_of [1, 2, 3, 0] rfl) ?_
      exact ih _ _ _ _ hF hE
set_option maxHeartbeats 4000000 in
set_option maxRecDepth 100000 in
theorem T_Ro_putIn {o : Nat} {p1 : Int} {p2 : Int} {h : MH} {h' : MH} (ko : kd o = 5) (hF : F_Ro_putIn o p1 p2 h = some h') : CON 1 yX3_putIn cX3_putIn 4 none [vR o, vI p1, vI p2] h none h' := by
  refine con_of (own := RX3) (fl := flX3) (by decide +kernel) rfl flok_X3 rfl (Nat.le_of_ble_eq_true rfl) ?_
  intro K hK hR
  show K 0 [(0, vR o), (1, vI p1), (2, vI p2)] [] h
  unfold F_Ro_putIn at hF
  refine g_seg hK [.iload_n 1] 0 1 (L1 := [(0, vR o), (1, vI p1), (2, vI p2)]) (st1 := [vI p1]) (h1 := h) (P := True ∧ True) (by decide +kernel) rfl rfl ⟨trivial, trivial⟩ ?_
  refine g_ifz hK 1 .lt (23) 24 (t1 := 24) (t2 := 4) (by decide +kernel) (by decide) rfl rfl (fun (hc1 : p1 < 0) => ?_) (fun (hc1 : ¬ (p1 < 0)) => ?_)
  · have hF := ite_t hc1 hF
    cases hF
    exact hR.2.2.2.2 24 _ _ (by decide +kernel) rfl ⟨rfl, rfl⟩
  · have hF := ite_f hc1 hF
    refine g_seg hK [.iload_n 1, .aload_n 0, .getfield 7] 4 9 (L1 := [(0, vR o), (1, vI p1), (2, vI p2)]) (st1 := [vI (h o 1), vI p1]) (h1 := h) (P := True ∧ True ∧ kd o = 5 ∧ True) (by decide +kernel) rfl rfl ⟨trivial, trivial, ko, trivial⟩ ?_
    refine g_icmp hK 9 .gt (15) 24 (t1 := 12) (t2 := 24) (by decide +kernel) (by decide) rfl rfl (fun (hc2 : p1 ≤ h o 1) => ?_) (fun (hc2 : ¬ (p1 ≤ h o 1)) => ?_)
    · have hF := ite_t hc2 hF
      refine g_seg hK [.aload_n 0, .getfield 7, .aload_n 0, .getfield 13, .arraylength] 12 21 (L1 := [(0, vR o), (1, vI p1), (2, vI p2)]) (st1 := [vI (al (rf o 0) : Int), vI (h o 1)]) (h1 := h) (P := True ∧ kd o = 5 ∧ True ∧ kd o = 5 ∧ kd (rf o 0) ≤ 1 ∧ True) (by decide +kernel) rfl rfl ⟨trivial, ko, trivial, ko, (by rw [show kd (rf o 0) = 0 from (kt_5_0 ko)]; decide), trivial⟩ ?_
      refine g_icmp hK 21 .lt (4) 25 (t1 := 25) (t2 := 24) (by decide +kernel) (by decide) rfl rfl (fun (hc3 : h o 1 < (al (rf o 0) : Int)) => ?_) (fun (hc3 : ¬ (h o 1 < (al (rf o 0) : Int))) => ?_)
      · have hF := ite_t hc3 hF
        refine g_seg hK [.aload_n 0, .dup, .getfield 7, .iconst 1, .iadd, .putfield 7, .aload_n 0, .getfield 7, .iconst 1, .isub, .istore_n 3] 25 42 (L1 := [(3, vI (wr (((up h o 1 (wr ((h o 1) + 1))) o 1) - 1))), (0, vR o), (1, vI p1), (2, vI p2)]) (st1 := []) (h1 := (up h o 1 (wr ((h o 1) + 1)))) (P := True ∧ True ∧ kd o = 5 ∧ True ∧ True ∧ kd o = 5 ∧ True ∧ kd o = 5 ∧ True ∧ True ∧ True ∧ True) (by decide +kernel) rfl rfl ⟨trivial, trivial, ko, trivial, trivial, ko, trivial, ko, trivial, trivial, trivial, trivial⟩ ?_
        refine hK.2.1 _ _ ([(0, vR o), (1, vI p1), (2, vI p2), (3, vI (wr (((up h o 1 (wr ((h o 1) + 1))) o 1) - 1)))]) _ _ (sub_of [1, 2, 3, 0] rfl) ?_
        obtain ⟨x3_4, h5, e6, hF⟩ := ob2_elim hF
        refine LT_Ro_putIn_L42 hK (kx0 := ko) _ _ _ _ _ e6 ?_
        refine g_seg hK [.aload_n 0, .iload_n 1, .iload_n 2] 65 68 (L1 := [(0, vR o), (1, vI p1), (2, vI p2), (3, vI x3_4)]) (st1 := [vI p2, vI p1, vR o]) (h1 := h5) (P := True ∧ True ∧ True ∧ True) (by decide +kernel) rfl rfl ⟨trivial, trivial, trivial, trivial⟩ ?_
        refine g_callV0 hK 68 21 (d1 := 0) (ci := 3) (i := o) (vs := [vI p1, vI p2]) (rest := []) (h1 := (F_Ro_change o p1 p2 h5)) my_yX3_change vw_X3_21 (by decide) (T_Ro_change (o := o) (p1 := p1) (p2 := p2) (h := h5) (ko := ko) (hF := rfl)) ko rfl rfl (Nat.le_of_ble_eq_true rfl) (by decide +kernel) ?_
        cases hF
        exact hR.2.2.2.2 71 _ _ (by decide +kernel) rfl ⟨rfl, rfl⟩
      · have hF := ite_f hc3 hF
        cases hF
        exact hR.2.2.2.2 24 _ _ (by decide +kernel) rfl ⟨rfl, rfl⟩
    · have hF := ite_f hc2 hF
      cases hF
      exact hR.2.2.2.2 24 _ _ (by decide +kernel) rfl ⟨rfl, rfl⟩
set_option maxHeartbeats 4000000 in
set_option maxRecDepth 100000 in
theorem LT_Ro_putOut_L15 {K : KT} (hK : Rules RX3 cX3_putOut 3 none flX3 1 K) {x0 : Nat} (kx0 : kd x0 = 5) : ∀ (n : Nat) (x2 : Int) (h : MH) (x2' : Int) (h' : MH), F_Ro_putOut_L15 x0 n x2 h = some (x2', h') → K 43 [(0, vR x0), (2, vI x2')] [] h' → K 15 [(0, vR x0), (2, vI x2)] [] h := by
  intro n
  induction n with
  | zero =>
    intro x2 h x2' h' hF
    cases hF
  | succ n ih =>
    intro x2 h x2' h' hF hE
    unfold F_Ro_putOut_L15 at hF
    refine g_seg hK [.iload_n 2, .aload_n 0, .getfield 7, .iconst 1, .isub] 15 22 (L1 := [(0, vR x0), (2, vI x2)]) (st1 := [vI (wr ((h x0 1) - 1)), vI x2]) (h1 := h) (P := True ∧ True ∧ kd x0 = 5 ∧ True ∧ True ∧ True) (by decide +kernel) rfl rfl ⟨trivial, trivial, kx0, trivial, trivial, trivial⟩ ?_
    refine g_icmp hK 22 .ge (21) 43 (t1 := 25) (t2 := 43) (by decide +kernel) (by decide) rfl rfl (fun (hc1 : x2 < wr ((h x0 1) - 1)) => ?_) (fun (hc1 : ¬ (x2 < wr ((h x0 1) - 1))) => ?_)
    · have hF := ite_t hc1 hF
      refine g_seg hK [.aload_n 0, .iload_n 2, .aload_n 0, .iload_n 2, .iconst 1, .iadd] 25 31 (L1 := [(0, vR x0), (2, vI x2)]) (st1 := [vI (wr (x2 + 1)), vR x0, vI x2, vR x0]) (h1 := h) (P := True ∧ True ∧ True ∧ True ∧ True ∧ True ∧ True) (by decide +kernel) rfl rfl ⟨trivial, trivial, trivial, trivial, trivial, trivial, trivial⟩ ?_
      refine g_callV1 hK 31 17 (d1 := 0) (ci := 3) (i := x0) (vs := [vI (wr (x2 + 1))]) (rest := [vI x2, vR x0]) (h1 := h) (r := vI (F_Ro_at x0 (wr (x2 + 1)) h)) my_yX3_at vw_X3_17 (by decide) (T_Ro_at (o := x0) (p1 := (wr (x2 + 1))) (h := h) (ko := kx0) (hF := rfl)) kx0 rfl rfl (Nat.le_of_ble_eq_true rfl) (by decide +kernel) ?_
      refine g_callV0 hK 34 21 (d1 := 0) (ci := 3) (i := x0) (vs := [vI x2, vI (F_Ro_at x0 (wr (x2 + 1)) h)]) (rest := []) (h1 := (F_Ro_change x0 x2 (F_Ro_at x0 (wr (x2 + 1)) h) h)) my_yX3_change vw_X3_21 (by decide) (T_Ro_change (o := x0) (p1 := x2) (p2 := (F_Ro_at x0 (wr (x2 + 1)) h)) (h := h) (ko := kx0) (hF := rfl)) kx0 rfl rfl (Nat.le_of_ble_eq_true rfl) (by decide +kernel) ?_
      refine g_seg hK [.iinc 2 1] 37 40 (L1 := [(2, vI (wr (x2 + 1))), (0, vR x0)]) (st1 := []) (h1 := (F_Ro_change x0 x2 (F_Ro_at x0 (wr (x2 + 1)) h) h)) (P := True ∧ True) (by decide +kernel) rfl rfl ⟨trivial, trivial⟩ ?_
      refine g_goto hK 40 (-25) 15 (by decide +kernel) (by decide) ?_
      refine hK.2.1 _ _ ([(0, vR x0), (2, vI (wr (x2 + 1)))]) _ _ (sub_of [1, 0] rfl) ?_
      exact ih _ _ _ _ hF hE
    · have hF := ite_f hc1 hF
      cases hF
      exact hE
set_option maxHeartbeats 4000000 in
set_option maxRecDepth 100000 in
theorem T_Ro_putOut {o : Nat} {p1 : Int} {h : MH} {h' : MH} (ko : kd o = 5) (hF : F_Ro_putOut o p1 h = some h') : CON 1 yX3_putOut cX3_putOut 3 none [vR o, vI p1] h none h' := by
  refine con_of (own := RX3) (fl := flX3) (by decide +kernel) rfl flok_X3 rfl (Nat.le_of_ble_eq_true rfl) ?_
  intro K hK hR
  show K 0 [(0, vR o), (1, vI p1)] [] h
  unfold F_Ro_putOut at hF
  refine g_seg hK [.iload_n 1] 0 1 (L1 := [(0, vR o), (1, vI p1)]) (st1 := [vI p1]) (h1 := h) (P := True ∧ True) (by decide +kernel) rfl rfl ⟨trivial, trivial⟩ ?_
  refine g_ifz hK 1 .lt (11) 12 (t1 := 12) (t2 := 4) (by decide +kernel) (by decide) rfl rfl (fun (hc1 : p1 < 0) => ?_) (fun (hc1 : ¬ (p1 < 0)) => ?_)
  · have hF := ite_t hc1 hF
    cases hF
    exact hR.2.2.2.2 12 _ _ (by decide +kernel) rfl ⟨rfl, rfl⟩
  · have hF := ite_f hc1 hF
    refine g_seg hK [.iload_n 1, .aload_n 0, .getfield 7] 4 9 (L1 := [(0, vR o), (1, vI p1)]) (st1 := [vI (h o 1), vI p1]) (h1 := h) (P := True ∧ True ∧ kd o = 5 ∧ True) (by decide +kernel) rfl rfl ⟨trivial, trivial, ko, trivial⟩ ?_
    refine g_icmp hK 9 .lt (4) 13 (t1 := 13) (t2 := 12) (by decide +kernel) (by decide) rfl rfl (fun (hc2 : p1 < h o 1) => ?_) (fun (hc2 : ¬ (p1 < h o 1)) => ?_)
    · have hF := ite_t hc2 hF
      refine g_seg hK [.iload_n 1, .istore_n 2] 13 15 (L1 := [(2, vI p1), (0, vR o), (1, vI p1)]) (st1 := []) (h1 := h) (P := True ∧ True ∧ True) (by decide +kernel) rfl rfl ⟨trivial, trivial, trivial⟩ ?_
      refine hK.2.1 _ _ ([(0, vR o), (2, vI p1)]) _ _ (sub_of [1, 0] rfl) ?_
      obtain ⟨x2_3, h4, e5, hF⟩ := ob2_elim hF
      refine LT_Ro_putOut_L15 hK (kx0 := ko) _ _ _ _ _ e5 ?_
      refine g_seg hK [.aload_n 0, .dup, .getfield 7, .iconst 1, .isub, .putfield 7] 43 53 (L1 := [(0, vR o), (2, vI x2_3)]) (st1 := []) (h1 := (up h4 o 1 (wr ((h4 o 1) - 1)))) (P := True ∧ True ∧ kd o = 5 ∧ True ∧ True ∧ kd o = 5 ∧ True) (by decide +kernel) rfl rfl ⟨trivial, trivial, ko, trivial, trivial, ko, trivial⟩ ?_
      cases hF
      exact hR.2.2.2.2 53 _ _ (by decide +kernel) rfl ⟨rfl, rfl⟩
    · have hF := ite_f hc2 hF
      cases hF
      exact hR.2.2.2.2 12 _ _ (by decide +kernel) rfl ⟨rfl, rfl⟩
set_option maxHeartbeats 4000000 in
set_option maxRecDepth 100000 in
theorem T_X_edit {p1 : Int} {p2 : Int} {p3 : Int} {h : MH} {r : Int} {h' : MH} (hF : F_X_edit p1 p2 p3 h = some (r, h')) : CON 6 yX6_edit cX6_edit 7 (Option.some Jvm.ClassFile.FieldType.int) [vR 0, vI p1, vI p2, vI p3] h (some (vI r)) h' := by
  refine con_of (own := RX6) (fl := flX6) (by decide +kernel) rfl flok_X6 rfl (Nat.le_of_ble_eq_true rfl) ?_
  intro K hK hR
  show K 0 [(0, vR 0), (1, vI p1), (2, vI p2), (3, vI p3)] [] h
  unfold F_X_edit at hF
  refine g_seg hK [.iload_n 1] 0 1 (L1 := [(0, vR 0), (1, vI p1), (2, vI p2), (3, vI p3)]) (st1 := [vI p1]) (h1 := h) (P := True ∧ True) (by decide +kernel) rfl rfl ⟨trivial, trivial⟩ ?_
  refine g_callS1 hK 1 77 (d1 := 0) (vs := [vI p1]) (rest := []) (h1 := h) (r := vI (F_X_isText p1)) my_yX6_isText sw_X6_77 (by decide) (T_X_isText (p1 := p1) (h := h) (hF := rfl)) rfl (Nat.le_of_ble_eq_true rfl) (by decide +kernel) ?_
  refine g_ifz hK 4 .ne (5) 9 (t1 := 7) (t2 := 9) (by decide +kernel) (by decide) rfl rfl (fun (hc1 : F_X_isText p1 = 0) => ?_) (fun (hc1 : ¬ (F_X_isText p1 = 0)) => ?_)
  · have hF := ite_t hc1 hF
    refine g_seg hK [.iconst (-1)] 7 8 (L1 := [(0, vR 0), (1, vI p1), (2, vI p2), (3, vI p3)]) (st1 := [vI (-1)]) (h1 := h) (P := True ∧ True) (by decide +kernel) rfl rfl ⟨trivial, trivial⟩ ?_
    cases hF
    exact hR.1 8 _ _ _ (by decide +kernel) rfl ⟨rfl, rfl⟩
  · have hF := ite_f hc1 hF
    refine g_seg hK [.aload_n 0, .getfield 21, .iload_n 1] 9 14 (L1 := [(0, vR 0), (1, vI p1), (2, vI p2), (3, vI p3)]) (st1 := [vI p1, vR 3]) (h1 := h) (P := True ∧ kd 0 = 8 ∧ True ∧ True) (by decide +kernel) rfl rfl ⟨trivial, rfl, trivial, trivial⟩ ?_
    refine g_callV1 hK 14 88 (d1 := 0) (ci := 4) (i := 3) (vs := [vI p1]) (rest := []) (h1 := h) (r := vR (F_St_text 3 p1)) my_yX4_text vw_X6_88 (by decide) (T_St_text (o := 3) (p1 := p1) (h := h) (ks := rfl) (hF := rfl)) rfl rfl rfl (Nat.le_of_ble_eq_true rfl) (by decide +kernel) ?_
    refine g_seg hK [.astore 4, .iload_n 3] 17 20 (L1 := [(4, vR (F_St_text 3 p1)), (0, vR 0), (1, vI p1), (2, vI p2), (3, vI p3)]) (st1 := [vI p3]) (h1 := h) (P := True ∧ True ∧ True) (by decide +kernel) rfl rfl ⟨trivial, trivial, trivial⟩ ?_
    refine g_callS1 hK 20 92 (d1 := 2) (vs := [vI p3]) (rest := []) (h1 := h) (r := vI (F_X_isSign p3)) my_yX6_isSign sw_X6_92 (by decide) (T_X_isSign (p1 := p3) (h := h) (hF := rfl)) rfl (Nat.le_of_ble_eq_true rfl) (by decide +kernel) ?_
    refine g_seg hK [.istore 5, .iload_n 3, .bipush 10, .isub] 23 29 (L1 := [(5, vI (F_X_isSign p3)), (4, vR (F_St_text 3 p1)), (0, vR 0), (1, vI p1), (2, vI p2), (3, vI p3)]) (st1 := [vI (wr (p3 - 10))]) (h1 := h) (P := True ∧ True ∧ True ∧ True ∧ True) (by decide +kernel) rfl rfl ⟨trivial, trivial, trivial, trivial, trivial⟩ ?_
    refine g_callS1 hK 29 92 (d1 := 2) (vs := [vI (wr (p3 - 10))]) (rest := []) (h1 := h) (r := vI (F_X_isSign (wr (p3 - 10)))) my_yX6_isSign sw_X6_92 (by decide) (T_X_isSign (p1 := (wr (p3 - 10))) (h := h) (hF := rfl)) rfl (Nat.le_of_ble_eq_true rfl) (by decide +kernel) ?_
    refine g_seg hK [.istore 6, .iload 5] 32 36 (L1 := [(6, vI (F_X_isSign (wr (p3 - 10)))), (5, vI (F_X_isSign p3)), (4, vR (F_St_text 3 p1)), (0, vR 0), (1, vI p1), (2, vI p2), (3, vI p3)]) (st1 := [vI (F_X_isSign p3)]) (h1 := h) (P := True ∧ True ∧ True) (by decide +kernel) rfl rfl ⟨trivial, trivial, trivial⟩ ?_
    refine g_ifz hK 36 .ne (16) 52 (t1 := 39) (t2 := 52) (by decide +kernel) (by decide) rfl rfl (fun (hc2 : F_X_isSign p3 = 0) => ?_) (fun (hc2 : ¬ (F_X_isSign p3 = 0)) => ?_)
    · have hF := ite_t hc2 hF
      refine g_seg hK [.iload 6] 39 41 (L1 := [(6, vI (F_X_isSign (wr (p3 - 10)))), (5, vI (F_X_isSign p3)), (4, vR (F_St_text 3 p1)), (0, vR 0), (1, vI p1), (2, vI p2), (3, vI p3)]) (st1 := [vI (F_X_isSign (wr (p3 - 10)))]) (h1 := h) (P := True ∧ True) (by decide +kernel) rfl rfl ⟨trivial, trivial⟩ ?_
      refine g_ifz hK 41 .ne (11) 52 (t1 := 44) (t2 := 52) (by decide +kernel) (by decide) rfl rfl (fun (hc3 : F_X_isSign (wr (p3 - 10)) = 0) => ?_) (fun (hc3 : ¬ (F_X_isSign (wr (p3 - 10)) = 0)) => ?_)
      · have hF := ite_t hc3 hF
        refine g_seg hK [.iload_n 3, .bipush 20] 44 47 (L1 := [(6, vI (F_X_isSign (wr (p3 - 10)))), (5, vI (F_X_isSign p3)), (4, vR (F_St_text 3 p1)), (0, vR 0), (1, vI p1), (2, vI p2), (3, vI p3)]) (st1 := [vI 20, vI p3]) (h1 := h) (P := True ∧ True ∧ True) (by decide +kernel) rfl rfl ⟨trivial, trivial, trivial⟩ ?_
        refine g_icmp hK 47 .eq (5) 52 (t1 := 52) (t2 := 50) (by decide +kernel) (by decide) rfl rfl (fun (hc4 : p3 = 20) => ?_) (fun (hc4 : ¬ (p3 = 20)) => ?_)
        · have hF := ite_t hc4 hF
          refine g_seg hK [.iload_n 2] 52 53 (L1 := [(6, vI (F_X_isSign (wr (p3 - 10)))), (5, vI (F_X_isSign p3)), (4, vR (F_St_text 3 p1)), (0, vR 0), (1, vI p1), (2, vI p2), (3, vI p3)]) (st1 := [vI p2]) (h1 := h) (P := True ∧ True) (by decide +kernel) rfl rfl ⟨trivial, trivial⟩ ?_
          refine g_ifz hK 53 .lt (26) 79 (t1 := 79) (t2 := 56) (by decide +kernel) (by decide) rfl rfl (fun (hc5 : p2 < 0) => ?_) (fun (hc5 : ¬ (p2 < 0)) => ?_)
          · have hF := ite_t hc5 hF
            refine g_seg hK [.iconst (-1)] 79 80 (L1 := [(6, vI (F_X_isSign (wr (p3 - 10)))), (5, vI (F_X_isSign p3)), (4, vR (F_St_text 3 p1)), (0, vR 0), (1, vI p1), (2, vI p2), (3, vI p3)]) (st1 := [vI (-1)]) (h1 := h) (P := True ∧ True) (by decide +kernel) rfl rfl ⟨trivial, trivial⟩ ?_
            cases hF
            exact hR.1 80 _ _ _ (by decide +kernel) rfl ⟨rfl, rfl⟩
          · have hF := ite_f hc5 hF
            refine g_seg hK [.iload_n 2, .aload 4] 56 59 (L1 := [(6, vI (F_X_isSign (wr (p3 - 10)))), (5, vI (F_X_isSign p3)), (4, vR (F_St_text 3 p1)), (0, vR 0), (1, vI p1), (2, vI p2), (3, vI p3)]) (st1 := [vR (F_St_text 3 p1), vI p2]) (h1 := h) (P := True ∧ True ∧ True) (by decide +kernel) rfl rfl ⟨trivial, trivial, trivial⟩ ?_
            refine g_callV1 hK 59 63 (d1 := 0) (ci := 3) (i := F_St_text 3 p1) (vs := []) (rest := [vI p2]) (h1 := h) (r := vI (F_Ro_size (F_St_text 3 p1) h)) my_yX3_size vw_X6_63 (by decide) (T_Ro_size (o := (F_St_text 3 p1)) (h := h) (ko := (kd_St_text rfl)) (hF := rfl)) (kd_St_text rfl) rfl rfl (Nat.le_of_ble_eq_true rfl) (by decide +kernel) ?_
            refine g_icmp hK 62 .gt (17) 79 (t1 := 65) (t2 := 79) (by decide +kernel) (by decide) rfl rfl (fun (hc6 : p2 ≤ F_Ro_size (F_St_text 3 p1) h) => ?_) (fun (hc6 : ¬ (p2 ≤ F_Ro_size (F_St_text 3 p1) h)) => ?_)
            · have hF := ite_t hc6 hF
              refine g_seg hK [.iload_n 2, .aload 4] 65 68 (L1 := [(6, vI (F_X_isSign (wr (p3 - 10)))), (5, vI (F_X_isSign p3)), (4, vR (F_St_text 3 p1)), (0, vR 0), (1, vI p1), (2, vI p2), (3, vI p3)]) (st1 := [vR (F_St_text 3 p1), vI p2]) (h1 := h) (P := True ∧ True ∧ True) (by decide +kernel) rfl rfl ⟨trivial, trivial, trivial⟩ ?_
              refine g_callV1 hK 68 63 (d1 := 0) (ci := 3) (i := F_St_text 3 p1) (vs := []) (rest := [vI p2]) (h1 := h) (r := vI (F_Ro_size (F_St_text 3 p1) h)) my_yX3_size vw_X6_63 (by decide) (T_Ro_size (o := (F_St_text 3 p1)) (h := h) (ko := (kd_St_text rfl)) (hF := rfl)) (kd_St_text rfl) rfl rfl (Nat.le_of_ble_eq_true rfl) (by decide +kernel) ?_
              refine g_icmp hK 71 .ne (10) 81 (t1 := 74) (t2 := 81) (by decide +kernel) (by decide) rfl rfl (fun (hc7 : p2 = F_Ro_size (F_St_text 3 p1) h) => ?_) (fun (hc7 : ¬ (p2 = F_Ro_size (F_St_text 3 p1) h)) => ?_)
              · have hF := ite_t hc7 hF
                refine g_seg hK [.iload 5] 74 76 (L1 := [(6, vI (F_X_isSign (wr (p3 - 10)))), (5, vI (F_X_isSign p3)), (4, vR (F_St_text 3 p1)), (0, vR 0), (1, vI p1), (2, vI p2), (3, vI p3)]) (st1 := [vI (F_X_isSign p3)]) (h1 := h) (P := True ∧ True) (by decide +kernel) rfl rfl ⟨trivial, trivial⟩ ?_
                refine g_ifz hK 76 .ne (5) 81 (t1 := 79) (t2 := 81) (by decide +kernel) (by decide) rfl rfl (fun (hc8 : F_X_isSign p3 = 0) => ?_) (fun (hc8 : ¬ (F_X_isSign p3 = 0)) => ?_)
                · have hF := ite_t hc8 hF
                  refine g_seg hK [.iconst (-1)] 79 80 (L1 := [(6, vI (F_X_isSign (wr (p3 - 10)))), (5, vI (F_X_isSign p3)), (4, vR (F_St_text 3 p1)), (0, vR 0), (1, vI p1), (2, vI p2), (3, vI p3)]) (st1 := [vI (-1)]) (h1 := h) (P := True ∧ True) (by decide +kernel) rfl rfl ⟨trivial, trivial⟩ ?_
                  cases hF
                  exact hR.1 80 _ _ _ (by decide +kernel) rfl ⟨rfl, rfl⟩
                · have hF := ite_f hc8 hF
                  refine g_seg hK [.iload 5] 81 83 (L1 := [(6, vI (F_X_isSign (wr (p3 - 10)))), (5, vI (F_X_isSign p3)), (4, vR (F_St_text 3 p1)), (0, vR 0), (1, vI p1), (2, vI p2), (3, vI p3)]) (st1 := [vI (F_X_isSign p3)]) (h1 := h) (P := True ∧ True) (by decide +kernel) rfl rfl ⟨trivial, trivial⟩ ?_
                  refine g_ifz hK 83 .eq (16) 99 (t1 := 99) (t2 := 86) (by decide +kernel) (by decide) rfl rfl (fun (hc9 : F_X_isSign p3 = 0) => ?_) (fun (hc9 : ¬ (F_X_isSign p3 = 0)) => ?_)
                  · have hF := ite_t hc9 hF
                    refine g_seg hK [.aload_n 0, .getfield 35, .aload_n 0, .getfield 21] 99 107 (L1 := [(6, vI (F_X_isSign (wr (p3 - 10)))), (5, vI (F_X_isSign p3)), (4, vR (F_St_text 3 p1)), (0, vR 0), (1, vI p1), (2, vI p2), (3, vI p3)]) (st1 := [vR 3, vR 17]) (h1 := h) (P := True ∧ kd 0 = 8 ∧ True ∧ kd 0 = 8 ∧ True) (by decide +kernel) rfl rfl ⟨trivial, rfl, trivial, rfl, trivial⟩ ?_
                    obtain ⟨h10, e11, hF⟩ := ob1_elim hF
                    refine g_callV0 hK 107 84 (d1 := 5) (ci := 1) (i := 17) (vs := [vR 3]) (rest := []) (h1 := h10) my_yX1_record vw_X6_84 (by decide) (T_Hi_record (p1 := 3) (h := h) (kp1 := rfl) (hF := e11)) rfl rfl rfl (Nat.le_of_ble_eq_true rfl) (by decide +kernel) ?_
                    refine g_seg hK [.iload 5] 110 112 (L1 := [(6, vI (F_X_isSign (wr (p3 - 10)))), (5, vI (F_X_isSign p3)), (4, vR (F_St_text 3 p1)), (0, vR 0), (1, vI p1), (2, vI p2), (3, vI p3)]) (st1 := [vI (F_X_isSign p3)]) (h1 := h10) (P := True ∧ True) (by decide +kernel) rfl rfl ⟨trivial, trivial⟩ ?_
                    obtain ⟨kj13, e20, hF⟩ := jk1_elim hF
                    have j13 : ∀ (h12 : MH), kj13 h12 = some (r, h') → K 149 [(4, vR (F_St_text 3 p1))] [] h12 := by
                      intro h12 hF
                      have hF := (e20 h12).symm.trans hF
                      refine g_seg hK [.aload 4] 149 151 (L1 := [(4, vR (F_St_text 3 p1))]) (st1 := [vR (F_St_text 3 p1)]) (h1 := h12) (P := True ∧ True) (by decide +kernel) rfl rfl ⟨trivial, trivial⟩ ?_
                      refine g_callV1 hK 151 63 (d1 := 0) (ci := 3) (i := F_St_text 3 p1) (vs := []) (rest := []) (h1 := h12) (r := vI (F_Ro_size (F_St_text 3 p1) h12)) my_yX3_size vw_X6_63 (by decide) (T_Ro_size (o := (F_St_text 3 p1)) (h := h12) (ko := (kd_St_text rfl)) (hF := rfl)) (kd_St_text rfl) rfl rfl (Nat.le_of_ble_eq_true rfl) (by decide +kernel) ?_
                      cases hF
                      exact hR.1 154 _ _ _ (by decide +kernel) rfl ⟨rfl, rfl⟩
                    refine g_ifz hK 112 .eq (13) 125 (t1 := 125) (t2 := 115) (by decide +kernel) (by decide) rfl rfl (fun (hc14 : F_X_isSign p3 = 0) => ?_) (fun (hc14 : ¬ (F_X_isSign p3 = 0)) => ?_)
                    · have hF := ite_t hc14 hF
                      refine g_seg hK [.iload 6] 125 127 (L1 := [(6, vI (F_X_isSign (wr (p3 - 10)))), (5, vI (F_X_isSign p3)), (4, vR (F_St_text 3 p1)), (0, vR 0), (1, vI p1), (2, vI p2), (3, vI p3)]) (st1 := [vI (F_X_isSign (wr (p3 - 10)))]) (h1 := h10) (P := True ∧ True) (by decide +kernel) rfl rfl ⟨trivial, trivial⟩ ?_
                      refine g_ifz hK 127 .eq (16) 143 (t1 := 143) (t2 := 130) (by decide +kernel) (by decide) rfl rfl (fun (hc15 : F_X_isSign (wr (p3 - 10)) = 0) => ?_) (fun (hc15 : ¬ (F_X_isSign (wr (p3 - 10)) = 0)) => ?_)
                      · have hF := ite_t hc15 hF
                        refine g_seg hK [.aload 4, .iload_n 2] 143 146 (L1 := [(6, vI (F_X_isSign (wr (p3 - 10)))), (5, vI (F_X_isSign p3)), (4, vR (F_St_text 3 p1)), (0, vR 0), (1, vI p1), (2, vI p2), (3, vI p3)]) (st1 := [vI p2, vR (F_St_text 3 p1)]) (h1 := h10) (P := True ∧ True ∧ True) (by decide +kernel) rfl rfl ⟨trivial, trivial, trivial⟩ ?_
                        obtain ⟨h16, e17, hF⟩ := ob1_elim hF
                        refine g_callV0 hK 146 102 (d1 := 1) (ci := 3) (i := F_St_text 3 p1) (vs := [vI p2]) (rest := []) (h1 := h16) my_yX3_putOut vw_X6_102 (by decide) (T_Ro_putOut (o := (F_St_text 3 p1)) (p1 := p2) (h := h10) (ko := (kd_St_text rfl)) (hF := e17)) (kd_St_text rfl) rfl rfl (Nat.le_of_ble_eq_true rfl) (by decide +kernel) ?_
                        refine hK.2.1 _ _ ([(4, vR (F_St_text 3 p1))]) _ _ (sub_of [2] rfl) ?_
                        exact j13 _ hF
                      · have hF := ite_f hc15 hF
                        refine g_seg hK [.aload 4, .iload_n 2, .iload_n 3, .bipush 10, .isub] 130 137 (L1 := [(6, vI (F_X_isSign (wr (p3 - 10)))), (5, vI (F_X_isSign p3)), (4, vR (F_St_text 3 p1)), (0, vR 0), (1, vI p1), (2, vI p2), (3, vI p3)]) (st1 := [vI (wr (p3 - 10)), vI p2, vR (F_St_text 3 p1)]) (h1 := h10) (P := True ∧ True ∧ True ∧ True ∧ True ∧ True) (by decide +kernel) rfl rfl ⟨trivial, trivial, trivial, trivial, trivial, trivial⟩ ?_
                        refine g_callV0 hK 137 99 (d1 := 0) (ci := 3) (i := F_St_text 3 p1) (vs := [vI p2, vI (wr (p3 - 10))]) (rest := []) (h1 := (F_Ro_change (F_St_text 3 p1) p2 (wr (p3 - 10)) h10)) my_yX3_change vw_X6_99 (by decide) (T_Ro_change (o := (F_St_text 3 p1)) (p1 := p2) (p2 := (wr (p3 - 10))) (h := h10) (ko := (kd_St_text rfl)) (hF := rfl)) (kd_St_text rfl) rfl rfl (Nat.le_of_ble_eq_true rfl) (by decide +kernel) ?_
                        refine g_goto hK 140 (9) 149 (by decide +kernel) (by decide) ?_
                        refine hK.2.1 _ _ ([(4, vR (F_St_text 3 p1))]) _ _ (sub_of [2] rfl) ?_
                        exact j13 _ hF
                    · have hF := ite_f hc14 hF
                      refine g_seg hK [.aload 4, .iload_n 2, .iload_n 3] 115 119 (L1 := [(6, vI (F_X_isSign (wr (p3 - 10)))), (5, vI (F_X_isSign p3)), (4, vR (F_St_text 3 p1)), (0, vR 0), (1, vI p1), (2, vI p2), (3, vI p3)]) (st1 := [vI p3, vI p2, vR (F_St_text 3 p1)]) (h1 := h10) (P := True ∧ True ∧ True ∧ True) (by decide +kernel) rfl rfl ⟨trivial, trivial, trivial, trivial⟩ ?_
                      obtain ⟨h18, e19, hF⟩ := ob1_elim hF
                      refine g_callV0 hK 119 95 (d1 := 1) (ci := 3) (i := F_St_text 3 p1) (vs := [vI p2, vI p3]) (rest := []) (h1 := h18) my_yX3_putIn vw_X6_95 (by decide) (T_Ro_putIn (o := (F_St_text 3 p1)) (p1 := p2) (p2 := p3) (h := h10) (ko := (kd_St_text rfl)) (hF := e19)) (kd_St_text rfl) rfl rfl (Nat.le_of_ble_eq_true rfl) (by decide +kernel) ?_
                      refine g_goto hK 122 (27) 149 (by decide +kernel) (by decide) ?_
                      refine hK.2.1 _ _ ([(4, vR (F_St_text 3 p1))]) _ _ (sub_of [2] rfl) ?_
                      exact j13 _ hF
                  · have hF := ite_f hc9 hF
                    refine g_seg hK [.aload 4] 86 88 (L1 := [(6, vI (F_X_isSign (wr (p3 - 10)))), (5, vI (F_X_isSign p3)), (4, vR (F_St_text 3 p1)), (0, vR 0), (1, vI p1), (2, vI p2), (3, vI p3)]) (st1 := [vR (F_St_text 3 p1)]) (h1 := h) (P := True ∧ True) (by decide +kernel) rfl rfl ⟨trivial, trivial⟩ ?_
                    refine g_callV1 hK 88 63 (d1 := 0) (ci := 3) (i := F_St_text 3 p1) (vs := []) (rest := []) (h1 := h) (r := vI (F_Ro_size (F_St_text 3 p1) h)) my_yX3_size vw_X6_63 (by decide) (T_Ro_size (o := (F_St_text 3 p1)) (h := h) (ko := (kd_St_text rfl)) (hF := rfl)) (kd_St_text rfl) rfl rfl (Nat.le_of_ble_eq_true rfl) (by decide +kernel) ?_
                    refine g_seg hK [.bipush 14] 91 93 (L1 := [(6, vI (F_X_isSign (wr (p3 - 10)))), (5, vI (F_X_isSign p3)), (4, vR (F_St_text 3 p1)), (0, vR 0), (1, vI p1), (2, vI p2), (3, vI p3)]) (st1 := [vI 14, vI (F_Ro_size (F_St_text 3 p1) h)]) (h1 := h) (P := True ∧ True) (by decide +kernel) rfl rfl ⟨trivial, trivial⟩ ?_
                    refine g_icmp hK 93 .lt (6) 99 (t1 := 99) (t2 := 96) (by decide +kernel) (by decide) rfl rfl (fun (hc21 : F_Ro_size (F_St_text 3 p1) h < 14) => ?_) (fun (hc21 : ¬ (F_Ro_size (F_St_text 3 p1) h < 14)) => ?_)
                    · have hF := ite_t hc21 hF
                      refine g_seg hK [.aload_n 0, .getfield 35, .aload_n 0, .getfield 21] 99 107 (L1 := [(6, vI (F_X_isSign (wr (p3 - 10)))), (5, vI (F_X_isSign p3)), (4, vR (F_St_text 3 p1)), (0, vR 0), (1, vI p1), (2, vI p2), (3, vI p3)]) (st1 := [vR 3, vR 17]) (h1 := h) (P := True ∧ kd 0 = 8 ∧ True ∧ kd 0 = 8 ∧ True) (by decide +kernel) rfl rfl ⟨trivial, rfl, trivial, rfl, trivial⟩ ?_
                      obtain ⟨h22, e23, hF⟩ := ob1_elim hF
                      refine g_callV0 hK 107 84 (d1 := 5) (ci := 1) (i := 17) (vs := [vR 3]) (rest := []) (h1 := h22) my_yX1_record vw_X6_84 (by decide) (T_Hi_record (p1 := 3) (h := h) (kp1 := rfl) (hF := e23)) rfl rfl rfl (Nat.le_of_ble_eq_true rfl) (by decide +kernel) ?_
                      refine g_seg hK [.iload 5] 110 112 (L1 := [(6, vI (F_X_isSign (wr (p3 - 10)))), (5, vI (F_X_isSign p3)), (4, vR (F_St_text 3 p1)), (0, vR 0), (1, vI p1), (2, vI p2), (3, vI p3)]) (st1 := [vI (F_X_isSign p3)]) (h1 := h22) (P := True ∧ True) (by decide +kernel) rfl rfl ⟨trivial, trivial⟩ ?_
                      obtain ⟨kj25, e32, hF⟩ := jk1_elim hF
                      have j25 : ∀ (h24 : MH), kj25 h24 = some (r, h') → K 149 [(4, vR (F_St_text 3 p1))] [] h24 := by
                        intro h24 hF
                        have hF := (e32 h24).symm.trans hF
                        refine g_seg hK [.aload 4] 149 151 (L1 := [(4, vR (F_St_text 3 p1))]) (st1 := [vR (F_St_text 3 p1)]) (h1 := h24) (P := True ∧ True) (by decide +kernel) rfl rfl ⟨trivial, trivial⟩ ?_
                        refine g_callV1 hK 151 63 (d1 := 0) (ci := 3) (i := F_St_text 3 p1) (vs := []) (rest := []) (h1 := h24) (r := vI (F_Ro_size (F_St_text 3 p1) h24)) my_yX3_size vw_X6_63 (by decide) (T_Ro_size (o := (F_St_text 3 p1)) (h := h24) (ko := (kd_St_text rfl)) (hF := rfl)) (kd_St_text rfl) rfl rfl (Nat.le_of_ble_eq_true rfl) (by decide +kernel) ?_
                        cases hF
                        exact hR.1 154 _ _ _ (by decide +kernel) rfl ⟨rfl, rfl⟩
                      refine g_ifz hK 112 .eq (13) 125 (t1 := 125) (t2 := 115) (by decide +kernel) (by decide) rfl rfl (fun (hc26 : F_X_isSign p3 = 0) => ?_) (fun (hc26 : ¬ (F_X_isSign p3 = 0)) => ?_)
                      · have hF := ite_t hc26 hF
                        refine g_seg hK [.iload 6] 125 127 (L1 := [(6, vI (F_X_isSign (wr (p3 - 10)))), (5, vI (F_X_isSign p3)), (4, vR (F_St_text 3 p1)), (0, vR 0), (1, vI p1), (2, vI p2), (3, vI p3)]) (st1 := [vI (F_X_isSign (wr (p3 - 10)))]) (h1 := h22) (P := True ∧ True) (by decide +kernel) rfl rfl ⟨trivial, trivial⟩ ?_
                        refine g_ifz hK 127 .eq (16) 143 (t1 := 143) (t2 := 130) (by decide +kernel) (by decide) rfl rfl (fun (hc27 : F_X_isSign (wr (p3 - 10)) = 0) => ?_) (fun (hc27 : ¬ (F_X_isSign (wr (p3 - 10)) = 0)) => ?_)
                        · have hF := ite_t hc27 hF
                          refine g_seg hK [.aload 4, .iload_n 2] 143 146 (L1 := [(6, vI (F_X_isSign (wr (p3 - 10)))), (5, vI (F_X_isSign p3)), (4, vR (F_St_text 3 p1)), (0, vR 0), (1, vI p1), (2, vI p2), (3, vI p3)]) (st1 := [vI p2, vR (F_St_text 3 p1)]) (h1 := h22) (P := True ∧ True ∧ True) (by decide +kernel) rfl rfl ⟨trivial, trivial, trivial⟩ ?_
                          obtain ⟨h28, e29, hF⟩ := ob1_elim hF
                          refine g_callV0 hK 146 102 (d1 := 1) (ci := 3) (i := F_St_text 3 p1) (vs := [vI p2]) (rest := []) (h1 := h28) my_yX3_putOut vw_X6_102 (by decide) (T_Ro_putOut (o := (F_St_text 3 p1)) (p1 := p2) (h := h22) (ko := (kd_St_text rfl)) (hF := e29)) (kd_St_text rfl) rfl rfl (Nat.le_of_ble_eq_true rfl) (by decide +kernel) ?_
                          refine hK.2.1 _ _ ([(4, vR (F_St_text 3 p1))]) _ _ (sub_of [2] rfl) ?_
                          exact j25 _ hF
                        · have hF := ite_f hc27 hF
                          refine g_seg hK [.aload 4, .iload_n 2, .iload_n 3, .bipush 10, .isub] 130 137 (L1 := [(6, vI (F_X_isSign (wr (p3 - 10)))), (5, vI (F_X_isSign p3)), (4, vR (F_St_text 3 p1)), (0, vR 0), (1, vI p1), (2, vI p2), (3, vI p3)]) (st1 := [vI (wr (p3 - 10)), vI p2, vR (F_St_text 3 p1)]) (h1 := h22) (P := True ∧ True ∧ True ∧ True ∧ True ∧ True) (by decide +kernel) rfl rfl ⟨trivial, trivial, trivial, trivial, trivial, trivial⟩ ?_
                          refine g_callV0 hK 137 99 (d1 := 0) (ci := 3) (i := F_St_text 3 p1) (vs := [vI p2, vI (wr (p3 - 10))]) (rest := []) (h1 := (F_Ro_change (F_St_text 3 p1) p2 (wr (p3 - 10)) h22)) my_yX3_change vw_X6_99 (by decide) (T_Ro_change (o := (F_St_text 3 p1)) (p1 := p2) (p2 := (wr (p3 - 10))) (h := h22) (ko := (kd_St_text rfl)) (hF := rfl)) (kd_St_text rfl) rfl rfl (Nat.le_of_ble_eq_true rfl) (by decide +kernel) ?_
                          refine g_goto hK 140 (9) 149 (by decide +kernel) (by decide) ?_
                          refine hK.2.1 _ _ ([(4, vR (F_St_text 3 p1))]) _ _ (sub_of [2] rfl) ?_
                          exact j25 _ hF
                      · have hF := ite_f hc26 hF
                        refine g_seg hK [.aload 4, .iload_n 2, .iload_n 3] 115 119 (L1 := [(6, vI (F_X_isSign (wr (p3 - 10)))), (5, vI (F_X_isSign p3)), (4, vR (F_St_text 3 p1)), (0, vR 0), (1, vI p1), (2, vI p2), (3, vI p3)]) (st1 := [vI p3, vI p2, vR (F_St_text 3 p1)]) (h1 := h22) (P := True ∧ True ∧ True ∧ True) (by decide +kernel) rfl rfl ⟨trivial, trivial, trivial, trivial⟩ ?_
                        obtain ⟨h30, e31, hF⟩ := ob1_elim hF
                        refine g_callV0 hK 119 95 (d1 := 1) (ci := 3) (i := F_St_text 3 p1) (vs := [vI p2, vI p3]) (rest := []) (h1 := h30) my_yX3_putIn vw_X6_95 (by decide) (T_Ro_putIn (o := (F_St_text 3 p1)) (p1 := p2) (p2 := p3) (h := h22) (ko := (kd_St_text rfl)) (hF := e31)) (kd_St_text rfl) rfl rfl (Nat.le_of_ble_eq_true rfl) (by decide +kernel) ?_
                        refine g_goto hK 122 (27) 149 (by decide +kernel) (by decide) ?_
                        refine hK.2.1 _ _ ([(4, vR (F_St_text 3 p1))]) _ _ (sub_of [2] rfl) ?_
                        exact j25 _ hF
                    · have hF := ite_f hc21 hF
                      refine g_seg hK [.bipush (-3)] 96 98 (L1 := [(6, vI (F_X_isSign (wr (p3 - 10)))), (5, vI (F_X_isSign p3)), (4, vR (F_St_text 3 p1)), (0, vR 0), (1, vI p1), (2, vI p2), (3, vI p3)]) (st1 := [vI (-3)]) (h1 := h) (P := True ∧ True) (by decide +kernel) rfl rfl ⟨trivial, trivial⟩ ?_
                      cases hF
                      exact hR.1 98 _ _ _ (by decide +kernel) rfl ⟨rfl, rfl⟩
              · have hF := ite_f hc7 hF
                refine g_seg hK [.iload 5] 81 83 (L1 := [(6, vI (F_X_isSign (wr (p3 - 10)))), (5, vI (F_X_isSign p3)), (4, vR (F_St_text 3 p1)), (0, vR 0), (1, vI p1), (2, vI p2), (3, vI p3)]) (st1 := [vI (F_X_isSign p3)]) (h1 := h) (P := True ∧ True) (by decide +kernel) rfl rfl ⟨trivial, trivial⟩ ?_
                refine g_ifz hK 83 .eq (16) 99 (t1 := 99) (t2 := 86) (by decide +kernel) (by decide) rfl rfl (fun (hc33 : F_X_isSign p3 = 0) => ?_) (fun (hc33 : ¬ (F_X_isSign p3 = 0)) => ?_)
                · have hF := ite_t hc33 hF
                  refine g_seg hK [.aload_n 0, .getfield 35, .aload_n 0, .getfield 21] 99 107 (L1 := [(6, vI (F_X_isSign (wr (p3 - 10)))), (5, vI (F_X_isSign p3)), (4, vR (F_St_text 3 p1)), (0, vR 0), (1, vI p1), (2, vI p2), (3, vI p3)]) (st1 := [vR 3, vR 17]) (h1 := h) (P := True ∧ kd 0 = 8 ∧ True ∧ kd 0 = 8 ∧ True) (by decide +kernel) rfl rfl ⟨trivial, rfl, trivial, rfl, trivial⟩ ?_
                  obtain ⟨h34, e35, hF⟩ := ob1_elim hF
                  refine g_callV0 hK 107 84 (d1 := 5) (ci := 1) (i := 17) (vs := [vR 3]) (rest := []) (h1 := h34) my_yX1_record vw_X6_84 (by decide) (T_Hi_record (p1 := 3) (h := h) (kp1 := rfl) (hF := e35)) rfl rfl rfl (Nat.le_of_ble_eq_true rfl) (by decide +kernel) ?_
                  refine g_seg hK [.iload 5] 110 112 (L1 := [(6, vI (F_X_isSign (wr (p3 - 10)))), (5, vI (F_X_isSign p3)), (4, vR (F_St_text 3 p1)), (0, vR 0), (1, vI p1), (2, vI p2), (3, vI p3)]) (st1 := [vI (F_X_isSign p3)]) (h1 := h34) (P := True ∧ True) (by decide +kernel) rfl rfl ⟨trivial, trivial⟩ ?_
                  obtain ⟨kj37, e44, hF⟩ := jk1_elim hF
                  have j37 : ∀ (h36 : MH), kj37 h36 = some (r, h') → K 149 [(4, vR (F_St_text 3 p1))] [] h36 := by
                    intro h36 hF
                    have hF := (e44 h36).symm.trans hF
                    refine g_seg hK [.aload 4] 149 151 (L1 := [(4, vR (F_St_text 3 p1))]) (st1 := [vR (F_St_text 3 p1)]) (h1 := h36) (P := True ∧ True) (by decide +kernel) rfl rfl ⟨trivial, trivial⟩ ?_
                    refine g_callV1 hK 151 63 (d1 := 0) (ci := 3) (i := F_St_text 3 p1) (vs := []) (rest := []) (h1 := h36) (r := vI (F_Ro_size (F_St_text 3 p1) h36)) my_yX3_size vw_X6_63 (by decide) (T_Ro_size (o := (F_St_text 3 p1)) (h := h36) (ko := (kd_St_text rfl)) (hF := rfl)) (kd_St_text rfl) rfl rfl (Nat.le_of_ble_eq_true rfl) (by decide +kernel) ?_
                    cases hF
                    exact hR.1 154 _ _ _ (by decide +kernel) rfl ⟨rfl, rfl⟩
                  refine g_ifz hK 112 .eq (13) 125 (t1 := 125) (t2 := 115) (by decide +kernel) (by decide) rfl rfl (fun (hc38 : F_X_isSign p3 = 0) => ?_) (fun (hc38 : ¬ (F_X_isSign p3 = 0)) => ?_)
                  · have hF := ite_t hc38 hF
                    refine g_seg hK [.iload 6] 125 127 (L1 := [(6, vI (F_X_isSign (wr (p3 - 10)))), (5, vI (F_X_isSign p3)), (4, vR (F_St_text 3 p1)), (0, vR 0), (1, vI p1), (2, vI p2), (3, vI p3)]) (st1 := [vI (F_X_isSign (wr (p3 - 10)))]) (h1 := h34) (P := True ∧ True) (by decide +kernel) rfl rfl ⟨trivial, trivial⟩ ?_
                    refine g_ifz hK 127 .eq (16) 143 (t1 := 143) (t2 := 130) (by decide +kernel) (by decide) rfl rfl (fun (hc39 : F_X_isSign (wr (p3 - 10)) = 0) => ?_) (fun (hc39 : ¬ (F_X_isSign (wr (p3 - 10)) = 0)) => ?_)
                    · have hF := ite_t hc39 hF
                      refine g_seg hK [.aload 4, .iload_n 2] 143 146 (L1 := [(6, vI (F_X_isSign (wr (p3 - 10)))), (5, vI (F_X_isSign p3)), (4, vR (F_St_text 3 p1)), (0, vR 0), (1, vI p1), (2, vI p2), (3, vI p3)]) (st1 := [vI p2, vR (F_St_text 3 p1)]) (h1 := h34) (P := True ∧ True ∧ True) (by decide +kernel) rfl rfl ⟨trivial, trivial, trivial⟩ ?_
                      obtain ⟨h40, e41, hF⟩ := ob1_elim hF
                      refine g_callV0 hK 146 102 (d1 := 1) (ci := 3) (i := F_St_text 3 p1) (vs := [vI p2]) (rest := []) (h1 := h40) my_yX3_putOut vw_X6_102 (by decide) (T_Ro_putOut (o := (F_St_text 3 p1)) (p1 := p2) (h := h34) (ko := (kd_St_text rfl)) (hF := e41)) (kd_St_text rfl) rfl rfl (Nat.le_of_ble_eq_true rfl) (by decide +kernel) ?_
                      refine hK.2.1 _ _ ([(4, vR (F_St_text 3 p1))]) _ _ (sub_of [2] rfl) ?_
                      exact j37 _ hF
                    · have hF := ite_f hc39 hF
                      refine g_seg hK [.aload 4, .iload_n 2, .iload_n 3, .bipush 10, .isub] 130 137 (L1 := [(6, vI (F_X_isSign (wr (p3 - 10)))), (5, vI (F_X_isSign p3)), (4, vR (F_St_text 3 p1)), (0, vR 0), (1, vI p1), (2, vI p2), (3, vI p3)]) (st1 := [vI (wr (p3 - 10)), vI p2, vR (F_St_text 3 p1)]) (h1 := h34) (P := True ∧ True ∧ True ∧ True ∧ True ∧ True) (by decide +kernel) rfl rfl ⟨trivial, trivial, trivial, trivial, trivial, trivial⟩ ?_
                      refine g_callV0 hK 137 99 (d1 := 0) (ci := 3) (i := F_St_text 3 p1) (vs := [vI p2, vI (wr (p3 - 10))]) (rest := []) (h1 := (F_Ro_change (F_St_text 3 p1) p2 (wr (p3 - 10)) h34)) my_yX3_change vw_X6_99 (by decide) (T_Ro_change (o := (F_St_text 3 p1)) (p1 := p2) (p2 := (wr (p3 - 10))) (h := h34) (ko := (kd_St_text rfl)) (hF := rfl)) (kd_St_text rfl) rfl rfl (Nat.le_of_ble_eq_true rfl) (by decide +kernel) ?_
                      refine g_goto hK 140 (9) 149 (by decide +kernel) (by decide) ?_
                      refine hK.2.1 _ _ ([(4, vR (F_St_text 3 p1))]) _ _ (sub_of [2] rfl) ?_
                      exact j37 _ hF
                  · have hF := ite_f hc38 hF
                    refine g_seg hK [.aload 4, .iload_n 2, .iload_n 3] 115 119 (L1 := [(6, vI (F_X_isSign (wr (p3 - 10)))), (5, vI (F_X_isSign p3)), (4, vR (F_St_text 3 p1)), (0, vR 0), (1, vI p1), (2, vI p2), (3, vI p3)]) (st1 := [vI p3, vI p2, vR (F_St_text 3 p1)]) (h1 := h34) (P := True ∧ True ∧ True ∧ True) (by decide +kernel) rfl rfl ⟨trivial, trivial, trivial, trivial⟩ ?_
                    obtain ⟨h42, e43, hF⟩ := ob1_elim hF
                    refine g_callV0 hK 119 95 (d1 := 1) (ci := 3) (i := F_St_text 3 p1) (vs := [vI p2, vI p3]) (rest := []) (h1 := h42) my_yX3_putIn vw_X6_95 (by decide) (T_Ro_putIn (o := (F_St_text 3 p1)) (p1 := p2) (p2 := p3) (h := h34) (ko := (kd_St_text rfl)) (hF := e43)) (kd_St_text rfl) rfl rfl (Nat.le_of_ble_eq_true rfl) (by decide +kernel) ?_
                    refine g_goto hK 122 (27) 149 (by decide +kernel) (by decide) ?_
                    refine hK.2.1 _ _ ([(4, vR (F_St_text 3 p1))]) _ _ (sub_of [2] rfl) ?_
                    exact j37 _ hF
                · have hF := ite_f hc33 hF
                  refine g_seg hK [.aload 4] 86 88 (L1 := [(6, vI (F_X_isSign (wr (p3 - 10)))), (5, vI (F_X_isSign p3)), (4, vR (F_St_text 3 p1)), (0, vR 0), (1, vI p1), (2, vI p2), (3, vI p3)]) (st1 := [vR (F_St_text 3 p1)]) (h1 := h) (P := True ∧ True) (by decide +kernel) rfl rfl ⟨trivial, trivial⟩ ?_
                  refine g_callV1 hK 88 63 (d1 := 0) (ci := 3) (i := F_St_text 3 p1) (vs := []) (rest := []) (h1 := h) (r := vI (F_Ro_size (F_St_text 3 p1) h)) my_yX3_size vw_X6_63 (by decide) (T_Ro_size (o := (F_St_text 3 p1)) (h := h) (ko := (kd_St_text rfl)) (hF := rfl)) (kd_St_text rfl) rfl rfl (Nat.le_of_ble_eq_true rfl) (by decide +kernel) ?_
                  refine g_seg hK [.bipush 14] 91 93 (L1 := [(6, vI (F_X_isSign (wr (p3 - 10)))), (5, vI (F_X_isSign p3)), (4, vR (F_St_text 3 p1)), (0, vR 0), (1, vI p1), (2, vI p2), (3, vI p3)]) (st1 := [vI 14, vI (F_Ro_size (F_St_text 3 p1) h)]) (h1 := h) (P := True ∧ True) (by decide +kernel) rfl rfl ⟨trivial, trivial⟩ ?_
                  refine g_icmp hK 93 .lt (6) 99 (t1 := 99) (t2 := 96) (by decide +kernel) (by decide) rfl rfl (fun (hc45 : F_Ro_size (F_St_text 3 p1) h < 14) => ?_) (fun (hc45 : ¬ (F_Ro_size (F_St_text 3 p1) h < 14)) => ?_)
                  · have hF := ite_t hc45 hF
                    refine g_seg hK [.aload_n 0, .getfield 35, .aload_n 0, .getfield 21] 99 107 (L1 := [(6, vI (F_X_isSign (wr (p3 - 10)))), (5, vI (F_X_isSign p3)), (4, vR (F_St_text 3 p1)), (0, vR 0), (1, vI p1), (2, vI p2), (3, vI p3)]) (st1 := [vR 3, vR 17]) (h1 := h) (P := True ∧ kd 0 = 8 ∧ True ∧ kd 0 = 8 ∧ True) (by decide +kernel) rfl rfl ⟨trivial, rfl, trivial, rfl, trivial⟩ ?_
                    obtain ⟨h46, e47, hF⟩ := ob1_elim hF
                    refine g_callV0 hK 107 84 (d1 := 5) (ci := 1) (i := 17) (vs := [vR 3]) (rest := []) (h1 := h46) my_yX1_record vw_X6_84 (by decide) (T_Hi_record (p1 := 3) (h := h) (kp1 := rfl) (hF := e47)) rfl rfl rfl (Nat.le_of_ble_eq_true rfl) (by decide +kernel) ?_
                    refine g_seg hK [.iload 5] 110 112 (L1 := [(6, vI (F_X_isSign (wr (p3 - 10)))), (5, vI (F_X_isSign p3)), (4, vR (F_St_text 3 p1)), (0, vR 0), (1, vI p1), (2, vI p2), (3, vI p3)]) (st1 := [vI (F_X_isSign p3)]) (h1 := h46) (P := True ∧ True) (by decide +kernel) rfl rfl ⟨trivial, trivial⟩ ?_
                    obtain ⟨kj49, e56, hF⟩ := jk1_elim hF
                    have j49 : ∀ (h48 : MH), kj49 h48 = some (r, h') → K 149 [(4, vR (F_St_text 3 p1))] [] h48 := by
                      intro h48 hF
                      have hF := (e56 h48).symm.trans hF
                      refine g_seg hK [.aload 4] 149 151 (L1 := [(4, vR (F_St_text 3 p1))]) (st1 := [vR (F_St_text 3 p1)]) (h1 := h48) (P := True ∧ True) (by decide +kernel) rfl rfl ⟨trivial, trivial⟩ ?_
                      refine g_callV1 hK 151 63 (d1 := 0) (ci := 3) (i := F_St_text 3 p1) (vs := []) (rest := []) (h1 := h48) (r := vI (F_Ro_size (F_St_text 3 p1) h48)) my_yX3_size vw_X6_63 (by decide) (T_Ro_size (o := (F_St_text 3 p1)) (h := h48) (ko := (kd_St_text rfl)) (hF := rfl)) (kd_St_text rfl) rfl rfl (Nat.le_of_ble_eq_true rfl) (by decide +kernel) ?_
                      cases hF
                      exact hR.1 154 _ _ _ (by decide +kernel) rfl ⟨rfl, rfl⟩
                    refine g_ifz hK 112 .eq (13) 125 (t1 := 125) (t2 := 115) (by decide +kernel) (by decide) rfl rfl (fun (hc50 : F_X_isSign p3 = 0) => ?_) (fun (hc50 : ¬ (F_X_isSign p3 = 0)) => ?_)
                    · have hF := ite_t hc50 hF
                      refine g_seg hK [.iload 6] 125 127 (L1 := [(6, vI (F_X_isSign (wr (p3 - 10)))), (5, vI (F_X_isSign p3)), (4, vR (F_St_text 3 p1)), (0, vR 0), (1, vI p1), (2, vI p2), (3, vI p3)]) (st1 := [vI (F_X_isSign (wr (p3 - 10)))]) (h1 := h46) (P := True ∧ True) (by decide +kernel) rfl rfl ⟨trivial, trivial⟩ ?_
                      refine g_ifz hK 127 .eq (16) 143 (t1 := 143) (t2 := 130) (by decide +kernel) (by decide) rfl rfl (fun (hc51 : F_X_isSign (wr (p3 - 10)) = 0) => ?_) (fun (hc51 : ¬ (F_X_isSign (wr (p3 - 10)) = 0)) => ?_)
                      · have hF := ite_t hc51 hF
                        refine g_seg hK [.aload 4, .iload_n 2] 143 146 (L1 := [(6, vI (F_X_isSign (wr (p3 - 10)))), (5, vI (F_X_isSign p3)), (4, vR (F_St_text 3 p1)), (0, vR 0), (1, vI p1), (2, vI p2), (3, vI p3)]) (st1 := [vI p2, vR (F_St_text 3 p1)]) (h1 := h46) (P := True ∧ True ∧ True) (by decide +kernel) rfl rfl ⟨trivial, trivial, trivial⟩ ?_
                        obtain ⟨h52, e53, hF⟩ := ob1_elim hF
                        refine g_callV0 hK 146 102 (d1 := 1) (ci := 3) (i := F_St_text 3 p1) (vs := [vI p2]) (rest := []) (h1 := h52) my_yX3_putOut vw_X6_102 (by decide) (T_Ro_putOut (o := (F_St_text 3 p1)) (p1 := p2) (h := h46) (ko := (kd_St_text rfl)) (hF := e53)) (kd_St_text rfl) rfl rfl (Nat.le_of_ble_eq_true rfl) (by decide +kernel) ?_
                        refine hK.2.1 _ _ ([(4, vR (F_St_text 3 p1))]) _ _ (sub_of [2] rfl) ?_
                        exact j49 _ hF
                      · have hF := ite_f hc51 hF
                        refine g_seg hK [.aload 4, .iload_n 2, .iload_n 3, .bipush 10, .isub] 130 137 (L1 := [(6, vI (F_X_isSign (wr (p3 - 10)))), (5, vI (F_X_isSign p3)), (4, vR (F_St_text 3 p1)), (0, vR 0), (1, vI p1), (2, vI p2), (3, vI p3)]) (st1 := [vI (wr (p3 - 10)), vI p2, vR (F_St_text 3 p1)]) (h1 := h46) (P := True ∧ True ∧ True ∧ True ∧ True ∧ True) (by decide +kernel) rfl rfl ⟨trivial, trivial, trivial, trivial, trivial, trivial⟩ ?_
                        refine g_callV0 hK 137 99 (d1 := 0) (ci := 3) (i := F_St_text 3 p1) (vs := [vI p2, vI (wr (p3 - 10))]) (rest := []) (h1 := (F_Ro_change (F_St_text 3 p1) p2 (wr (p3 - 10)) h46)) my_yX3_change vw_X6_99 (by decide) (T_Ro_change (o := (F_St_text 3 p1)) (p1 := p2) (p2 := (wr (p3 - 10))) (h := h46) (ko := (kd_St_text rfl)) (hF := rfl)) (kd_St_text rfl) rfl rfl (Nat.le_of_ble_eq_true rfl) (by decide +kernel) ?_
                        refine g_goto hK 140 (9) 149 (by decide +kernel) (by decide) ?_
                        refine hK.2.1 _ _ ([(4, vR (F_St_text 3 p1))]) _ _ (sub_of [2] rfl) ?_
                        exact j49 _ hF
                    · have hF := ite_f hc50 hF
                      refine g_seg hK [.aload 4, .iload_n 2, .iload_n 3] 115 119 (L1 := [(6, vI (F_X_isSign (wr (p3 - 10)))), (5, vI (F_X_isSign p3)), (4, vR (F_St_text 3 p1)), (0, vR 0), (1, vI p1), (2, vI p2), (3, vI p3)]) (st1 := [vI p3, vI p2, vR (F_St_text 3 p1)]) (h1 := h46) (P := True ∧ True ∧ True ∧ True) (by decide +kernel) rfl rfl ⟨trivial, trivial, trivial, trivial⟩ ?_
                      obtain ⟨h54, e55, hF⟩ := ob1_elim hF
                      refine g_callV0 hK 119 95 (d1 := 1) (ci := 3) (i := F_St_text 3 p1) (vs := [vI p2, vI p3]) (rest := []) (h1 := h54) my_yX3_putIn vw_X6_95 (by decide) (T_Ro_putIn (o := (F_St_text 3 p1)) (p1 := p2) (p2 := p3) (h := h46) (ko := (kd_St_text rfl)) (hF := e55)) (kd_St_text rfl) rfl rfl (Nat.le_of_ble_eq_true rfl) (by decide +kernel) ?_
                      refine g_goto hK 122 (27) 149 (by decide +kernel) (by decide) ?_
                      refine hK.2.1 _ _ ([(4, vR (F_St_text 3 p1))]) _ _ (sub_of [2] rfl) ?_
                      exact j49 _ hF
                  · have hF := ite_f hc45 hF
                    refine g_seg hK [.bipush (-3)] 96 98 (L1 := [(6, vI (F_X_isSign (wr (p3 - 10)))), (5, vI (F_X_isSign p3)), (4, vR (F_St_text 3 p1)), (0, vR 0), (1, vI p1), (2, vI p2), (3, vI p3)]) (st1 := [vI (-3)]) (h1 := h) (P := True ∧ True) (by decide +kernel) rfl rfl ⟨trivial, trivial⟩ ?_
                    cases hF
                    exact hR.1 98 _ _ _ (by decide +kernel) rfl ⟨rfl, rfl⟩
            · have hF := ite_f hc6 hF
              refine g_seg hK [.iconst (-1)] 79 80 (L1 := [(6, vI (F_X_isSign (wr (p3 - 10)))), (5, vI (F_X_isSign p3)), (4, vR (F_St_text 3 p1)), (0, vR 0), (1, vI p1), (2, vI p2), (3, vI p3)]) (st1 := [vI (-1)]) (h1 := h) (P := True ∧ True) (by decide +kernel) rfl rfl ⟨trivial, trivial⟩ ?_
              cases hF
              exact hR.1 80 _ _ _ (by decide +kernel) rfl ⟨rfl, rfl⟩
        · have hF := ite_f hc4 hF
          refine g_seg hK [.iconst (-1)] 50 51 (L1 := [(6, vI (F_X_isSign (wr (p3 - 10)))), (5, vI (F_X_isSign p3)), (4, vR (F_St_text 3 p1)), (0, vR 0), (1, vI p1), (2, vI p2), (3, vI p3)]) (st1 := [vI (-1)]) (h1 := h) (P := True ∧ True) (by decide +kernel) rfl rfl ⟨trivial, trivial⟩ ?_
          cases hF
          exact hR.1 51 _ _ _ (by decide +kernel) rfl ⟨rfl, rfl⟩
      · have hF := ite_f hc3 hF
        refine g_seg hK [.iload_n 2] 52 53 (L1 := [(6, vI (F_X_isSign (wr (p3 - 10)))), (5, vI (F_X_isSign p3)), (4, vR (F_St_text 3 p1)), (0, vR 0), (1, vI p1), (2, vI p2), (3, vI p3)]) (st1 := [vI p2]) (h1 := h) (P := True ∧ True) (by decide +kernel) rfl rfl ⟨trivial, trivial⟩ ?_
        refine g_ifz hK 53 .lt (26) 79 (t1 := 79) (t2 := 56) (by decide +kernel) (by decide) rfl rfl (fun (hc57 : p2 < 0) => ?_) (fun (hc57 : ¬ (p2 < 0)) => ?_)
        · have hF := ite_t hc57 hF
          refine g_seg hK [.iconst (-1)] 79 80 (L1 := [(6, vI (F_X_isSign (wr (p3 - 10)))), (5, vI (F_X_isSign p3)), (4, vR (F_St_text 3 p1)), (0, vR 0), (1, vI p1), (2, vI p2), (3, vI p3)]) (st1 := [vI (-1)]) (h1 := h) (P := True ∧ True) (by decide +kernel) rfl rfl ⟨trivial, trivial⟩ ?_
          cases hF
          exact hR.1 80 _ _ _ (by decide +kernel) rfl ⟨rfl, rfl⟩
        · have hF := ite_f hc57 hF
          refine g_seg hK [.iload_n 2, .aload 4] 56 59 (L1 := [(6, vI (F_X_isSign (wr (p3 - 10)))), (5, vI (F_X_isSign p3)), (4, vR (F_St_text 3 p1)), (0, vR 0), (1, vI p1), (2, vI p2), (3, vI p3)]) (st1 := [vR (F_St_text 3 p1), vI p2]) (h1 := h) (P := True ∧ True ∧ True) (by decide +kernel) rfl rfl ⟨trivial, trivial, trivial⟩ ?_
          refine g_callV1 hK 59 63 (d1 := 0) (ci := 3) (i := F_St_text 3 p1) (vs := []) (rest := [vI p2]) (h1 := h) (r := vI (F_Ro_size (F_St_text 3 p1) h)) my_yX3_size vw_X6_63 (by decide) (T_Ro_size (o := (F_St_text 3 p1)) (h := h) (ko := (kd_St_text rfl)) (hF := rfl)) (kd_St_text rfl) rfl rfl (Nat.le_of_ble_eq_true rfl) (by decide +kernel) ?_
          refine g_icmp hK 62 .gt (17) 79 (t1 := 65) (t2 := 79) (by decide +kernel) (by decide) rfl rfl (fun (hc58 : p2 ≤ F_Ro_size (F_St_text 3 p1) h) => ?_) (fun (hc58 : ¬ (p2 ≤ F_Ro_size (F_St_text 3 p1) h)) => ?_)
          · have hF := ite_t hc58 hF
            refine g_seg hK [.iload_n 2, .aload 4] 65 68 (L1 := [(6, vI (F_X_isSign (wr (p3 - 10)))), (5, vI (F_X_isSign p3)), (4, vR (F_St_text 3 p1)), (0, vR 0), (1, vI p1), (2, vI p2), (3, vI p3)]) (st1 := [vR (F_St_text 3 p1), vI p2]) (h1 := h) (P := True ∧ True ∧ True) (by decide +kernel) rfl rfl ⟨trivial, trivial, trivial⟩ ?_
            refine g_callV1 hK 68 63 (d1 := 0) (ci := 3) (i := F_St_text 3 p1) (vs := []) (rest := [vI p2]) (h1 := h) (r := vI (F_Ro_size (F_St_text 3 p1) h)) my_yX3_size vw_X6_63 (by decide) (T_Ro_size (o := (F_St_text 3 p1)) (h := h) (ko := (kd_St_text rfl)) (hF := rfl)) (kd_St_text rfl) rfl rfl (Nat.le_of_ble_eq_true rfl) (by decide +kernel) ?_
            refine g_icmp hK 71 .ne (10) 81 (t1 := 74) (t2 := 81) (by decide +kernel) (by decide) rfl rfl (fun (hc59 : p2 = F_Ro_size (F_St_text 3 p1) h) => ?_) (fun (hc59 : ¬ (p2 = F_Ro_size (F_St_text 3 p1) h)) => ?_)
            · have hF := ite_t hc59 hF
              refine g_seg hK [.iload 5] 74 76 (L1 := [(6, vI (F_X_isSign (wr (p3 - 10)))), (5, vI (F_X_isSign p3)), (4, vR (F_St_text 3 p1)), (0, vR 0), (1, vI p1), (2, vI p2), (3, vI p3)]) (st1 := [vI (F_X_isSign p3)]) (h1 := h) (P := True ∧ True) (by decide +kernel) rfl rfl ⟨trivial, trivial⟩ ?_
              refine g_ifz hK 76 .ne (5) 81 (t1 := 79) (t2 := 81) (by decide +kernel) (by decide) rfl rfl (fun (hc60 : F_X_isSign p3 = 0) => ?_) (fun (hc60 : ¬ (F_X_isSign p3 = 0)) => ?_)
              · have hF := ite_t hc60 hF
                refine g_seg hK [.iconst (-1)] 79 80 (L1 := [(6, vI (F_X_isSign (wr (p3 - 10)))), (5, vI (F_X_isSign p3)), (4, vR (F_St_text 3 p1)), (0, vR 0), (1, vI p1), (2, vI p2), (3, vI p3)]) (st1 := [vI (-1)]) (h1 := h) (P := True ∧ True) (by decide +kernel) rfl rfl ⟨trivial, trivial⟩ ?_
                cases hF
                exact hR.1 80 _ _ _ (by decide +kernel) rfl ⟨rfl, rfl⟩
              · have hF := ite_f hc60 hF
                refine g_seg hK [.iload 5] 81 83 (L1 := [(6, vI (F_X_isSign (wr (p3 - 10)))), (5, vI (F_X_isSign p3)), (4, vR (F_St_text 3 p1)), (0, vR 0), (1, vI p1), (2, vI p2), (3, vI p3)]) (st1 := [vI (F_X_isSign p3)]) (h1 := h) (P := True ∧ True) (by decide +kernel) rfl rfl ⟨trivial, trivial⟩ ?_
                refine g_ifz hK 83 .eq (16) 99 (t1 := 99) (t2 := 86) (by decide +kernel) (by decide) rfl rfl (fun (hc61 : F_X_isSign p3 = 0) => ?_) (fun (hc61 : ¬ (F_X_isSign p3 = 0)) => ?_)
                · have hF := ite_t hc61 hF
                  refine g_seg hK [.aload_n 0, .getfield 35, .aload_n 0, .getfield 21] 99 107 (L1 := [(6, vI (F_X_isSign (wr (p3 - 10)))), (5, vI (F_X_isSign p3)), (4, vR (F_St_text 3 p1)), (0, vR 0), (1, vI p1), (2, vI p2), (3, vI p3)]) (st1 := [vR 3, vR 17]) (h1 := h) (P := True ∧ kd 0 = 8 ∧ True ∧ kd 0 = 8 ∧ True) (by decide +kernel) rfl rfl ⟨trivial, rfl, trivial, rfl, trivial⟩ ?_
                  obtain ⟨h62, e63, hF⟩ := ob1_elim hF
                  refine g_callV0 hK 107 84 (d1 := 5) (ci := 1) (i := 17) (vs := [vR 3]) (rest := []) (h1 := h62) my_yX1_record vw_X6_84 (by decide) (T_Hi_record (p1 := 3) (h := h) (kp1 := rfl) (hF := e63)) rfl rfl rfl (Nat.le_of_ble_eq_true rfl) (by decide +kernel) ?_
                  refine g_seg hK [.iload 5] 110 112 (L1 := [(6, vI (F_X_isSign (wr (p3 - 10)))), (5, vI (F_X_isSign p3)), (4, vR (F_St_text 3 p1)), (0, vR 0), (1, vI p1), (2, vI p2), (3, vI p3)]) (st1 := [vI (F_X_isSign p3)]) (h1 := h62) (P := True ∧ True) (by decide +kernel) rfl rfl ⟨trivial, trivial⟩ ?_
                  obtain ⟨kj65, e72, hF⟩ := jk1_elim hF
                  have j65 : ∀ (h64 : MH), kj65 h64 = some (r, h') → K 149 [(4, vR (F_St_text 3 p1))] [] h64 := by
                    intro h64 hF
                    have hF := (e72 h64).symm.trans hF
                    refine g_seg hK [.aload 4] 149 151 (L1 := [(4, vR (F_St_text 3 p1))]) (st1 := [vR (F_St_text 3 p1)]) (h1 := h64) (P := True ∧ True) (by decide +kernel) rfl rfl ⟨trivial, trivial⟩ ?_
                    refine g_callV1 hK 151 63 (d1 := 0) (ci := 3) (i := F_St_text 3 p1) (vs := []) (rest := []) (h1 := h64) (r := vI (F_Ro_size (F_St_text 3 p1) h64)) my_yX3_size vw_X6_63 (by decide) (T_Ro_size (o := (F_St_text 3 p1)) (h := h64) (ko := (kd_St_text rfl)) (hF := rfl)) (kd_St_text rfl) rfl rfl (Nat.le_of_ble_eq_true rfl) (by decide +kernel) ?_
                    cases hF
                    exact hR.1 154 _ _ _ (by decide +kernel) rfl ⟨rfl, rfl⟩
                  refine g_ifz hK 112 .eq (13) 125 (t1 := 125) (t2 := 115) (by decide +kernel) (by decide) rfl rfl (fun (hc66 : F_X_isSign p3 = 0) => ?_) (fun (hc66 : ¬ (F_X_isSign p3 = 0)) => ?_)
                  · have hF := ite_t hc66 hF
                    refine g_seg hK [.iload 6] 125 127 (L1 := [(6, vI (F_X_isSign (wr (p3 - 10)))), (5, vI (F_X_isSign p3)), (4, vR (F_St_text 3 p1)), (0, vR 0), (1, vI p1), (2, vI p2), (3, vI p3)]) (st1 := [vI (F_X_isSign (wr (p3 - 10)))]) (h1 := h62) (P := True ∧ True) (by decide +kernel) rfl rfl ⟨trivial, trivial⟩ ?_
                    refine g_ifz hK 127 .eq (16) 143 (t1 := 143) (t2 := 130) (by decide +kernel) (by decide) rfl rfl (fun (hc67 : F_X_isSign (wr (p3 - 10)) = 0) => ?_) (fun (hc67 : ¬ (F_X_isSign (wr (p3 - 10)) = 0)) => ?_)
                    · have hF := ite_t hc67 hF
                      refine g_seg hK [.aload 4, .iload_n 2] 143 146 (L1 := [(6, vI (F_X_isSign (wr (p3 - 10)))), (5, vI (F_X_isSign p3)), (4, vR (F_St_text 3 p1)), (0, vR 0), (1, vI p1), (2, vI p2), (3, vI p3)]) (st1 := [vI p2, vR (F_St_text 3 p1)]) (h1 := h62) (P := True ∧ True ∧ True) (by decide +kernel) rfl rfl ⟨trivial, trivial, trivial⟩ ?_
                      obtain ⟨h68, e69, hF⟩ := ob1_elim hF
                      refine g_callV0 hK 146 102 (d1 := 1) (ci := 3) (i := F_St_text 3 p1) (vs := [vI p2]) (rest := []) (h1 := h68) my_yX3_putOut vw_X6_102 (by decide) (T_Ro_putOut (o := (F_St_text 3 p1)) (p1 := p2) (h := h62) (ko := (kd_St_text rfl)) (hF := e69)) (kd_St_text rfl) rfl rfl (Nat.le_of_ble_eq_true rfl) (by decide +kernel) ?_
                      refine hK.2.1 _ _ ([(4, vR (F_St_text 3 p1))]) _ _ (sub_of [2] rfl) ?_
                      exact j65 _ hF
                    · have hF := ite_f hc67 hF
                      refine g_seg hK [.aload 4, .iload_n 2, .iload_n 3, .bipush 10, .isub] 130 137 (L1 := [(6, vI (F_X_isSign (wr (p3 - 10)))), (5, vI (F_X_isSign p3)), (4, vR (F_St_text 3 p1)), (0, vR 0), (1, vI p1), (2, vI p2), (3, vI p3)]) (st1 := [vI (wr (p3 - 10)), vI p2, vR (F_St_text 3 p1)]) (h1 := h62) (P := True ∧ True ∧ True ∧ True ∧ True ∧ True) (by decide +kernel) rfl rfl ⟨trivial, trivial, trivial, trivial, trivial, trivial⟩ ?_
                      refine g_callV0 hK 137 99 (d1 := 0) (ci := 3) (i := F_St_text 3 p1) (vs := [vI p2, vI (wr (p3 - 10))]) (rest := []) (h1 := (F_Ro_change (F_St_text 3 p1) p2 (wr (p3 - 10)) h62)) my_yX3_change vw_X6_99 (by decide) (T_Ro_change (o := (F_St_text 3 p1)) (p1 := p2) (p2 := (wr (p3 - 10))) (h := h62) (ko := (kd_St_text rfl)) (hF := rfl)) (kd_St_text rfl) rfl rfl (Nat.le_of_ble_eq_true rfl) (by decide +kernel) ?_
                      refine g_goto hK 140 (9) 149 (by decide +kernel) (by decide) ?_
                      refine hK.2.1 _ _ ([(4, vR (F_St_text 3 p1))]) _ _ (sub_of [2] rfl) ?_
                      exact j65 _ hF
                  · have hF := ite_f hc66 hF
                    refine g_seg hK [.aload 4, .iload_n 2, .iload_n 3] 115 119 (L1 := [(6, vI (F_X_isSign (wr (p3 - 10)))), (5, vI (F_X_isSign p3)), (4, vR (F_St_text 3 p1)), (0, vR 0), (1, vI p1), (2, vI p2), (3, vI p3)]) (st1 := [vI p3, vI p2, vR (F_St_text 3 p1)]) (h1 := h62) (P := True ∧ True ∧ True ∧ True) (by decide +kernel) rfl rfl ⟨trivial, trivial, trivial, trivial⟩ ?_
                    obtain ⟨h70, e71, hF⟩ := ob1_elim hF
                    refine g_callV0 hK 119 95 (d1 := 1) (ci := 3) (i := F_St_text 3 p1) (vs := [vI p2, vI p3]) (rest := []) (h1 := h70) my_yX3_putIn vw_X6_95 (by decide) (T_Ro_putIn (o := (F_St_text 3 p1)) (p1 := p2) (p2 := p3) (h := h62) (ko := (kd_St_text rfl)) (hF := e71)) (kd_St_text rfl) rfl rfl (Nat.le_of_ble_eq_true rfl) (by decide +kernel) ?_
                    refine g_goto hK 122 (27) 149 (by decide +kernel) (by decide) ?_
                    refine hK.2.1 _ _ ([(4, vR (F_St_text 3 p1))]) _ _ (sub_of [2] rfl) ?_
                    exact j65 _ hF
                · have hF := ite_f hc61 hF
                  refine g_seg hK [.aload 4] 86 88 (L1 := [(6, vI (F_X_isSign (wr (p3 - 10)))), (5, vI (F_X_isSign p3)), (4, vR (F_St_text 3 p1)), (0, vR 0), (1, vI p1), (2, vI p2), (3, vI p3)]) (st1 := [vR (F_St_text 3 p1)]) (h1 := h) (P := True ∧ True) (by decide +kernel) rfl rfl ⟨trivial, trivial⟩ ?_
                  refine g_callV1 hK 88 63 (d1 := 0) (ci := 3) (i := F_St_text 3 p1) (vs := []) (rest := []) (h1 := h) (r := vI (F_Ro_size (F_St_text 3 p1) h)) my_yX3_size vw_X6_63 (by decide) (T_Ro_size (o := (F_St_text 3 p1)) (h := h) (ko := (kd_St_text rfl)) (hF := rfl)) (kd_St_text rfl) rfl rfl (Nat.le_of_ble_eq_true rfl) (by decide +kernel) ?_
                  refine g_seg hK [.bipush 14] 91 93 (L1 := [(6, vI (F_X_isSign (wr (p3 - 10)))), (5, vI (F_X_isSign p3)), (4, vR (F_St_text 3 p1)), (0, vR 0), (1, vI p1), (2, vI p2), (3, vI p3)]) (st1 := [vI 14, vI (F_Ro_size (F_St_text 3 p1) h)]) (h1 := h) (P := True ∧ True) (by decide +kernel) rfl rfl ⟨trivial, trivial⟩ ?_
                  refine g_icmp hK 93 .lt (6) 99 (t1 := 99) (t2 := 96) (by decide +kernel) (by decide) rfl rfl (fun (hc73 : F_Ro_size (F_St_text 3 p1) h < 14) => ?_) (fun (hc73 : ¬ (F_Ro_size (F_St_text 3 p1) h < 14)) => ?_)
                  · have hF := ite_t hc73 hF
                    refine g_seg hK [.aload_n 0, .getfield 35, .aload_n 0, .getfield 21] 99 107 (L1 := [(6, vI (F_X_isSign (wr (p3 - 10)))), (5, vI (F_X_isSign p3)), (4, vR (F_St_text 3 p1)), (0, vR 0), (1, vI p1), (2, vI p2), (3, vI p3)]) (st1 := [vR 3, vR 17]) (h1 := h) (P := True ∧ kd 0 = 8 ∧ True ∧ kd 0 = 8 ∧ True) (by decide +kernel) rfl rfl ⟨trivial, rfl, trivial, rfl, trivial⟩ ?_
                    obtain ⟨h74, e75, hF⟩ := ob1_elim hF
                    refine g_callV0 hK 107 84 (d1 := 5) (ci := 1) (i := 17) (vs := [vR 3]) (rest := []) (h1 := h74) my_yX1_record vw_X6_84 (by decide) (T_Hi_record (p1 := 3) (h := h) (kp1 := rfl) (hF := e75)) rfl rfl rfl (Nat.le_of_ble_eq_true rfl) (by decide +kernel) ?_
                    refine g_seg hK [.iload 5] 110 112 (L1 := [(6, vI (F_X_isSign (wr (p3 - 10)))), (5, vI (F_X_isSign p3)), (4, vR (F_St_text 3 p1)), (0, vR 0), (1, vI p1), (2, vI p2), (3, vI p3)]) (st1 := [vI (F_X_isSign p3)]) (h1 := h74) (P := True ∧ True) (by decide +kernel) rfl rfl ⟨trivial, trivial⟩ ?_
                    obtain ⟨kj77, e84, hF⟩ := jk1_elim hF
                    have j77 : ∀ (h76 : MH), kj77 h76 = some (r, h') → K 149 [(4, vR (F_St_text 3 p1))] [] h76 := by
                      intro h76 hF
                      have hF := (e84 h76).symm.trans hF
                      refine g_seg hK [.aload 4] 149 151 (L1 := [(4, vR (F_St_text 3 p1))]) (st1 := [vR (F_St_text 3 p1)]) (h1 := h76) (P := True ∧ True) (by decide +kernel) rfl rfl ⟨trivial, trivial⟩ ?_
                      refine g_callV1 hK 151 63 (d1 := 0) (ci := 3) (i := F_St_text 3 p1) (vs := []) (rest := []) (h1 := h76) (r := vI (F_Ro_size (F_St_text 3 p1) h76)) my_yX3_size vw_X6_63 (by decide) (T_Ro_size (o := (F_St_text 3 p1)) (h := h76) (ko := (kd_St_text rfl)) (hF := rfl)) (kd_St_text rfl) rfl rfl (Nat.le_of_ble_eq_true rfl) (by decide +kernel) ?_
                      cases hF
                      exact hR.1 154 _ _ _ (by decide +kernel) rfl ⟨rfl, rfl⟩
                    refine g_ifz hK 112 .eq (13) 125 (t1 := 125) (t2 := 115) (by decide +kernel) (by decide) rfl rfl (fun (hc78 : F_X_isSign p3 = 0) => ?_) (fun (hc78 : ¬ (F_X_isSign p3 = 0)) => ?_)
                    · have hF := ite_t hc78 hF
                      refine g_seg hK [.iload 6] 125 127 (L1 := [(6, vI (F_X_isSign (wr (p3 - 10)))), (5, vI (F_X_isSign p3)), (4, vR (F_St_text 3 p1)), (0, vR 0), (1, vI p1), (2, vI p2), (3, vI p3)]) (st1 := [vI (F_X_isSign (wr (p3 - 10)))]) (h1 := h74) (P := True ∧ True) (by decide +kernel) rfl rfl ⟨trivial, trivial⟩ ?_
                      refine g_ifz hK 127 .eq (16) 143 (t1 := 143) (t2 := 130) (by decide +kernel) (by decide) rfl rfl (fun (hc79 : F_X_isSign (wr (p3 - 10)) = 0) => ?_) (fun (hc79 : ¬ (F_X_isSign (wr (p3 - 10)) = 0)) => ?_)
                      · have hF := ite_t hc79 hF
                        refine g_seg hK [.aload 4, .iload_n 2] 143 146 (L1 := [(6, vI (F_X_isSign (wr (p3 - 10)))), (5, vI (F_X_isSign p3)), (4, vR (F_St_text 3 p1)), (0, vR 0), (1, vI p1), (2, vI p2), (3, vI p3)]) (st1 := [vI p2, vR (F_St_text 3 p1)]) (h1 := h74) (P := True ∧ True ∧ True) (by decide +kernel) rfl rfl ⟨trivial, trivial, trivial⟩ ?_
                        obtain ⟨h80, e81, hF⟩ := ob1_elim hF
                        refine g_callV0 hK 146 102 (d1 := 1) (ci := 3) (i := F_St_text 3 p1) (vs := [vI p2]) (rest := []) (h1 := h80) my_yX3_putOut vw_X6_102 (by decide) (T_Ro_putOut (o := (F_St_text 3 p1)) (p1 := p2) (h := h74) (ko := (kd_St_text rfl)) (hF := e81)) (kd_St_text rfl) rfl rfl (Nat.le_of_ble_eq_true rfl) (by decide +kernel) ?_
                        refine hK.2.1 _ _ ([(4, vR (F_St_text 3 p1))]) _ _ (sub_of [2] rfl) ?_
                        exact j77 _ hF
                      · have hF := ite_f hc79 hF
                        refine g_seg hK [.aload 4, .iload_n 2, .iload_n 3, .bipush 10, .isub] 130 137 (L1 := [(6, vI (F_X_isSign (wr (p3 - 10)))), (5, vI (F_X_isSign p3)), (4, vR (F_St_text 3 p1)), (0, vR 0), (1, vI p1), (2, vI p2), (3, vI p3)]) (st1 := [vI (wr (p3 - 10)), vI p2, vR (F_St_text 3 p1)]) (h1 := h74) (P := True ∧ True ∧ True ∧ True ∧ True ∧ True) (by decide +kernel) rfl rfl ⟨trivial, trivial, trivial, trivial, trivial, trivial⟩ ?_
                        refine g_callV0 hK 137 99 (d1 := 0) (ci := 3) (i := F_St_text 3 p1) (vs := [vI p2, vI (wr (p3 - 10))]) (rest := []) (h1 := (F_Ro_change (F_St_text 3 p1) p2 (wr (p3 - 10)) h74)) my_yX3_change vw_X6_99 (by decide) (T_Ro_change (o := (F_St_text 3 p1)) (p1 := p2) (p2 := (wr (p3 - 10))) (h := h74) (ko := (kd_St_text rfl)) (hF := rfl)) (kd_St_text rfl) rfl rfl (Nat.le_of_ble_eq_true rfl) (by decide +kernel) ?_
                        refine g_goto hK 140 (9) 149 (by decide +kernel) (by decide) ?_
                        refine hK.2.1 _ _ ([(4, vR (F_St_text 3 p1))]) _ _ (sub_of [2] rfl) ?_
                        exact j77 _ hF
                    · have hF := ite_f hc78 hF
                      refine g_seg hK [.aload 4, .iload_n 2, .iload_n 3] 115 119 (L1 := [(6, vI (F_X_isSign (wr (p3 - 10)))), (5, vI (F_X_isSign p3)), (4, vR (F_St_text 3 p1)), (0, vR 0), (1, vI p1), (2, vI p2), (3, vI p3)]) (st1 := [vI p3, vI p2, vR (F_St_text 3 p1)]) (h1 := h74) (P := True ∧ True ∧ True ∧ True) (by decide +kernel) rfl rfl ⟨trivial, trivial, trivial, trivial⟩ ?_
                      obtain ⟨h82, e83, hF⟩ := ob1_elim hF
                      refine g_callV0 hK 119 95 (d1 := 1) (ci := 3) (i := F_St_text 3 p1) (vs := [vI p2, vI p3]) (rest := []) (h1 := h82) my_yX3_putIn vw_X6_95 (by decide) (T_Ro_putIn (o := (F_St_text 3 p1)) (p1 := p2) (p2 := p3) (h := h74) (ko := (kd_St_text rfl)) (hF := e83)) (kd_St_text rfl) rfl rfl (Nat.le_of_ble_eq_true rfl) (by decide +kernel) ?_
                      refine g_goto hK 122 (27) 149 (by decide +kernel) (by decide) ?_
                      refine hK.2.1 _ _ ([(4, vR (F_St_text 3 p1))]) _ _ (sub_of [2] rfl) ?_
                      exact j77 _ hF
                  · have hF := ite_f hc73 hF
                    refine g_seg hK [.bipush (-3)] 96 98 (L1 := [(6, vI (F_X_isSign (wr (p3 - 10)))), (5, vI (F_X_isSign p3)), (4, vR (F_St_text 3 p1)), (0, vR 0), (1, vI p1), (2, vI p2), (3, vI p3)]) (st1 := [vI (-3)]) (h1 := h) (P := True ∧ True) (by decide +kernel) rfl rfl ⟨trivial, trivial⟩ ?_
                    cases hF
                    exact hR.1 98 _ _ _ (by decide +kernel) rfl ⟨rfl, rfl⟩
            · have hF := ite_f hc59 hF
              refine g_seg hK [.iload 5] 81 83 (L1 := [(6, vI (F_X_isSign (wr (p3 - 10)))), (5, vI (F_X_isSign p3)), (4, vR (F_St_text 3 p1)), (0, vR 0), (1, vI p1), (2, vI p2), (3, vI p3)]) (st1 := [vI (F_X_isSign p3)]) (h1 := h) (P := True ∧ True) (by decide +kernel) rfl rfl ⟨trivial, trivial⟩ ?_
              refine g_ifz hK 83 .eq (16) 99 (t1 := 99) (t2 := 86) (by decide +kernel) (by decide) rfl rfl (fun (hc85 : F_X_isSign p3 = 0) => ?_) (fun (hc85 : ¬ (F_X_isSign p3 = 0)) => ?_)
              · have hF := ite_t hc85 hF
                refine g_seg hK [.aload_n 0, .getfield 35, .aload_n 0, .getfield 21] 99 107 (L1 := [(6, vI (F_X_isSign (wr (p3 - 10)))), (5, vI (F_X_isSign p3)), (4, vR (F_St_text 3 p1)), (0, vR 0), (1, vI p1), (2, vI p2), (3, vI p3)]) (st1 := [vR 3, vR 17]) (h1 := h) (P := True ∧ kd 0 = 8 ∧ True ∧ kd 0 = 8 ∧ True) (by decide +kernel) rfl rfl ⟨trivial, rfl, trivial, rfl, trivial⟩ ?_
                obtain ⟨h86, e87, hF⟩ := ob1_elim hF
                refine g_callV0 hK 107 84 (d1 := 5) (ci := 1) (i := 17) (vs := [vR 3]) (rest := []) (h1 := h86) my_yX1_record vw_X6_84 (by decide) (T_Hi_record (p1 := 3) (h := h) (kp1 := rfl) (hF := e87)) rfl rfl rfl (Nat.le_of_ble_eq_true rfl) (by decide +kernel) ?_
                refine g_seg hK [.iload 5] 110 112 (L1 := [(6, vI (F_X_isSign (wr (p3 - 10)))), (5, vI (F_X_isSign p3)), (4, vR (F_St_text 3 p1)), (0, vR 0), (1, vI p1), (2, vI p2), (3, vI p3)]) (st1 := [vI (F_X_isSign p3)]) (h1 := h86) (P := True ∧ True) (by decide +kernel) rfl rfl ⟨trivial, trivial⟩ ?_
                obtain ⟨kj89, e96, hF⟩ := jk1_elim hF
                have j89 : ∀ (h88 : MH), kj89 h88 = some (r, h') → K 149 [(4, vR (F_St_text 3 p1))] [] h88 := by
                  intro h88 hF
                  have hF := (e96 h88).symm.trans hF
                  refine g_seg hK [.aload 4] 149 151 (L1 := [(4, vR (F_St_text 3 p1))]) (st1 := [vR (F_St_text 3 p1)]) (h1 := h88) (P := True ∧ True) (by decide +kernel) rfl rfl ⟨trivial, trivial⟩ ?_
                  refine g_callV1 hK 151 63 (d1 := 0) (ci := 3) (i := F_St_text 3 p1) (vs := []) (rest := []) (h1 := h88) (r := vI (F_Ro_size (F_St_text 3 p1) h88)) my_yX3_size vw_X6_63 (by decide) (T_Ro_size (o := (F_St_text 3 p1)) (h := h88) (ko := (kd_St_text rfl)) (hF := rfl)) (kd_St_text rfl) rfl rfl (Nat.le_of_ble_eq_true rfl) (by decide +kernel) ?_
                  cases hF
                  exact hR.1 154 _ _ _ (by decide +kernel) rfl ⟨rfl, rfl⟩
                refine g_ifz hK 112 .eq (13) 125 (t1 := 125) (t2 := 115) (by decide +kernel) (by decide) rfl rfl (fun (hc90 : F_X_isSign p3 = 0) => ?_) (fun (hc90 : ¬ (F_X_isSign p3 = 0)) => ?_)
                · have hF := ite_t hc90 hF
                  refine g_seg hK [.iload 6] 125 127 (L1 := [(6, vI (F_X_isSign (wr (p3 - 10)))), (5, vI (F_X_isSign p3)), (4, vR (F_St_text 3 p1)), (0, vR 0), (1, vI p1), (2, vI p2), (3, vI p3)]) (st1 := [vI (F_X_isSign (wr (p3 - 10)))]) (h1 := h86) (P := True ∧ True) (by decide +kernel) rfl rfl ⟨trivial, trivial⟩ ?_
                  refine g_ifz hK 127 .eq (16) 143 (t1 := 143) (t2 := 130) (by decide +kernel) (by decide) rfl rfl (fun (hc91 : F_X_isSign (wr (p3 - 10)) = 0) => ?_) (fun (hc91 : ¬ (F_X_isSign (wr (p3 - 10)) = 0)) => ?_)
                  · have hF := ite_t hc91 hF
                    refine g_seg hK [.aload 4, .iload_n 2] 143 146 (L1 := [(6, vI (F_X_isSign (wr (p3 - 10)))), (5, vI (F_X_isSign p3)), (4, vR (F_St_text 3 p1)), (0, vR 0), (1, vI p1), (2, vI p2), (3, vI p3)]) (st1 := [vI p2, vR (F_St_text 3 p1)]) (h1 := h86) (P := True ∧ True ∧ True) (by decide +kernel) rfl rfl ⟨trivial, trivial, trivial⟩ ?_
                    obtain ⟨h92, e93, hF⟩ := ob1_elim hF
                    refine g_callV0 hK 146 102 (d1 := 1) (ci := 3) (i := F_St_text 3 p1) (vs := [vI p2]) (rest := []) (h1 := h92) my_yX3_putOut vw_X6_102 (by decide) (T_Ro_putOut (o := (F_St_text 3 p1)) (p1 := p2) (h := h86) (ko := (kd_St_text rfl)) (hF := e93)) (kd_St_text rfl) rfl rfl (Nat.le_of_ble_eq_true rfl) (by decide +kernel) ?_
                    refine hK.2.1 _ _ ([(4, vR (F_St_text 3 p1))]) _ _ (sub_of [2] rfl) ?_
                    exact j89 _ hF
                  · have hF := ite_f hc91 hF
                    refine g_seg hK [.aload 4, .iload_n 2, .iload_n 3, .bipush 10, .isub] 130 137 (L1 := [(6, vI (F_X_isSign (wr (p3 - 10)))), (5, vI (F_X_isSign p3)), (4, vR (F_St_text 3 p1)), (0, vR 0), (1, vI p1), (2, vI p2), (3, vI p3)]) (st1 := [vI (wr (p3 - 10)), vI p2, vR (F_St_text 3 p1)]) (h1 := h86) (P := True ∧ True ∧ True ∧ True ∧ True ∧ True) (by decide +kernel) rfl rfl ⟨trivial, trivial, trivial, trivial, trivial, trivial⟩ ?_
                    refine g_callV0 hK 137 99 (d1 := 0) (ci := 3) (i := F_St_text 3 p1) (vs := [vI p2, vI (wr (p3 - 10))]) (rest := []) (h1 := (F_Ro_change (F_St_text 3 p1) p2 (wr (p3 - 10)) h86)) my_yX3_change vw_X6_99 (by decide) (T_Ro_change (o := (F_St_text 3 p1)) (p1 := p2) (p2 := (wr (p3 - 10))) (h := h86) (ko := (kd_St_text rfl)) (hF := rfl)) (kd_St_text rfl) rfl rfl (Nat.le_of_ble_eq_true rfl) (by decide +kernel) ?_
                    refine g_goto hK 140 (9) 149 (by decide +kernel) (by decide) ?_
                    refine hK.2.1 _ _ ([(4, vR (F_St_text 3 p1))]) _ _ (sub_of [2] rfl) ?_
                    exact j89 _ hF
                · have hF := ite_f hc90 hF
                  refine g_seg hK [.aload 4, .iload_n 2, .iload_n 3] 115 119 (L1 := [(6, vI (F_X_isSign (wr (p3 - 10)))), (5, vI (F_X_isSign p3)), (4, vR (F_St_text 3 p1)), (0, vR 0), (1, vI p1), (2, vI p2), (3, vI p3)]) (st1 := [vI p3, vI p2, vR (F_St_text 3 p1)]) (h1 := h86) (P := True ∧ True ∧ True ∧ True) (by decide +kernel) rfl rfl ⟨trivial, trivial, trivial, trivial⟩ ?_
                  obtain ⟨h94, e95, hF⟩ := ob1_elim hF
                  refine g_callV0 hK 119 95 (d1 := 1) (ci := 3) (i := F_St_text 3 p1) (vs := [vI p2, vI p3]) (rest := []) (h1 := h94) my_yX3_putIn vw_X6_95 (by decide) (T_Ro_putIn (o := (F_St_text 3 p1)) (p1 := p2) (p2 := p3) (h := h86) (ko := (kd_St_text rfl)) (hF := e95)) (kd_St_text rfl) rfl rfl (Nat.le_of_ble_eq_true rfl) (by decide +kernel) ?_
                  refine g_goto hK 122 (27) 149 (by decide +kernel) (by decide) ?_
                  refine hK.2.1 _ _ ([(4, vR (F_St_text 3 p1))]) _ _ (sub_of [2] rfl) ?_
                  exact j89 _ hF
              · have hF := ite_f hc85 hF
                refine g_seg hK [.aload 4] 86 88 (L1 := [(6, vI (F_X_isSign (wr (p3 - 10)))), (5, vI (F_X_isSign p3)), (4, vR (F_St_text 3 p1)), (0, vR 0), (1, vI p1), (2, vI p2), (3, vI p3)]) (st1 := [vR (F_St_text 3 p1)]) (h1 := h) (P := True ∧ True) (by decide +kernel) rfl rfl ⟨trivial, trivial⟩ ?_
                refine g_callV1 hK 88 63 (d1 := 0) (ci := 3) (i := F_St_text 3 p1) (vs := []) (rest := []) (h1 := h) (r := vI (F_Ro_size (F_St_text 3 p1) h)) my_yX3_size vw_X6_63 (by decide) (T_Ro_size (o := (F_St_text 3 p1)) (h := h) (ko := (kd_St_text rfl)) (hF := rfl)) (kd_St_text rfl) rfl rfl (Nat.le_of_ble_eq_true rfl) (by decide +kernel) ?_
                refine g_seg hK [.bipush 14] 91 93 (L1 := [(6, vI (F_X_isSign (wr (p3 - 10)))), (5, vI (F_X_isSign p3)), (4, vR (F_St_text 3 p1)), (0, vR 0), (1, vI p1), (2, vI p2), (3, vI p3)]) (st1 := [vI 14, vI (F_Ro_size (F_St_text 3 p1) h)]) (h1 := h) (P := True ∧ True) (by decide +kernel) rfl rfl ⟨trivial, trivial⟩ ?_
                refine g_icmp hK 93 .lt (6) 99 (t1 := 99) (t2 := 96) (by decide +kernel) (by decide) rfl rfl (fun (hc97 : F_Ro_size (F_St_text 3 p1) h < 14) => ?_) (fun (hc97 : ¬ (F_Ro_size (F_St_text 3 p1) h < 14)) => ?_)
                · have hF := ite_t hc97 hF
                  refine g_seg hK [.aload_n 0, .getfield 35, .aload_n 0, .getfield 21] 99 107 (L1 := [(6, vI (F_X_isSign (wr (p3 - 10)))), (5, vI (F_X_isSign p3)), (4, vR (F_St_text 3 p1)), (0, vR 0), (1, vI p1), (2, vI p2), (3, vI p3)]) (st1 := [vR 3, vR 17]) (h1 := h) (P := True ∧ kd 0 = 8 ∧ True ∧ kd 0 = 8 ∧ True) (by decide +kernel) rfl rfl ⟨trivial, rfl, trivial, rfl, trivial⟩ ?_
                  obtain ⟨h98, e99, hF⟩ := ob1_elim hF
                  refine g_callV0 hK 107 84 (d1 := 5) (ci := 1) (i := 17) (vs := [vR 3]) (rest := []) (h1 := h98) my_yX1_record vw_X6_84 (by decide) (T_Hi_record (p1 := 3) (h := h) (kp1 := rfl) (hF := e99)) rfl rfl rfl (Nat.le_of_ble_eq_true rfl) (by decide +kernel) ?_
                  refine g_seg hK [.iload 5] 110 112 (L1 := [(6, vI (F_X_isSign (wr (p3 - 10)))), (5, vI (F_X_isSign p3)), (4, vR (F_St_text 3 p1)), (0, vR 0), (1, vI p1), (2, vI p2), (3, vI p3)]) (st1 := [vI (F_X_isSign p3)]) (h1 := h98) (P := True ∧ True) (by decide +kernel) rfl rfl ⟨trivial, trivial⟩ ?_
                  obtain ⟨kj101, e108, hF⟩ := jk1_elim hF
                  have j101 : ∀ (h100 : MH), kj101 h100 = some (r, h') → K 149 [(4, vR (F_St_text 3 p1))] [] h100 := by
                    intro h100 hF
                    have hF := (e108 h100).symm.trans hF
                    refine g_seg hK [.aload 4] 149 151 (L1 := [(4, vR (F_St_text 3 p1))]) (st1 := [vR (F_St_text 3 p1)]) (h1 := h100) (P := True ∧ True) (by decide +kernel) rfl rfl ⟨trivial, trivial⟩ ?_
                    refine g_callV1 hK 151 63 (d1 := 0) (ci := 3) (i := F_St_text 3 p1) (vs := []) (rest := []) (h1 := h100) (r := vI (F_Ro_size (F_St_text 3 p1) h100)) my_yX3_size vw_X6_63 (by decide) (T_Ro_size (o := (F_St_text 3 p1)) (h := h100) (ko := (kd_St_text rfl)) (hF := rfl)) (kd_St_text rfl) rfl rfl (Nat.le_of_ble_eq_true rfl) (by decide +kernel) ?_
                    cases hF
                    exact hR.1 154 _ _ _ (by decide +kernel) rfl ⟨rfl, rfl⟩
                  refine g_ifz hK 112 .eq (13) 125 (t1 := 125) (t2 := 115) (by decide +kernel) (by decide) rfl rfl (fun (hc102 : F_X_isSign p3 = 0) => ?_) (fun (hc102 : ¬ (F_X_isSign p3 = 0)) => ?_)
                  · have hF := ite_t hc102 hF
                    refine g_seg hK [.iload 6] 125 127 (L1 := [(6, vI (F_X_isSign (wr (p3 - 10)))), (5, vI (F_X_isSign p3)), (4, vR (F_St_text 3 p1)), (0, vR 0), (1, vI p1), (2, vI p2), (3, vI p3)]) (st1 := [vI (F_X_isSign (wr (p3 - 10)))]) (h1 := h98) (P := True ∧ True) (by decide +kernel) rfl rfl ⟨trivial, trivial⟩ ?_
                    refine g_ifz hK 127 .eq (16) 143 (t1 := 143) (t2 := 130) (by decide +kernel) (by decide) rfl rfl (fun (hc103 : F_X_isSign (wr (p3 - 10)) = 0) => ?_) (fun (hc103 : ¬ (F_X_isSign (wr (p3 - 10)) = 0)) => ?_)
                    · have hF := ite_t hc103 hF
                      refine g_seg hK [.aload 4, .iload_n 2] 143 146 (L1 := [(6, vI (F_X_isSign (wr (p3 - 10)))), (5, vI (F_X_isSign p3)), (4, vR (F_St_text 3 p1)), (0, vR 0), (1, vI p1), (2, vI p2), (3, vI p3)]) (st1 := [vI p2, vR (F_St_text 3 p1)]) (h1 := h98) (P := True ∧ True ∧ True) (by decide +kernel) rfl rfl ⟨trivial, trivial, trivial⟩ ?_
                      obtain ⟨h104, e105, hF⟩ := ob1_elim hF
                      refine g_callV0 hK 146 102 (d1 := 1) (ci := 3) (i := F_St_text 3 p1) (vs := [vI p2]) (rest := []) (h1 := h104) my_yX3_putOut vw_X6_102 (by decide) (T_Ro_putOut (o := (F_St_text 3 p1)) (p1 := p2) (h := h98) (ko := (kd_St_text rfl)) (hF := e105)) (kd_St_text rfl) rfl rfl (Nat.le_of_ble_eq_true rfl) (by decide +kernel) ?_
                      refine hK.2.1 _ _ ([(4, vR (F_St_text 3 p1))]) _ _ (sub_of [2] rfl) ?_
                      exact j101 _ hF
                    · have hF := ite_f hc103 hF
                      refine g_seg hK [.aload 4, .iload_n 2, .iload_n 3, .bipush 10, .isub] 130 137 (L1 := [(6, vI (F_X_isSign (wr (p3 - 10)))), (5, vI (F_X_isSign p3)), (4, vR (F_St_text 3 p1)), (0, vR 0), (1, vI p1), (2, vI p2), (3, vI p3)]) (st1 := [vI (wr (p3 - 10)), vI p2, vR (F_St_text 3 p1)]) (h1 := h98) (P := True ∧ True ∧ True ∧ True ∧ True ∧ True) (by decide +kernel) rfl rfl ⟨trivial, trivial, trivial, trivial, trivial, trivial⟩ ?_
                      refine g_callV0 hK 137 99 (d1 := 0) (ci := 3) (i := F_St_text 3 p1) (vs := [vI p2, vI (wr (p3 - 10))]) (rest := []) (h1 := (F_Ro_change (F_St_text 3 p1) p2 (wr (p3 - 10)) h98)) my_yX3_change vw_X6_99 (by decide) (T_Ro_change (o := (F_St_text 3 p1)) (p1 := p2) (p2 := (wr (p3 - 10))) (h := h98) (ko := (kd_St_text rfl)) (hF := rfl)) (kd_St_text rfl) rfl rfl (Nat.le_of_ble_eq_true rfl) (by decide +kernel) ?_
                      refine g_goto hK 140 (9) 149 (by decide +kernel) (by decide) ?_
                      refine hK.2.1 _ _ ([(4, vR (F_St_text 3 p1))]) _ _ (sub_of [2] rfl) ?_
                      exact j101 _ hF
                  · have hF := ite_f hc102 hF
                    refine g_seg hK [.aload 4, .iload_n 2, .iload_n 3] 115 119 (L1 := [(6, vI (F_X_isSign (wr (p3 - 10)))), (5, vI (F_X_isSign p3)), (4, vR (F_St_text 3 p1)), (0, vR 0), (1, vI p1), (2, vI p2), (3, vI p3)]) (st1 := [vI p3, vI p2, vR (F_St_text 3 p1)]) (h1 := h98) (P := True ∧ True ∧ True ∧ True) (by decide +kernel) rfl rfl ⟨trivial, trivial, trivial, trivial⟩ ?_
                    obtain ⟨h106, e107, hF⟩ := ob1_elim hF
                    refine g_callV0 hK 119 95 (d1 := 1) (ci := 3) (i := F_St_text 3 p1) (vs := [vI p2, vI p3]) (rest := []) (h1 := h106) my_yX3_putIn vw_X6_95 (by decide) (T_Ro_putIn (o := (F_St_text 3 p1)) (p1 := p2) (p2 := p3) (h := h98) (ko := (kd_St_text rfl)) (hF := e107)) (kd_St_text rfl) rfl rfl (Nat.le_of_ble_eq_true rfl) (by decide +kernel) ?_
                    refine g_goto hK 122 (27) 149 (by decide +kernel) (by decide) ?_
                    refine hK.2.1 _ _ ([(4, vR (F_St_text 3 p1))]) _ _ (sub_of [2] rfl) ?_
                    exact j101 _ hF
                · have hF := ite_f hc97 hF
                  refine g_seg hK [.bipush (-3)] 96 98 (L1 := [(6, vI (F_X_isSign (wr (p3 - 10)))), (5, vI (F_X_isSign p3)), (4, vR (F_St_text 3 p1)), (0, vR 0), (1, vI p1), (2, vI p2), (3, vI p3)]) (st1 := [vI (-3)]) (h1 := h) (P := True ∧ True) (by decide +kernel) rfl rfl ⟨trivial, trivial⟩ ?_
                  cases hF
                  exact hR.1 98 _ _ _ (by decide +kernel) rfl ⟨rfl, rfl⟩
          · have hF := ite_f hc58 hF
            refine g_seg hK [.iconst (-1)] 79 80 (L1 := [(6, vI (F_X_isSign (wr (p3 - 10)))), (5, vI (F_X_isSign p3)), (4, vR (F_St_text 3 p1)), (0, vR 0), (1, vI p1), (2, vI p2), (3, vI p3)]) (st1 := [vI (-1)]) (h1 := h) (P := True ∧ True) (by decide +kernel) rfl rfl ⟨trivial, trivial⟩ ?_
            cases hF
            exact hR.1 80 _ _ _ (by decide +kernel) rfl ⟨rfl, rfl⟩
    · have hF := ite_f hc2 hF
      refine g_seg hK [.iload_n 2] 52 53 (L1 := [(6, vI (F_X_isSign (wr (p3 - 10)))), (5, vI (F_X_isSign p3)), (4, vR (F_St_text 3 p1)), (0, vR 0), (1, vI p1), (2, vI p2), (3, vI p3)]) (st1 := [vI p2]) (h1 := h) (P := True ∧ True) (by decide +kernel) rfl rfl ⟨trivial, trivial⟩ ?_
      refine g_ifz hK 53 .lt (26) 79 (t1 := 79) (t2 := 56) (by decide +kernel) (by decide) rfl rfl (fun (hc109 : p2 < 0) => ?_) (fun (hc109 : ¬ (p2 < 0)) => ?_)
      · have hF := ite_t hc109 hF
        refine g_seg hK [.iconst (-1)] 79 80 (L1 := [(6, vI (F_X_isSign (wr (p3 - 10)))), (5, vI (F_X_isSign p3)), (4, vR (F_St_text 3 p1)), (0, vR 0), (1, vI p1), (2, vI p2), (3, vI p3)]) (st1 := [vI (-1)]) (h1 := h) (P := True ∧ True) (by decide +kernel) rfl rfl ⟨trivial, trivial⟩ ?_
        cases hF
        exact hR.1 80 _ _ _ (by decide +kernel) rfl ⟨rfl, rfl⟩
      · have hF := ite_f hc109 hF
        refine g_seg hK [.iload_n 2, .aload 4] 56 59 (L1 := [(6, vI (F_X_isSign (wr (p3 - 10)))), (5, vI (F_X_isSign p3)), (4, vR (F_St_text 3 p1)), (0, vR 0), (1, vI p1), (2, vI p2), (3, vI p3)]) (st1 := [vR (F_St_text 3 p1), vI p2]) (h1 := h) (P := True ∧ True ∧ True) (by decide +kernel) rfl rfl ⟨trivial, trivial, trivial⟩ ?_
        refine g_callV1 hK 59 63 (d1 := 0) (ci := 3) (i := F_St_text 3 p1) (vs := []) (rest := [vI p2]) (h1 := h) (r := vI (F_Ro_size (F_St_text 3 p1) h)) my_yX3_size vw_X6_63 (by decide) (T_Ro_size (o := (F_St_text 3 p1)) (h := h) (ko := (kd_St_text rfl)) (hF := rfl)) (kd_St_text rfl) rfl rfl (Nat.le_of_ble_eq_true rfl) (by decide +kernel) ?_
        refine g_icmp hK 62 .gt (17) 79 (t1 := 65) (t2 := 79) (by decide +kernel) (by decide) rfl rfl (fun (hc110 : p2 ≤ F_Ro_size (F_St_text 3 p1) h) => ?_) (fun (hc110 : ¬ (p2 ≤ F_Ro_size (F_St_text 3 p1) h)) => ?_)
        · have hF := ite_t hc110 hF
          refine g_seg hK [.iload_n 2, .aload 4] 65 68 (L1 := [(6, vI (F_X_isSign (wr (p3 - 10)))), (5, vI (F_X_isSign p3)), (4, vR (F_St_text 3 p1)), (0, vR 0), (1, vI p1), (2, vI p2), (3, vI p3)]) (st1 := [vR (F_St_text 3 p1), vI p2]) (h1 := h) (P := True ∧ True ∧ True) (by decide +kernel) rfl rfl ⟨trivial, trivial, trivial⟩ ?_
          refine g_callV1 hK 68 63 (d1 := 0) (ci := 3) (i := F_St_text 3 p1) (vs := []) (rest := [vI p2]) (h1 := h) (r := vI (F_Ro_size (F_St_text 3 p1) h)) my_yX3_size vw_X6_63 (by decide) (T_Ro_size (o := (F_St_text 3 p1)) (h := h) (ko := (kd_St_text rfl)) (hF := rfl)) (kd_St_text rfl) rfl rfl (Nat.le_of_ble_eq_true rfl) (by decide +kernel) ?_
          refine g_icmp hK 71 .ne (10) 81 (t1 := 74) (t2 := 81) (by decide +kernel) (by decide) rfl rfl (fun (hc111 : p2 = F_Ro_size (F_St_text 3 p1) h) => ?_) (fun (hc111 : ¬ (p2 = F_Ro_size (F_St_text 3 p1) h)) => ?_)
          · have hF := ite_t hc111 hF
            refine g_seg hK [.iload 5] 74 76 (L1 := [(6, vI (F_X_isSign (wr (p3 - 10)))), (5, vI (F_X_isSign p3)), (4, vR (F_St_text 3 p1)), (0, vR 0), (1, vI p1), (2, vI p2), (3, vI p3)]) (st1 := [vI (F_X_isSign p3)]) (h1 := h) (P := True ∧ True) (by decide +kernel) rfl rfl ⟨trivial, trivial⟩ ?_
            refine g_ifz hK 76 .ne (5) 81 (t1 := 79) (t2 := 81) (by decide +kernel) (by decide) rfl rfl (fun (hc112 : F_X_isSign p3 = 0) => ?_) (fun (hc112 : ¬ (F_X_isSign p3 = 0)) => ?_)
            · have hF := ite_t hc112 hF
              refine g_seg hK [.iconst (-1)] 79 80 (L1 := [(6, vI (F_X_isSign (wr (p3 - 10)))), (5, vI (F_X_isSign p3)), (4, vR (F_St_text 3 p1)), (0, vR 0), (1, vI p1), (2, vI p2), (3, vI p3)]) (st1 := [vI (-1)]) (h1 := h) (P := True ∧ True) (by decide +kernel) rfl rfl ⟨trivial, trivial⟩ ?_
              cases hF
              exact hR.1 80 _ _ _ (by decide +kernel) rfl ⟨rfl, rfl⟩
            · have hF := ite_f hc112 hF
              refine g_seg hK [.iload 5] 81 83 (L1 := [(6, vI (F_X_isSign (wr (p3 - 10)))), (5, vI (F_X_isSign p3)), (4, vR (F_St_text 3 p1)), (0, vR 0), (1, vI p1), (2, vI p2), (3, vI p3)]) (st1 := [vI (F_X_isSign p3)]) (h1 := h) (P := True ∧ True) (by decide +kernel) rfl rfl ⟨trivial, trivial⟩ ?_
              refine g_ifz hK 83 .eq (16) 99 (t1 := 99) (t2 := 86) (by decide +kernel) (by decide) rfl rfl (fun (hc113 : F_X_isSign p3 = 0) => ?_) (fun (hc113 : ¬ (F_X_isSign p3 = 0)) => ?_)
              · have hF := ite_t hc113 hF
                refine g_seg hK [.aload_n 0, .getfield 35, .aload_n 0, .getfield 21] 99 107 (L1 := [(6, vI (F_X_isSign (wr (p3 - 10)))), (5, vI (F_X_isSign p3)), (4, vR (F_St_text 3 p1)), (0, vR 0), (1, vI p1), (2, vI p2), (3, vI p3)]) (st1 := [vR 3, vR 17]) (h1 := h) (P := True ∧ kd 0 = 8 ∧ True ∧ kd 0 = 8 ∧ True) (by decide +kernel) rfl rfl ⟨trivial, rfl, trivial, rfl, trivial⟩ ?_
                obtain ⟨h114, e115, hF⟩ := ob1_elim hF
                refine g_callV0 hK 107 84 (d1 := 5) (ci := 1) (i := 17) (vs := [vR 3]) (rest := []) (h1 := h114) my_yX1_record vw_X6_84 (by decide) (T_Hi_record (p1 := 3) (h := h) (kp1 := rfl) (hF := e115)) rfl rfl rfl (Nat.le_of_ble_eq_true rfl) (by decide +kernel) ?_
                refine g_seg hK [.iload 5] 110 112 (L1 := [(6, vI (F_X_isSign (wr (p3 - 10)))), (5, vI (F_X_isSign p3)), (4, vR (F_St_text 3 p1)), (0, vR 0), (1, vI p1), (2, vI p2), (3, vI p3)]) (st1 := [vI (F_X_isSign p3)]) (h1 := h114) (P := True ∧ True) (by decide +kernel) rfl rfl ⟨trivial, trivial⟩ ?_
                obtain ⟨kj117, e124, hF⟩ := jk1_elim hF
                have j117 : ∀ (h116 : MH), kj117 h116 = some (r, h') → K 149 [(4, vR (F_St_text 3 p1))] [] h116 := by
                  intro h116 hF
                  have hF := (e124 h116).symm.trans hF
                  refine g_seg hK [.aload 4] 149 151 (L1 := [(4, vR (F_St_text 3 p1))]) (st1 := [vR (F_St_text 3 p1)]) (h1 := h116) (P := True ∧ True) (by decide +kernel) rfl rfl ⟨trivial, trivial⟩ ?_
                  refine g_callV1 hK 151 63 (d1 := 0) (ci := 3) (i := F_St_text 3 p1) (vs := []) (rest := []) (h1 := h116) (r := vI (F_Ro_size (F_St_text 3 p1) h116)) my_yX3_size vw_X6_63 (by decide) (T_Ro_size (o := (F_St_text 3 p1)) (h := h116) (ko := (kd_St_text rfl)) (hF := rfl)) (kd_St_text rfl) rfl rfl (Nat.le_of_ble_eq_true rfl) (by decide +kernel) ?_
                  cases hF
                  exact hR.1 154 _ _ _ (by decide +kernel) rfl ⟨rfl, rfl⟩
                refine g_ifz hK 112 .eq (13) 125 (t1 := 125) (t2 := 115) (by decide +kernel) (by decide) rfl rfl (fun (hc118 : F_X_isSign p3 = 0) => ?_) (fun (hc118 : ¬ (F_X_isSign p3 = 0)) => ?_)
                · have hF := ite_t hc118 hF
                  refine g_seg hK [.iload 6] 125 127 (L1 := [(6, vI (F_X_isSign (wr (p3 - 10)))), (5, vI (F_X_isSign p3)), (4, vR (F_St_text 3 p1)), (0, vR 0), (1, vI p1), (2, vI p2), (3, vI p3)]) (st1 := [vI (F_X_isSign (wr (p3 - 10)))]) (h1 := h114) (P := True ∧ True) (by decide +kernel) rfl rfl ⟨trivial, trivial⟩ ?_
                  refine g_ifz hK 127 .eq (16) 143 (t1 := 143) (t2 := 130) (by decide +kernel) (by decide) rfl rfl (fun (hc119 : F_X_isSign (wr (p3 - 10)) = 0) => ?_) (fun (hc119 : ¬ (F_X_isSign (wr (p3 - 10)) = 0)) => ?_)
                  · have hF := ite_t hc119 hF
                    refine g_seg hK [.aload 4, .iload_n 2] 143 146 (L1 := [(6, vI (F_X_isSign (wr (p3 - 10)))), (5, vI (F_X_isSign p3)), (4, vR (F_St_text 3 p1)), (0, vR 0), (1, vI p1), (2, vI p2), (3, vI p3)]) (st1 := [vI p2, vR (F_St_text 3 p1)]) (h1 := h114) (P := True ∧ True ∧ True) (by decide +kernel) rfl rfl ⟨trivial, trivial, trivial⟩ ?_
                    obtain ⟨h120, e121, hF⟩ := ob1_elim hF
                    refine g_callV0 hK 146 102 (d1 := 1) (ci := 3) (i := F_St_text 3 p1) (vs := [vI p2]) (rest := []) (h1 := h120) my_yX3_putOut vw_X6_102 (by decide) (T_Ro_putOut (o := (F_St_text 3 p1)) (p1 := p2) (h := h114) (ko := (kd_St_text rfl)) (hF := e121)) (kd_St_text rfl) rfl rfl (Nat.le_of_ble_eq_true rfl) (by decide +kernel) ?_
                    refine hK.2.1 _ _ ([(4, vR (F_St_text 3 p1))]) _ _ (sub_of [2] rfl) ?_
                    exact j117 _ hF
                  · have hF := ite_f hc119 hF
                    refine g_seg hK [.aload 4, .iload_n 2, .iload_n 3, .bipush 10, .isub] 130 137 (L1 := [(6, vI (F_X_isSign (wr (p3 - 10)))), (5, vI (F_X_isSign p3)), (4, vR (F_St_text 3 p1)), (0, vR 0), (1, vI p1), (2, vI p2), (3, vI p3)]) (st1 := [vI (wr (p3 - 10)), vI p2, vR (F_St_text 3 p1)]) (h1 := h114) (P := True ∧ True ∧ True ∧ True ∧ True ∧ True) (by decide +kernel) rfl rfl ⟨trivial, trivial, trivial, trivial, trivial, trivial⟩ ?_
                    refine g_callV0 hK 137 99 (d1 := 0) (ci := 3) (i := F_St_text 3 p1) (vs := [vI p2, vI (wr (p3 - 10))]) (rest := []) (h1 := (F_Ro_change (F_St_text 3 p1) p2 (wr (p3 - 10)) h114)) my_yX3_change vw_X6_99 (by decide) (T_Ro_change (o := (F_St_text 3 p1)) (p1 := p2) (p2 := (wr (p3 - 10))) (h := h114) (ko := (kd_St_text rfl)) (hF := rfl)) (kd_St_text rfl) rfl rfl (Nat.le_of_ble_eq_true rfl) (by decide +kernel) ?_
                    refine g_goto hK 140 (9) 149 (by decide +kernel) (by decide) ?_
                    refine hK.2.1 _ _ ([(4, vR (F_St_text 3 p1))]) _ _ (sub_of [2] rfl) ?_
                    exact j117 _ hF
                · have hF := ite_f hc118 hF
                  refine g_seg hK [.aload 4, .iload_n 2, .iload_n 3] 115 119 (L1 := [(6, vI (F_X_isSign (wr (p3 - 10)))), (5, vI (F_X_isSign p3)), (4, vR (F_St_text 3 p1)), (0, vR 0), (1, vI p1), (2, vI p2), (3, vI p3)]) (st1 := [vI p3, vI p2, vR (F_St_text 3 p1)]) (h1 := h114) (P := True ∧ True ∧ True ∧ True) (by decide +kernel) rfl rfl ⟨trivial, trivial, trivial, trivial⟩ ?_
                  obtain ⟨h122, e123, hF⟩ := ob1_elim hF
                  refine g_callV0 hK 119 95 (d1 := 1) (ci := 3) (i := F_St_text 3 p1) (vs := [vI p2, vI p3]) (rest := []) (h1 := h122) my_yX3_putIn vw_X6_95 (by decide) (T_Ro_putIn (o := (F_St_text 3 p1)) (p1 := p2) (p2 := p3) (h := h114) (ko := (kd_St_text rfl)) (hF := e123)) (kd_St_text rfl) rfl rfl (Nat.le_of_ble_eq_true rfl) (by decide +kernel) ?_
                  refine g_goto hK 122 (27) 149 (by decide +kernel) (by decide) ?_
                  refine hK.2.1 _ _ ([(4, vR (F_St_text 3 p1))]) _ _ (sub_of [2] rfl) ?_
                  exact j117 _ hF
              · have hF := ite_f hc113 hF
                refine g_seg hK [.aload 4] 86 88 (L1 := [(6, vI (F_X_isSign (wr (p3 - 10)))), (5, vI (F_X_isSign p3)), (4, vR (F_St_text 3 p1)), (0, vR 0), (1, vI p1), (2, vI p2), (3, vI p3)]) (st1 := [vR (F_St_text 3 p1)]) (h1 := h) (P := True ∧ True) (by decide +kernel) rfl rfl ⟨trivial, trivial⟩ ?_
                refine g_callV1 hK 88 63 (d1 := 0) (ci := 3) (i := F_St_text 3 p1) (vs := []) (rest := []) (h1 := h) (r := vI (F_Ro_size (F_St_text 3 p1) h)) my_yX3_size vw_X6_63 (by decide) (T_Ro_size (o := (F_St_text 3 p1)) (h := h) (ko := (kd_St_text rfl)) (hF := rfl)) (kd_St_text rfl) rfl rfl (Nat.le_of_ble_eq_true rfl) (by decide +kernel) ?_
                refine g_seg hK [.bipush 14] 91 93 (L1 := [(6, vI (F_X_isSign (wr (p3 - 10)))), (5, vI (F_X_isSign p3)), (4, vR (F_St_text 3 p1)), (0, vR 0), (1, vI p1), (2, vI p2), (3, vI p3)]) (st1 := [vI 14, vI (F_Ro_size (F_St_text 3 p1) h)]) (h1 := h) (P := True ∧ True) (by decide +kernel) rfl rfl ⟨trivial, trivial⟩ ?_
                refine g_icmp hK 93 .lt (6) 99 (t1 := 99) (t2 := 96) (by decide +kernel) (by decide) rfl rfl (fun (hc125 : F_Ro_size (F_St_text 3 p1) h < 14) => ?_) (fun (hc125 : ¬ (F_Ro_size (F_St_text 3 p1) h < 14)) => ?_)
                · have hF := ite_t hc125 hF
                  refine g_seg hK [.aload_n 0, .getfield 35, .aload_n 0, .getfield 21] 99 107 (L1 := [(6, vI (F_X_isSign (wr (p3 - 10)))), (5, vI (F_X_isSign p3)), (4, vR (F_St_text 3 p1)), (0, vR 0), (1, vI p1), (2, vI p2), (3, vI p3)]) (st1 := [vR 3, vR 17]) (h1 := h) (P := True ∧ kd 0 = 8 ∧ True ∧ kd 0 = 8 ∧ True) (by decide +kernel) rfl rfl ⟨trivial, rfl, trivial, rfl, trivial⟩ ?_
                  obtain ⟨h126, e127, hF⟩ := ob1_elim hF
                  refine g_callV0 hK 107 84 (d1 := 5) (ci := 1) (i := 17) (vs := [vR 3]) (rest := []) (h1 := h126) my_yX1_record vw_X6_84 (by decide) (T_Hi_record (p1 := 3) (h := h) (kp1 := rfl) (hF := e127)) rfl rfl rfl (Nat.le_of_ble_eq_true rfl) (by decide +kernel) ?_
                  refine g_seg hK [.iload 5] 110 112 (L1 := [(6, vI (F_X_isSign (wr (p3 - 10)))), (5, vI (F_X_isSign p3)), (4, vR (F_St_text 3 p1)), (0, vR 0), (1, vI p1), (2, vI p2), (3, vI p3)]) (st1 := [vI (F_X_isSign p3)]) (h1 := h126) (P := True ∧ True) (by decide +kernel) rfl rfl ⟨trivial, trivial⟩ ?_
                  obtain ⟨kj129, e136, hF⟩ := jk1_elim hF
                  have j129 : ∀ (h128 : MH), kj129 h128 = some (r, h') → K 149 [(4, vR (F_St_text 3 p1))] [] h128 := by
                    intro h128 hF
                    have hF := (e136 h128).symm.trans hF
                    refine g_seg hK [.aload 4] 149 151 (L1 := [(4, vR (F_St_text 3 p1))]) (st1 := [vR (F_St_text 3 p1)]) (h1 := h128) (P := True ∧ True) (by decide +kernel) rfl rfl ⟨trivial, trivial⟩ ?_
                    refine g_callV1 hK 151 63 (d1 := 0) (ci := 3) (i := F_St_text 3 p1) (vs := []) (rest := []) (h1 := h128) (r := vI (F_Ro_size (F_St_text 3 p1) h128)) my_yX3_size vw_X6_63 (by decide) (T_Ro_size (o := (F_St_text 3 p1)) (h := h128) (ko := (kd_St_text rfl)) (hF := rfl)) (kd_St_text rfl) rfl rfl (Nat.le_of_ble_eq_true rfl) (by decide +kernel) ?_
                    cases hF
                    exact hR.1 154 _ _ _ (by decide +kernel) rfl ⟨rfl, rfl⟩
                  refine g_ifz hK 112 .eq (13) 125 (t1 := 125) (t2 := 115) (by decide +kernel) (by decide) rfl rfl (fun (hc130 : F_X_isSign p3 = 0) => ?_) (fun (hc130 : ¬ (F_X_isSign p3 = 0)) => ?_)
                  · have hF := ite_t hc130 hF
                    refine g_seg hK [.iload 6] 125 127 (L1 := [(6, vI (F_X_isSign (wr (p3 - 10)))), (5, vI (F_X_isSign p3)), (4, vR (F_St_text 3 p1)), (0, vR 0), (1, vI p1), (2, vI p2), (3, vI p3)]) (st1 := [vI (F_X_isSign (wr (p3 - 10)))]) (h1 := h126) (P := True ∧ True) (by decide +kernel) rfl rfl ⟨trivial, trivial⟩ ?_
                    refine g_ifz hK 127 .eq (16) 143 (t1 := 143) (t2 := 130) (by decide +kernel) (by decide) rfl rfl (fun (hc131 : F_X_isSign (wr (p3 - 10)) = 0) => ?_) (fun (hc131 : ¬ (F_X_isSign (wr (p3 - 10)) = 0)) => ?_)
                    · have hF := ite_t hc131 hF
                      refine g_seg hK [.aload 4, .iload_n 2] 143 146 (L1 := [(6, vI (F_X_isSign (wr (p3 - 10)))), (5, vI (F_X_isSign p3)), (4, vR (F_St_text 3 p1)), (0, vR 0), (1, vI p1), (2, vI p2), (3, vI p3)]) (st1 := [vI p2, vR (F_St_text 3 p1)]) (h1 := h126) (P := True ∧ True ∧ True) (by decide +kernel) rfl rfl ⟨trivial, trivial, trivial⟩ ?_
                      obtain ⟨h132, e133, hF⟩ := ob1_elim hF
                      refine g_callV0 hK 146 102 (d1 := 1) (ci := 3) (i := F_St_text 3 p1) (vs := [vI p2]) (rest := []) (h1 := h132) my_yX3_putOut vw_X6_102 (by decide) (T_Ro_putOut (o := (F_St_text 3 p1)) (p1 := p2) (h := h126) (ko := (kd_St_text rfl)) (hF := e133)) (kd_St_text rfl) rfl rfl (Nat.le_of_ble_eq_true rfl) (by decide +kernel) ?_
                      refine hK.2.1 _ _ ([(4, vR (F_St_text 3 p1))]) _ _ (sub_of [2] rfl) ?_
                      exact j129 _ hF
                    · have hF := ite_f hc131 hF
                      refine g_seg hK [.aload 4, .iload_n 2, .iload_n 3, .bipush 10, .isub] 130 137 (L1 := [(6, vI (F_X_isSign (wr (p3 - 10)))), (5, vI (F_X_isSign p3)), (4, vR (F_St_text 3 p1)), (0, vR 0), (1, vI p1), (2, vI p2), (3, vI p3)]) (st1 := [vI (wr (p3 - 10)), vI p2, vR (F_St_text 3 p1)]) (h1 := h126) (P := True ∧ True ∧ True ∧ True ∧ True ∧ True) (by decide +kernel) rfl rfl ⟨trivial, trivial, trivial, trivial, trivial, trivial⟩ ?_
                      refine g_callV0 hK 137 99 (d1 := 0) (ci := 3) (i := F_St_text 3 p1) (vs := [vI p2, vI (wr (p3 - 10))]) (rest := []) (h1 := (F_Ro_change (F_St_text 3 p1) p2 (wr (p3 - 10)) h126)) my_yX3_change vw_X6_99 (by decide) (T_Ro_change (o := (F_St_text 3 p1)) (p1 := p2) (p2 := (wr (p3 - 10))) (h := h126) (ko := (kd_St_text rfl)) (hF := rfl)) (kd_St_text rfl) rfl rfl (Nat.le_of_ble_eq_true rfl) (by decide +kernel) ?_
                      refine g_goto hK 140 (9) 149 (by decide +kernel) (by decide) ?_
                      refine hK.2.1 _ _ ([(4, vR (F_St_text 3 p1))]) _ _ (sub_of [2] rfl) ?_
                      exact j129 _ hF
                  · have hF := ite_f hc130 hF
                    refine g_seg hK [.aload 4, .iload_n 2, .iload_n 3] 115 119 (L1 := [(6, vI (F_X_isSign (wr (p3 - 10)))), (5, vI (F_X_isSign p3)), (4, vR (F_St_text 3 p1)), (0, vR 0), (1, vI p1), (2, vI p2), (3, vI p3)]) (st1 := [vI p3, vI p2, vR (F_St_text 3 p1)]) (h1 := h126) (P := True ∧ True ∧ True ∧ True) (by decide +kernel) rfl rfl ⟨trivial, trivial, trivial, trivial⟩ ?_
                    obtain ⟨h134, e135, hF⟩ := ob1_elim hF
                    refine g_callV0 hK 119 95 (d1 := 1) (ci := 3) (i := F_St_text 3 p1) (vs := [vI p2, vI p3]) (rest := []) (h1 := h134) my_yX3_putIn vw_X6_95 (by decide) (T_Ro_putIn (o := (F_St_text 3 p1)) (p1 := p2) (p2 := p3) (h := h126) (ko := (kd_St_text rfl)) (hF := e135)) (kd_St_text rfl) rfl rfl (Nat.le_of_ble_eq_true rfl) (by decide +kernel) ?_
                    refine g_goto hK 122 (27) 149 (by decide +kernel) (by decide) ?_
                    refine hK.2.1 _ _ ([(4, vR (F_St_text 3 p1))]) _ _ (sub_of [2] rfl) ?_
                    exact j129 _ hF
                · have hF := ite_f hc125 hF
                  refine g_seg hK [.bipush (-3)] 96 98 (L1 := [(6, vI (F_X_isSign (wr (p3 - 10)))), (5, vI (F_X_isSign p3)), (4, vR (F_St_text 3 p1)), (0, vR 0), (1, vI p1), (2, vI p2), (3, vI p3)]) (st1 := [vI (-3)]) (h1 := h) (P := True ∧ True) (by decide +kernel) rfl rfl ⟨trivial, trivial⟩ ?_
                  cases hF
                  exact hR.1 98 _ _ _ (by decide +kernel) rfl ⟨rfl, rfl⟩
          · have hF := ite_f hc111 hF
            refine g_seg hK [.iload 5] 81 83 (L1 := [(6, vI (F_X_isSign (wr (p3 - 10)))), (5, vI (F_X_isSign p3)), (4, vR (F_St_text 3 p1)), (0, vR 0), (1, vI p1), (2, vI p2), (3, vI p3)]) (st1 := [vI (F_X_isSign p3)]) (h1 := h) (P := True ∧ True) (by decide +kernel) rfl rfl ⟨trivial, trivial⟩ ?_
            refine g_ifz hK 83 .eq (16) 99 (t1 := 99) (t2 := 86) (by decide +kernel) (by decide) rfl rfl (fun (hc137 : F_X_isSign p3 = 0) => ?_) (fun (hc137 : ¬ (F_X_isSign p3 = 0)) => ?_)
            · have hF := ite_t hc137 hF
              refine g_seg hK [.aload_n 0, .getfield 35, .aload_n 0, .getfield 21] 99 107 (L1 := [(6, vI (F_X_isSign (wr (p3 - 10)))), (5, vI (F_X_isSign p3)), (4, vR (F_St_text 3 p1)), (0, vR 0), (1, vI p1), (2, vI p2), (3, vI p3)]) (st1 := [vR 3, vR 17]) (h1 := h) (P := True ∧ kd 0 = 8 ∧ True ∧ kd 0 = 8 ∧ True) (by decide +kernel) rfl rfl ⟨trivial, rfl, trivial, rfl, trivial⟩ ?_
              obtain ⟨h138, e139, hF⟩ := ob1_elim hF
              refine g_callV0 hK 107 84 (d1 := 5) (ci := 1) (i := 17) (vs := [vR 3]) (rest := []) (h1 := h138) my_yX1_record vw_X6_84 (by decide) (T_Hi_record (p1 := 3) (h := h) (kp1 := rfl) (hF := e139)) rfl rfl rfl (Nat.le_of_ble_eq_true rfl) (by decide +kernel) ?_
              refine g_seg hK [.iload 5] 110 112 (L1 := [(6, vI (F_X_isSign (wr (p3 - 10)))), (5, vI (F_X_isSign p3)), (4, vR (F_St_text 3 p1)), (0, vR 0), (1, vI p1), (2, vI p2), (3, vI p3)]) (st1 := [vI (F_X_isSign p3)]) (h1 := h138) (P := True ∧ True) (by decide +kernel) rfl rfl ⟨trivial, trivial⟩ ?_
              obtain ⟨kj141, e148, hF⟩ := jk1_elim hF
              have j141 : ∀ (h140 : MH), kj141 h140 = some (r, h') → K 149 [(4, vR (F_St_text 3 p1))] [] h140 := by
                intro h140 hF
                have hF := (e148 h140).symm.trans hF
                refine g_seg hK [.aload 4] 149 151 (L1 := [(4, vR (F_St_text 3 p1))]) (st1 := [vR (F_St_text 3 p1)]) (h1 := h140) (P := True ∧ True) (by decide +kernel) rfl rfl ⟨trivial, trivial⟩ ?_
                refine g_callV1 hK 151 63 (d1 := 0) (ci := 3) (i := F_St_text 3 p1) (vs := []) (rest := []) (h1 := h140) (r := vI (F_Ro_size (F_St_text 3 p1) h140)) my_yX3_size vw_X6_63 (by decide) (T_Ro_size (o := (F_St_text 3 p1)) (h := h140) (ko := (kd_St_text rfl)) (hF := rfl)) (kd_St_text rfl) rfl rfl (Nat.le_of_ble_eq_true rfl) (by decide +kernel) ?_
                cases hF
                exact hR.1 154 _ _ _ (by decide +kernel) rfl ⟨rfl, rfl⟩
              refine g_ifz hK 112 .eq (13) 125 (t1 := 125) (t2 := 115) (by decide +kernel) (by decide) rfl rfl (fun (hc142 : F_X_isSign p3 = 0) => ?_) (fun (hc142 : ¬ (F_X_isSign p3 = 0)) => ?_)
              · have hF := ite_t hc142 hF
                refine g_seg hK [.iload 6] 125 127 (L1 := [(6, vI (F_X_isSign (wr (p3 - 10)))), (5, vI (F_X_isSign p3)), (4, vR (F_St_text 3 p1)), (0, vR 0), (1, vI p1), (2, vI p2), (3, vI p3)]) (st1 := [vI (F_X_isSign (wr (p3 - 10)))]) (h1 := h138) (P := True ∧ True) (by decide +kernel) rfl rfl ⟨trivial, trivial⟩ ?_
                refine g_ifz hK 127 .eq (16) 143 (t1 := 143) (t2 := 130) (by decide +kernel) (by decide) rfl rfl (fun (hc143 : F_X_isSign (wr (p3 - 10)) = 0) => ?_) (fun (hc143 : ¬ (F_X_isSign (wr (p3 - 10)) = 0)) => ?_)
                · have hF := ite_t hc143 hF
                  refine g_seg hK [.aload 4, .iload_n 2] 143 146 (L1 := [(6, vI (F_X_isSign (wr (p3 - 10)))), (5, vI (F_X_isSign p3)), (4, vR (F_St_text 3 p1)), (0, vR 0), (1, vI p1), (2, vI p2), (3, vI p3)]) (st1 := [vI p2, vR (F_St_text 3 p1)]) (h1 := h138) (P := True ∧ True ∧ True) (by decide +kernel) rfl rfl ⟨trivial, trivial, trivial⟩ ?_
                  obtain ⟨h144, e145, hF⟩ := ob1_elim hF
                  refine g_callV0 hK 146 102 (d1 := 1) (ci := 3) (i := F_St_text 3 p1) (vs := [vI p2]) (rest := []) (h1 := h144) my_yX3_putOut vw_X6_102 (by decide) (T_Ro_putOut (o := (F_St_text 3 p1)) (p1 := p2) (h := h138) (ko := (kd_St_text rfl)) (hF := e145)) (kd_St_text rfl) rfl rfl (Nat.le_of_ble_eq_true rfl) (by decide +kernel) ?_
                  refine hK.2.1 _ _ ([(4, vR (F_St_text 3 p1))]) _ _ (sub_of [2] rfl) ?_
                  exact j141 _ hF
                · have hF := ite_f hc143 hF
                  refine g_seg hK [.aload 4, .iload_n 2, .iload_n 3, .bipush 10, .isub] 130 137 (L1 := [(6, vI (F_X_isSign (wr (p3 - 10)))), (5, vI (F_X_isSign p3)), (4, vR (F_St_text 3 p1)), (0, vR 0), (1, vI p1), (2, vI p2), (3, vI p3)]) (st1 := [vI (wr (p3 - 10)), vI p2, vR (F_St_text 3 p1)]) (h1 := h138) (P := True ∧ True ∧ True ∧ True ∧ True ∧ True) (by decide +kernel) rfl rfl ⟨trivial, trivial, trivial, trivial, trivial, trivial⟩ ?_
                  refine g_callV0 hK 137 99 (d1 := 0) (ci := 3) (i := F_St_text 3 p1) (vs := [vI p2, vI (wr (p3 - 10))]) (rest := []) (h1 := (F_Ro_change (F_St_text 3 p1) p2 (wr (p3 - 10)) h138)) my_yX3_change vw_X6_99 (by decide) (T_Ro_change (o := (F_St_text 3 p1)) (p1 := p2) (p2 := (wr (p3 - 10))) (h := h138) (ko := (kd_St_text rfl)) (hF := rfl)) (kd_St_text rfl) rfl rfl (Nat.le_of_ble_eq_true rfl) (by decide +kernel) ?_
                  refine g_goto hK 140 (9) 149 (by decide +kernel) (by decide) ?_
                  refine hK.2.1 _ _ ([(4, vR (F_St_text 3 p1))]) _ _ (sub_of [2] rfl) ?_
                  exact j141 _ hF
              · have hF := ite_f hc142 hF
                refine g_seg hK [.aload 4, .iload_n 2, .iload_n 3] 115 119 (L1 := [(6, vI (F_X_isSign (wr (p3 - 10)))), (5, vI (F_X_isSign p3)), (4, vR (F_St_text 3 p1)), (0, vR 0), (1, vI p1), (2, vI p2), (3, vI p3)]) (st1 := [vI p3, vI p2, vR (F_St_text 3 p1)]) (h1 := h138) (P := True ∧ True ∧ True ∧ True) (by decide +kernel) rfl rfl ⟨trivial, trivial, trivial, trivial⟩ ?_
                obtain ⟨h146, e147, hF⟩ := ob1_elim hF
                refine g_callV0 hK 119 95 (d1 := 1) (ci := 3) (i := F_St_text 3 p1) (vs := [vI p2, vI p3]) (rest := []) (h1 := h146) my_yX3_putIn vw_X6_95 (by decide) (T_Ro_putIn (o := (F_St_text 3 p1)) (p1 := p2) (p2 := p3) (h := h138) (ko := (kd_St_text rfl)) (hF := e147)) (kd_St_text rfl) rfl rfl (Nat.le_of_ble_eq_true rfl) (by decide +kernel) ?_
                refine g_goto hK 122 (27) 149 (by decide +kernel) (by decide) ?_
                refine hK.2.1 _ _ ([(4, vR (F_St_text 3 p1))]) _ _ (sub_of [2] rfl) ?_
                exact j141 _ hF
            · have hF := ite_f hc137 hF
              refine g_seg hK [.aload 4] 86 88 (L1 := [(6, vI (F_X_isSign (wr (p3 - 10)))), (5, vI (F_X_isSign p3)), (4, vR (F_St_text 3 p1)), (0, vR 0), (1, vI p1), (2, vI p2), (3, vI p3)]) (st1 := [vR (F_St_text 3 p1)]) (h1 := h) (P := True ∧ True) (by decide +kernel) rfl rfl ⟨trivial, trivial⟩ ?_
              refine g_callV1 hK 88 63 (d1 := 0) (ci := 3) (i := F_St_text 3 p1) (vs := []) (rest := []) (h1 := h) (r := vI (F_Ro_size (F_St_text 3 p1) h)) my_yX3_size vw_X6_63 (by decide) (T_Ro_size (o := (F_St_text 3 p1)) (h := h) (ko := (kd_St_text rfl)) (hF := rfl)) (kd_St_text rfl) rfl rfl (Nat.le_of_ble_eq_true rfl) (by decide +kernel) ?_
              refine g_seg hK [.bipush 14] 91 93 (L1 := [(6, vI (F_X_isSign (wr (p3 - 10)))), (5, vI (F_X_isSign p3)), (4, vR (F_St_text 3 p1)), (0, vR 0), (1, vI p1), (2, vI p2), (3, vI p3)]) (st1 := [vI 14, vI (F_Ro_size (F_St_text 3 p1) h)]) (h1 := h) (P := True ∧ True) (by decide +kernel) rfl rfl ⟨trivial, trivial⟩ ?_
              refine g_icmp hK 93 .lt (6) 99 (t1 := 99) (t2 := 96) (by decide +kernel) (by decide) rfl rfl (fun (hc149 : F_Ro_size (F_St_text 3 p1) h < 14) => ?_) (fun (hc149 : ¬ (F_Ro_size (F_St_text 3 p1) h < 14)) => ?_)
              · have hF := ite_t hc149 hF
                refine g_seg hK [.aload_n 0, .getfield 35, .aload_n 0, .getfield 21] 99 107 (L1 := [(6, vI (F_X_isSign (wr (p3 - 10)))), (5, vI (F_X_isSign p3)), (4, vR (F_St_text 3 p1)), (0, vR 0), (1, vI p1), (2, vI p2), (3, vI p3)]) (st1 := [vR 3, vR 17]) (h1 := h) (P := True ∧ kd 0 = 8 ∧ True ∧ kd 0 = 8 ∧ True) (by decide +kernel) rfl rfl ⟨trivial, rfl, trivial, rfl, trivial⟩ ?_
                obtain ⟨h150, e151, hF⟩ := ob1_elim hF
                refine g_callV0 hK 107 84 (d1 := 5) (ci := 1) (i := 17) (vs := [vR 3]) (rest := []) (h1 := h150) my_yX1_record vw_X6_84 (by decide) (T_Hi_record (p1 := 3) (h := h) (kp1 := rfl) (hF := e151)) rfl rfl rfl (Nat.le_of_ble_eq_true rfl) (by decide +kernel) ?_
                refine g_seg hK [.iload 5] 110 112 (L1 := [(6, vI (F_X_isSign (wr (p3 - 10)))), (5, vI (F_X_isSign p3)), (4, vR (F_St_text 3 p1)), (0, vR 0), (1, vI p1), (2, vI p2), (3, vI p3)]) (st1 := [vI (F_X_isSign p3)]) (h1 := h150) (P := True ∧ True) (by decide +kernel) rfl rfl ⟨trivial, trivial⟩ ?_
                obtain ⟨kj153, e160, hF⟩ := jk1_elim hF
                have j153 : ∀ (h152 : MH), kj153 h152 = some (r, h') → K 149 [(4, vR (F_St_text 3 p1))] [] h152 := by
                  intro h152 hF
                  have hF := (e160 h152).symm.trans hF
                  refine g_seg hK [.aload 4] 149 151 (L1 := [(4, vR (F_St_text 3 p1))]) (st1 := [vR (F_St_text 3 p1)]) (h1 := h152) (P := True ∧ True) (by decide +kernel) rfl rfl ⟨trivial, trivial⟩ ?_
                  refine g_callV1 hK 151 63 (d1 := 0) (ci := 3) (i := F_St_text 3 p1) (vs := []) (rest := []) (h1 := h152) (r := vI (F_Ro_size (F_St_text 3 p1) h152)) my_yX3_size vw_X6_63 (by decide) (T_Ro_size (o := (F_St_text 3 p1)) (h := h152) (ko := (kd_St_text rfl)) (hF := rfl)) (kd_St_text rfl) rfl rfl (Nat.le_of_ble_eq_true rfl) (by decide +kernel) ?_
                  cases hF
                  exact hR.1 154 _ _ _ (by decide +kernel) rfl ⟨rfl, rfl⟩
                refine g_ifz hK 112 .eq (13) 125 (t1 := 125) (t2 := 115) (by decide +kernel) (by decide) rfl rfl (fun (hc154 : F_X_isSign p3 = 0) => ?_) (fun (hc154 : ¬ (F_X_isSign p3 = 0)) => ?_)
                · have hF := ite_t hc154 hF
                  refine g_seg hK [.iload 6] 125 127 (L1 := [(6, vI (F_X_isSign (wr (p3 - 10)))), (5, vI (F_X_isSign p3)), (4, vR (F_St_text 3 p1)), (0, vR 0), (1, vI p1), (2, vI p2), (3, vI p3)]) (st1 := [vI (F_X_isSign (wr (p3 - 10)))]) (h1 := h150) (P := True ∧ True) (by decide +kernel) rfl rfl ⟨trivial, trivial⟩ ?_
                  refine g_ifz hK 127 .eq (16) 143 (t1 := 143) (t2 := 130) (by decide +kernel) (by decide) rfl rfl (fun (hc155 : F_X_isSign (wr (p3 - 10)) = 0) => ?_) (fun (hc155 : ¬ (F_X_isSign (wr (p3 - 10)) = 0)) => ?_)
                  · have hF := ite_t hc155 hF
                    refine g_seg hK [.aload 4, .iload_n 2] 143 146 (L1 := [(6, vI (F_X_isSign (wr (p3 - 10)))), (5, vI (F_X_isSign p3)), (4, vR (F_St_text 3 p1)), (0, vR 0), (1, vI p1), (2, vI p2), (3, vI p3)]) (st1 := [vI p2, vR (F_St_text 3 p1)]) (h1 := h150) (P := True ∧ True ∧ True) (by decide +kernel) rfl rfl ⟨trivial, trivial, trivial⟩ ?_
                    obtain ⟨h156, e157, hF⟩ := ob1_elim hF
                    refine g_callV0 hK 146 102 (d1 := 1) (ci := 3) (i := F_St_text 3 p1) (vs := [vI p2]) (rest := []) (h1 := h156) my_yX3_putOut vw_X6_102 (by decide) (T_Ro_putOut (o := (F_St_text 3 p1)) (p1 := p2) (h := h150) (ko := (kd_St_text rfl)) (hF := e157)) (kd_St_text rfl) rfl rfl (Nat.le_of_ble_eq_true rfl) (by decide +kernel) ?_
                    refine hK.2.1 _ _ ([(4, vR (F_St_text 3 p1))]) _ _ (sub_of [2] rfl) ?_
                    exact j153 _ hF
                  · have hF := ite_f hc155 hF
                    refine g_seg hK [.aload 4, .iload_n 2, .iload_n 3, .bipush 10, .isub] 130 137 (L1 := [(6, vI (F_X_isSign (wr (p3 - 10)))), (5, vI (F_X_isSign p3)), (4, vR (F_St_text 3 p1)), (0, vR 0), (1, vI p1), (2, vI p2), (3, vI p3)]) (st1 := [vI (wr (p3 - 10)), vI p2, vR (F_St_text 3 p1)]) (h1 := h150) (P := True ∧ True ∧ True ∧ True ∧ True ∧ True) (by decide +kernel) rfl rfl ⟨trivial, trivial, trivial, trivial, trivial, trivial⟩ ?_
                    refine g_callV0 hK 137 99 (d1 := 0) (ci := 3) (i := F_St_text 3 p1) (vs := [vI p2, vI (wr (p3 - 10))]) (rest := []) (h1 := (F_Ro_change (F_St_text 3 p1) p2 (wr (p3 - 10)) h150)) my_yX3_change vw_X6_99 (by decide) (T_Ro_change (o := (F_St_text 3 p1)) (p1 := p2) (p2 := (wr (p3 - 10))) (h := h150) (ko := (kd_St_text rfl)) (hF := rfl)) (kd_St_text rfl) rfl rfl (Nat.le_of_ble_eq_true rfl) (by decide +kernel) ?_
                    refine g_goto hK 140 (9) 149 (by decide +kernel) (by decide) ?_
                    refine hK.2.1 _ _ ([(4, vR (F_St_text 3 p1))]) _ _ (sub_of [2] rfl) ?_
                    exact j153 _ hF
                · have hF := ite_f hc154 hF
                  refine g_seg hK [.aload 4, .iload_n 2, .iload_n 3] 115 119 (L1 := [(6, vI (F_X_isSign (wr (p3 - 10)))), (5, vI (F_X_isSign p3)), (4, vR (F_St_text 3 p1)), (0, vR 0), (1, vI p1), (2, vI p2), (3, vI p3)]) (st1 := [vI p3, vI p2, vR (F_St_text 3 p1)]) (h1 := h150) (P := True ∧ True ∧ True ∧ True) (by decide +kernel) rfl rfl ⟨trivial, trivial, trivial, trivial⟩ ?_
                  obtain ⟨h158, e159, hF⟩ := ob1_elim hF
                  refine g_callV0 hK 119 95 (d1 := 1) (ci := 3) (i := F_St_text 3 p1) (vs := [vI p2, vI p3]) (rest := []) (h1 := h158) my_yX3_putIn vw_X6_95 (by decide) (T_Ro_putIn (o := (F_St_text 3 p1)) (p1 := p2) (p2 := p3) (h := h150) (ko := (kd_St_text rfl)) (hF := e159)) (kd_St_text rfl) rfl rfl (Nat.le_of_ble_eq_true rfl) (by decide +kernel) ?_
                  refine g_goto hK 122 (27) 149 (by decide +kernel) (by decide) ?_
                  refine hK.2.1 _ _ ([(4, vR (F_St_text 3 p1))]) _ _ (sub_of [2] rfl) ?_
                  exact j153 _ hF
              · have hF := ite_f hc149 hF
                refine g_seg hK [.bipush (-3)] 96 98 (L1 := [(6, vI (F_X_isSign (wr (p3 - 10)))), (5, vI (F_X_isSign p3)), (4, vR (F_St_text 3 p1)), (0, vR 0), (1, vI p1), (2, vI p2), (3, vI p3)]) (st1 := [vI (-3)]) (h1 := h) (P := True ∧ True) (by decide +kernel) rfl rfl ⟨trivial, trivial⟩ ?_
                cases hF
                exact hR.1 98 _ _ _ (by decide +kernel) rfl ⟨rfl, rfl⟩
        · have hF := ite_f hc110 hF
          refine g_seg hK [.iconst (-1)] 79 80 (L1 := [(6, vI (F_X_isSign (wr (p3 - 10)))), (5, vI (F_X_isSign p3)), (4, vR (F_St_text 3 p1)), (0, vR 0), (1, vI p1), (2, vI p2), (3, vI p3)]) (st1 := [vI (-1)]) (h1 := h) (P := True ∧ True) (by decide +kernel) rfl rfl ⟨trivial, trivial⟩ ?_
          cases hF
          exact hR.1 80 _ _ _ (by decide +kernel) rfl ⟨rfl, rfl⟩
set_option maxHeartbeats 4000000 in
set_option maxRecDepth 100000 in
theorem LT_Ro_becomeZeros_L6 {K : KT} (hK : Rules RX3 cX3_becomeZeros 3 none flX3 1 K) {x0 : Nat} {x1 : Int} (kx0 : kd x0 = 5) : ∀ (n : Nat) (x2 : Int) (h : MH) (x2' : Int) (h' : MH), F_Ro_becomeZeros_L6 x0 x1 n x2 h = some (x2', h') → K 22 [(0, vR x0), (1, vI x1), (2, vI x2')] [] h' → K 6 [(0, vR x0), (1, vI x1), (2, vI x2)] [] h := by
  intro n
  induction n with
  | zero =>
    intro x2 h x2' h' hF
    cases hF
  | succ n ih =>
    intro x2 h x2' h' hF hE
    unfold F_Ro_becomeZeros_L6 at hF
    refine g_seg hK [.iload_n 2, .iload_n 1] 6 8 (L1 := [(0, vR x0), (1, vI x1), (2, vI x2)]) (st1 := [vI x1, vI x2]) (h1 := h) (P := True ∧ True ∧ True) (by decide +kernel) rfl rfl ⟨trivial, trivial, trivial⟩ ?_
    refine g_icmp hK 8 .ge (14) 22 (t1 := 11) (t2 := 22) (by decide +kernel) (by decide) rfl rfl (fun (hc1 : x2 < x1) => ?_) (fun (hc1 : ¬ (x2 < x1)) => ?_)
    · have hF := ite_t hc1 hF
      refine g_seg hK [.aload_n 0, .iconst 0] 11 13 (L1 := [(0, vR x0), (1, vI x1), (2, vI x2)]) (st1 := [vI 0, vR x0]) (h1 := h) (P := True ∧ True ∧ True) (by decide +kernel) rfl rfl ⟨trivial, trivial, trivial⟩ ?_
      refine g_callV0 hK 13 31 (d1 := 0) (ci := 3) (i := x0) (vs := [vI 0]) (rest := []) (h1 := (F_Ro_add x0 0 h)) my_yX3_add vw_X3_31 (by decide) (T_Ro_add (o := x0) (p1 := 0) (h := h) (ko := kx0) (hF := rfl)) kx0 rfl rfl (Nat.le_of_ble_eq_true rfl) (by decide +kernel) ?_
      refine g_seg hK [.iinc 2 1] 16 19 (L1 := [(2, vI (wr (x2 + 1))), (0, vR x0), (1, vI x1)]) (st1 := []) (h1 := (F_Ro_add x0 0 h)) (P := True ∧ True) (by decide +kernel) rfl rfl ⟨trivial, trivial⟩ ?_
      refine g_goto hK 19 (-13) 6 (by decide +kernel) (by decide) ?_
      refine hK.2.1 _ _ ([(0, vR x0), (1, vI x1), (2, vI (wr (x2 + 1)))]) _ _ (sub_of [1, 2, 0] rfl) ?_
      exact ih _ _ _ _ hF hE
    · have hF := ite_f hc1 hF
      cases hF
      exact hE
set_option maxHeartbeats 4000000 in
set_option maxRecDepth 100000 in
theorem T_Ro_becomeZeros {o : Nat} {p1 : Int} {h : MH} {h' : MH} (ko : kd o = 5) (hF : F_Ro_becomeZeros o p1 h = some h') : CON 1 yX3_becomeZeros cX3_becomeZeros 3 none [vR o, vI p1] h none h' := by
  refine con_of (own := RX3) (fl := flX3) (by decide +kernel) rfl flok_X3 rfl (Nat.le_of_ble_eq_true rfl) ?_
  intro K hK hR
  show K 0 [(0, vR o), (1, vI p1)] [] h
  unfold F_Ro_becomeZeros at hF
  refine g_seg hK [.aload_n 0] 0 1 (L1 := [(0, vR o), (1, vI p1)]) (st1 := [vR o]) (h1 := h) (P := True ∧ True) (by decide +kernel) rfl rfl ⟨trivial, trivial⟩ ?_
  refine g_callV0 hK 1 25 (d1 := 0) (ci := 3) (i := o) (vs := []) (rest := []) (h1 := (F_Ro_emptyOut o h)) my_yX3_emptyOut vw_X3_25 (by decide) (T_Ro_emptyOut (o := o) (h := h) (ko := ko) (hF := rfl)) ko rfl rfl (Nat.le_of_ble_eq_true rfl) (by decide +kernel) ?_
  refine g_seg hK [.iconst 0, .istore_n 2] 4 6 (L1 := [(2, vI 0), (0, vR o), (1, vI p1)]) (st1 := []) (h1 := (F_Ro_emptyOut o h)) (P := True ∧ True ∧ True) (by decide +kernel) rfl rfl ⟨trivial, trivial, trivial⟩ ?_
  refine hK.2.1 _ _ ([(0, vR o), (1, vI p1), (2, vI 0)]) _ _ (sub_of [1, 2, 0] rfl) ?_
  obtain ⟨x2_1, h2, e3, hF⟩ := ob2_elim hF
  refine LT_Ro_becomeZeros_L6 hK (kx0 := ko) _ _ _ _ _ e3 ?_
  cases hF
  exact hR.2.2.2.2 22 _ _ (by decide +kernel) rfl ⟨rfl, rfl⟩
set_option maxHeartbeats 4000000 in
set_option maxRecDepth 100000 in
theorem T_C_keptFrom {p1 : Int} {p2 : Int} {h : MH} {r : Int} (hF : F_C_keptFrom p1 p2 h = r) : CON 1 yX0_keptFrom cX0_keptFrom 3 (Option.some Jvm.ClassFile.FieldType.int) [vR 49, vI p1, vI p2] h (some (vI r)) h := by
  refine con_of (own := RX0) (fl := flX0) (by decide +kernel) rfl flok_X0 rfl (Nat.le_of_ble_eq_true rfl) ?_
  intro K hK hR
  show K 0 [(0, vR 49), (1, vI p1), (2, vI p2)] [] h
  unfold F_C_keptFrom at hF
  refine g_seg hK [.aload_n 0, .getfield 16, .iload_n 1, .bipush 15, .imul, .iload_n 2, .iadd] 0 10 (L1 := [(0, vR 49), (1, vI p1), (2, vI p2)]) (st1 := [vI (wr ((wr (p1 * 15)) + p2)), vR 50]) (h1 := h) (P := True ∧ kd 49 = 2 ∧ True ∧ True ∧ True ∧ True ∧ True ∧ True) (by decide +kernel) rfl rfl ⟨trivial, rfl, trivial, trivial, trivial, trivial, trivial, trivial⟩ ?_
  refine g_callV1 hK 10 30 (d1 := 0) (ci := 3) (i := 50) (vs := [vI (wr ((wr (p1 * 15)) + p2))]) (rest := []) (h1 := h) (r := vI (F_Ro_at 50 (wr ((wr (p1 * 15)) + p2)) h)) my_yX3_at vw_X0_30 (by decide) (T_Ro_at (o := 50) (p1 := (wr ((wr (p1 * 15)) + p2))) (h := h) (ko := rfl) (hF := rfl)) rfl rfl rfl (Nat.le_of_ble_eq_true rfl) (by decide +kernel) ?_
  cases hF
  exact hR.1 13 _ _ _ (by decide +kernel) rfl ⟨rfl, rfl⟩
set_option maxHeartbeats 4000000 in
set_option maxRecDepth 100000 in
theorem LT_C_compare_L29 {K : KT} (hK : Rules RX0 cX0_compare 6 none flX0 2 K) {x1 : Nat} {x2 : Nat} {x3 : Int} (kx1 : kd x1 = 5) (kx2 : kd x2 = 5) : ∀ (n : Nat) (x4 : Int) (h : MH) (x4' : Int) (h' : MH), F_C_compare_L29 x1 x2 x3 n x4 h = some (x4', h') → K 109 [(0, vR 49), (1, vR x1), (2, vR x2), (3, vI x3), (4, vI x4')] [] h' → K 29 [(0, vR 49), (1, vR x1), (2, vR x2), (3, vI x3), (4, vI x4)] [] h := by
  intro n
  induction n with
  | zero =>
    intro x4 h x4' h' hF
    cases hF
  | succ n ih =>
    intro x4 h x4' h' hF hE
    unfold F_C_compare_L29 at hF
    refine g_seg hK [.iload 4] 29 31 (L1 := [(0, vR 49), (1, vR x1), (2, vR x2), (3, vI x3), (4, vI x4)]) (st1 := [vI x4]) (h1 := h) (P := True ∧ True) (by decide +kernel) rfl rfl ⟨trivial, trivial⟩ ?_
    refine g_ifz hK 31 .lt (78) 109 (t1 := 109) (t2 := 34) (by decide +kernel) (by decide) rfl rfl (fun (hc1 : x4 < 0) => ?_) (fun (hc1 : ¬ (x4 < 0)) => ?_)
    · have hF := ite_t hc1 hF
      cases hF
      exact hE
    · have hF := ite_f hc1 hF
      refine g_seg hK [.aload_n 1, .iload_n 3] 34 36 (L1 := [(0, vR 49), (1, vR x1), (2, vR x2), (3, vI x3), (4, vI x4)]) (st1 := [vI x3, vR x1]) (h1 := h) (P := True ∧ True ∧ True) (by decide +kernel) rfl rfl ⟨trivial, trivial, trivial⟩ ?_
      refine g_callV1 hK 36 30 (d1 := 0) (ci := 3) (i := x1) (vs := [vI x3]) (rest := []) (h1 := h) (r := vI (F_Ro_at x1 x3 h)) my_yX3_at vw_X0_30 (by decide) (T_Ro_at (o := x1) (p1 := x3) (h := h) (ko := kx1) (hF := rfl)) kx1 rfl rfl (Nat.le_of_ble_eq_true rfl) (by decide +kernel) ?_
      refine g_seg hK [.aload_n 2, .iload 4] 39 42 (L1 := [(0, vR 49), (1, vR x1), (2, vR x2), (3, vI x3), (4, vI x4)]) (st1 := [vI x4, vR x2, vI (F_Ro_at x1 x3 h)]) (h1 := h) (P := True ∧ True ∧ True) (by decide +kernel) rfl rfl ⟨trivial, trivial, trivial⟩ ?_
      refine g_callV1 hK 42 30 (d1 := 0) (ci := 3) (i := x2) (vs := [vI x4]) (rest := [vI (F_Ro_at x1 x3 h)]) (h1 := h) (r := vI (F_Ro_at x2 x4 h)) my_yX3_at vw_X0_30 (by decide) (T_Ro_at (o := x2) (p1 := x4) (h := h) (ko := kx2) (hF := rfl)) kx2 rfl rfl (Nat.le_of_ble_eq_true rfl) (by decide +kernel) ?_
      obtain ⟨s2, e5, hF⟩ := jn1_elim hF
      have j3 : K 85 [(0, vR 49), (1, vR x1), (2, vR x2), (3, vI x3), (4, vI x4)] [vI s2] h := by
        refine g_seg hK [.istore 5, .aload_n 0, .getfield 16, .iload_n 3, .bipush 15, .imul, .iload 4, .iadd, .iload 5] 85 100 (L1 := [(5, vI s2), (0, vR 49), (1, vR x1), (2, vR x2), (3, vI x3), (4, vI x4)]) (st1 := [vI s2, vI (wr ((wr (x3 * 15)) + x4)), vR 50]) (h1 := h) (P := True ∧ True ∧ kd 49 = 2 ∧ True ∧ True ∧ True ∧ True ∧ True ∧ True ∧ True) (by decide +kernel) rfl rfl ⟨trivial, trivial, rfl, trivial, trivial, trivial, trivial, trivial, trivial, trivial⟩ ?_
        refine g_callV0 hK 100 43 (d1 := 0) (ci := 3) (i := 50) (vs := [vI (wr ((wr (x3 * 15)) + x4)), vI s2]) (rest := []) (h1 := (F_Ro_change 50 (wr ((wr (x3 * 15)) + x4)) s2 h)) my_yX3_change vw_X0_43 (by decide) (T_Ro_change (o := 50) (p1 := (wr ((wr (x3 * 15)) + x4))) (p2 := s2) (h := h) (ko := rfl) (hF := rfl)) rfl rfl rfl (Nat.le_of_ble_eq_true rfl) (by decide +kernel) ?_
        refine g_seg hK [.iinc 4 (-1)] 103 106 (L1 := [(4, vI (wr (x4 + (-1)))), (5, vI s2), (0, vR 49), (1, vR x1), (2, vR x2), (3, vI x3)]) (st1 := []) (h1 := (F_Ro_change 50 (wr ((wr (x3 * 15)) + x4)) s2 h)) (P := True ∧ True) (by decide +kernel) rfl rfl ⟨trivial, trivial⟩ ?_
        refine g_goto hK 106 (-77) 29 (by decide +kernel) (by decide) ?_
        refine hK.2.1 _ _ ([(0, vR 49), (1, vR x1), (2, vR x2), (3, vI x3), (4, vI (wr (x4 + (-1))))]) _ _ (sub_of [2, 3, 4, 5, 0] rfl) ?_
        exact ih _ _ _ _ hF hE
      clear hF
      have hF := e5
      refine g_icmp hK 45 .ne (19) 64 (t1 := 48) (t2 := 64) (by decide +kernel) (by decide) rfl rfl (fun (hc4 : F_Ro_at x1 x3 h = F_Ro_at x2 x4 h) => ?_) (fun (hc4 : ¬ (F_Ro_at x1 x3 h = F_Ro_at x2 x4 h)) => ?_)
      · have hF := ite_t hc4 hF
        refine g_seg hK [.aload_n 0, .iload_n 3, .iconst 1, .iadd, .iload 4, .iconst 1, .iadd] 48 56 (L1 := [(0, vR 49), (1, vR x1), (2, vR x2), (3, vI x3), (4, vI x4)]) (st1 := [vI (wr (x4 + 1)), vI (wr (x3 + 1)), vR 49]) (h1 := h) (P := True ∧ True ∧ True ∧ True ∧ True ∧ True ∧ True ∧ True) (by decide +kernel) rfl rfl ⟨trivial, trivial, trivial, trivial, trivial, trivial, trivial, trivial⟩ ?_
        refine g_callV1 hK 56 34 (d1 := 1) (ci := 0) (i := 49) (vs := [vI (wr (x3 + 1)), vI (wr (x4 + 1))]) (rest := []) (h1 := h) (r := vI (F_C_keptFrom (wr (x3 + 1)) (wr (x4 + 1)) h)) my_yX0_keptFrom vw_X0_34 (by decide) (T_C_keptFrom (p1 := (wr (x3 + 1))) (p2 := (wr (x4 + 1))) (h := h) (hF := rfl)) rfl rfl rfl (Nat.le_of_ble_eq_true rfl) (by decide +kernel) ?_
        refine g_seg hK [.iconst 1, .iadd] 59 61 (L1 := [(0, vR 49), (1, vR x1), (2, vR x2), (3, vI x3), (4, vI x4)]) (st1 := [vI (wr ((F_C_keptFrom (wr (x3 + 1)) (wr (x4 + 1)) h) + 1))]) (h1 := h) (P := True ∧ True ∧ True) (by decide +kernel) rfl rfl ⟨trivial, trivial, trivial⟩ ?_
        refine g_goto hK 61 (24) 85 (by decide +kernel) (by decide) ?_
        cases hF
        exact j3
      · have hF := ite_f hc4 hF
        refine g_seg hK [.aload_n 0, .iload_n 3, .iconst 1, .iadd, .iload 4] 64 70 (L1 := [(0, vR 49), (1, vR x1), (2, vR x2), (3, vI x3), (4, vI x4)]) (st1 := [vI x4, vI (wr (x3 + 1)), vR 49]) (h1 := h) (P := True ∧ True ∧ True ∧ True ∧ True ∧ True) (by decide +kernel) rfl rfl ⟨trivial, trivial, trivial, trivial, trivial, trivial⟩ ?_
        refine g_callV1 hK 70 34 (d1 := 1) (ci := 0) (i := 49) (vs := [vI (wr (x3 + 1)), vI x4]) (rest := []) (h1 := h) (r := vI (F_C_keptFrom (wr (x3 + 1)) x4 h)) my_yX0_keptFrom vw_X0_34 (by decide) (T_C_keptFrom (p1 := (wr (x3 + 1))) (p2 := x4) (h := h) (hF := rfl)) rfl rfl rfl (Nat.le_of_ble_eq_true rfl) (by decide +kernel) ?_
        refine g_seg hK [.aload_n 0, .iload_n 3, .iload 4, .iconst 1, .iadd] 73 79 (L1 := [(0, vR 49), (1, vR x1), (2, vR x2), (3, vI x3), (4, vI x4)]) (st1 := [vI (wr (x4 + 1)), vI x3, vR 49, vI (F_C_keptFrom (wr (x3 + 1)) x4 h)]) (h1 := h) (P := True ∧ True ∧ True ∧ True ∧ True ∧ True) (by decide +kernel) rfl rfl ⟨trivial, trivial, trivial, trivial, trivial, trivial⟩ ?_
        refine g_callV1 hK 79 34 (d1 := 1) (ci := 0) (i := 49) (vs := [vI x3, vI (wr (x4 + 1))]) (rest := [vI (F_C_keptFrom (wr (x3 + 1)) x4 h)]) (h1 := h) (r := vI (F_C_keptFrom x3 (wr (x4 + 1)) h)) my_yX0_keptFrom vw_X0_34 (by decide) (T_C_keptFrom (p1 := x3) (p2 := (wr (x4 + 1))) (h := h) (hF := rfl)) rfl rfl rfl (Nat.le_of_ble_eq_true rfl) (by decide +kernel) ?_
        refine g_mmax hK 82 38 (by decide) mw_X0_38 (Nat.le_of_ble_eq_true rfl) (by decide +kernel) ?_
        cases hF
        exact j3
set_option maxHeartbeats 4000000 in
set_option maxRecDepth 100000 in
theorem LT_C_compare_L17 {K : KT} (hK : Rules RX0 cX0_compare 6 none flX0 2 K) {x1 : Nat} {x2 : Nat} (kx1 : kd x1 = 5) (kx2 : kd x2 = 5) : ∀ (n : Nat) (x3 : Int) (h : MH) (x3' : Int) (h' : MH), F_C_compare_L17 x1 x2 n x3 h = some (x3', h') → K 115 [(0, vR 49), (1, vR x1), (2, vR x2), (3, vI x3')] [] h' → K 17 [(0, vR 49), (1, vR x1), (2, vR x2), (3, vI x3)] [] h := by
  intro n
  induction n with
  | zero =>
    intro x3 h x3' h' hF
    cases hF
  | succ n ih =>
    intro x3 h x3' h' hF hE
    unfold F_C_compare_L17 at hF
    refine g_seg hK [.iload_n 3] 17 18 (L1 := [(0, vR 49), (1, vR x1), (2, vR x2), (3, vI x3)]) (st1 := [vI x3]) (h1 := h) (P := True ∧ True) (by decide +kernel) rfl rfl ⟨trivial, trivial⟩ ?_
    refine g_ifz hK 18 .lt (97) 115 (t1 := 115) (t2 := 21) (by decide +kernel) (by decide) rfl rfl (fun (hc1 : x3 < 0) => ?_) (fun (hc1 : ¬ (x3 < 0)) => ?_)
    · have hF := ite_t hc1 hF
      cases hF
      exact hE
    · have hF := ite_f hc1 hF
      refine g_seg hK [.aload_n 2] 21 22 (L1 := [(0, vR 49), (1, vR x1), (2, vR x2), (3, vI x3)]) (st1 := [vR x2]) (h1 := h) (P := True ∧ True) (by decide +kernel) rfl rfl ⟨trivial, trivial⟩ ?_
      refine g_callV1 hK 22 26 (d1 := 0) (ci := 3) (i := x2) (vs := []) (rest := []) (h1 := h) (r := vI (F_Ro_size x2 h)) my_yX3_size vw_X0_26 (by decide) (T_Ro_size (o := x2) (h := h) (ko := kx2) (hF := rfl)) kx2 rfl rfl (Nat.le_of_ble_eq_true rfl) (by decide +kernel) ?_
      refine g_seg hK [.iconst 1, .isub, .istore 4] 25 29 (L1 := [(4, vI (wr ((F_Ro_size x2 h) - 1))), (0, vR 49), (1, vR x1), (2, vR x2), (3, vI x3)]) (st1 := []) (h1 := h) (P := True ∧ True ∧ True ∧ True) (by decide +kernel) rfl rfl ⟨trivial, trivial, trivial, trivial⟩ ?_
      refine hK.2.1 _ _ ([(0, vR 49), (1, vR x1), (2, vR x2), (3, vI x3), (4, vI (wr ((F_Ro_size x2 h) - 1)))]) _ _ (sub_of [1, 2, 3, 4, 0] rfl) ?_
      obtain ⟨x4_2, h3, e4, hF⟩ := ob2_elim hF
      refine LT_C_compare_L29 hK (kx1 := kx1) (kx2 := kx2) _ _ _ _ _ e4 ?_
      refine g_seg hK [.iinc 3 (-1)] 109 112 (L1 := [(3, vI (wr (x3 + (-1)))), (0, vR 49), (1, vR x1), (2, vR x2), (4, vI x4_2)]) (st1 := []) (h1 := h3) (P := True ∧ True) (by decide +kernel) rfl rfl ⟨trivial, trivial⟩ ?_
      refine g_goto hK 112 (-95) 17 (by decide +kernel) (by decide) ?_
      refine hK.2.1 _ _ ([(0, vR 49), (1, vR x1), (2, vR x2), (3, vI (wr (x3 + (-1))))]) _ _ (sub_of [1, 2, 3, 0] rfl) ?_
      exact ih _ _ _ _ hF hE
set_option maxHeartbeats 4000000 in
set_option maxRecDepth 100000 in
theorem T_C_compare {p1 : Nat} {p2 : Nat} {h : MH} {h' : MH} (kp1 : kd p1 = 5) (kp2 : kd p2 = 5) (hF : F_C_compare p1 p2 h = some h') : CON 2 yX0_compare cX0_compare 6 none [vR 49, vR p1, vR p2] h none h' := by
  refine con_of (own := RX0) (fl := flX0) (by decide +kernel) rfl flok_X0 rfl (Nat.le_of_ble_eq_true rfl) ?_
  intro K hK hR
  show K 0 [(0, vR 49), (1, vR p1), (2, vR p2)] [] h
  unfold F_C_compare at hF
  refine g_seg hK [.aload_n 0, .getfield 16, .sipush 225] 0 7 (L1 := [(0, vR 49), (1, vR p1), (2, vR p2)]) (st1 := [vI 225, vR 50]) (h1 := h) (P := True ∧ kd 49 = 2 ∧ True ∧ True) (by decide +kernel) rfl rfl ⟨trivial, rfl, trivial, trivial⟩ ?_
  obtain ⟨h1, e2, hF⟩ := ob1_elim hF
  refine g_callV0 hK 7 23 (d1 := 1) (ci := 3) (i := 50) (vs := [vI 225]) (rest := []) (h1 := h1) my_yX3_becomeZeros vw_X0_23 (by decide) (T_Ro_becomeZeros (o := 50) (p1 := 225) (h := h) (ko := rfl) (hF := e2)) rfl rfl rfl (Nat.le_of_ble_eq_true rfl) (by decide +kernel) ?_
  refine g_seg hK [.aload_n 1] 10 11 (L1 := [(0, vR 49), (1, vR p1), (2, vR p2)]) (st1 := [vR p1]) (h1 := h1) (P := True ∧ True) (by decide +kernel) rfl rfl ⟨trivial, trivial⟩ ?_
  refine g_callV1 hK 11 26 (d1 := 0) (ci := 3) (i := p1) (vs := []) (rest := []) (h1 := h1) (r := vI (F_Ro_size p1 h1)) my_yX3_size vw_X0_26 (by decide) (T_Ro_size (o := p1) (h := h1) (ko := kp1) (hF := rfl)) kp1 rfl rfl (Nat.le_of_ble_eq_true rfl) (by decide +kernel) ?_
  refine g_seg hK [.iconst 1, .isub, .istore_n 3] 14 17 (L1 := [(3, vI (wr ((F_Ro_size p1 h1) - 1))), (0, vR 49), (1, vR p1), (2, vR p2)]) (st1 := []) (h1 := h1) (P := True ∧ True ∧ True ∧ True) (by decide +kernel) rfl rfl ⟨trivial, trivial, trivial, trivial⟩ ?_
  refine hK.2.1 _ _ ([(0, vR 49), (1, vR p1), (2, vR p2), (3, vI (wr ((F_Ro_size p1 h1) - 1)))]) _ _ (sub_of [1, 2, 3, 0] rfl) ?_
  obtain ⟨x3_3, h4, e5, hF⟩ := ob2_elim hF
  refine LT_C_compare_L17 hK (kx1 := kp1) (kx2 := kp2) _ _ _ _ _ e5 ?_
  cases hF
  exact hR.2.2.2.2 115 _ _ (by decide +kernel) rfl ⟨rfl, rfl⟩
set_option maxHeartbeats 4000000 in
set_option maxRecDepth 100000 in
theorem T_C_keptOf {p1 : Nat} {p2 : Nat} {h : MH} {r : Int} {h' : MH} (kp1 : kd p1 = 5) (kp2 : kd p2 = 5) (hF : F_C_keptOf p1 p2 h = some (r, h')) : CON 3 yX0_keptOf cX0_keptOf 3 (Option.some Jvm.ClassFile.FieldType.int) [vR 49, vR p1, vR p2] h (some (vI r)) h' := by
  refine con_of (own := RX0) (fl := flX0) (by decide +kernel) rfl flok_X0 rfl (Nat.le_of_ble_eq_true rfl) ?_
  intro K hK hR
  show K 0 [(0, vR 49), (1, vR p1), (2, vR p2)] [] h
  unfold F_C_keptOf at hF
  refine g_seg hK [.aload_n 0, .aload_n 1, .aload_n 2] 0 3 (L1 := [(0, vR 49), (1, vR p1), (2, vR p2)]) (st1 := [vR p2, vR p1, vR 49]) (h1 := h) (P := True ∧ True ∧ True ∧ True) (by decide +kernel) rfl rfl ⟨trivial, trivial, trivial, trivial⟩ ?_
  obtain ⟨h1, e2, hF⟩ := ob1_elim hF
  refine g_callV0 hK 3 49 (d1 := 2) (ci := 0) (i := 49) (vs := [vR p1, vR p2]) (rest := []) (h1 := h1) my_yX0_compare vw_X0_49 (by decide) (T_C_compare (p1 := p1) (p2 := p2) (h := h) (kp1 := kp1) (kp2 := kp2) (hF := e2)) rfl rfl rfl (Nat.le_of_ble_eq_true rfl) (by decide +kernel) ?_
  refine g_seg hK [.aload_n 0, .iconst 0, .iconst 0] 6 9 (L1 := [(0, vR 49), (1, vR p1), (2, vR p2)]) (st1 := [vI 0, vI 0, vR 49]) (h1 := h1) (P := True ∧ True ∧ True ∧ True) (by decide +kernel) rfl rfl ⟨trivial, trivial, trivial, trivial⟩ ?_
  refine g_callV1 hK 9 34 (d1 := 1) (ci := 0) (i := 49) (vs := [vI 0, vI 0]) (rest := []) (h1 := h1) (r := vI (F_C_keptFrom 0 0 h1)) my_yX0_keptFrom vw_X0_34 (by decide) (T_C_keptFrom (p1 := 0) (p2 := 0) (h := h1) (hF := rfl)) rfl rfl rfl (Nat.le_of_ble_eq_true rfl) (by decide +kernel) ?_
  cases hF
  exact hR.1 12 _ _ _ (by decide +kernel) rfl ⟨rfl, rfl⟩
set_option maxHeartbeats 4000000 in
set_option maxRecDepth 100000 in
theorem T_C_apart {p1 : Nat} {p2 : Nat} {h : MH} {r : Int} {h' : MH} (kp1 : kd p1 = 5) (kp2 : kd p2 = 5) (hF : F_C_apart p1 p2 h = some (r, h')) : CON 4 yX0_apart cX0_apart 3 (Option.some Jvm.ClassFile.FieldType.int) [vR 49, vR p1, vR p2] h (some (vI r)) h' := by
  refine con_of (own := RX0) (fl := flX0) (by decide +kernel) rfl flok_X0 rfl (Nat.le_of_ble_eq_true rfl) ?_
  intro K hK hR
  show K 0 [(0, vR 49), (1, vR p1), (2, vR p2)] [] h
  unfold F_C_apart at hF
  refine g_seg hK [.aload_n 1] 0 1 (L1 := [(0, vR 49), (1, vR p1), (2, vR p2)]) (st1 := [vR p1]) (h1 := h) (P := True ∧ True) (by decide +kernel) rfl rfl ⟨trivial, trivial⟩ ?_
  refine g_callV1 hK 1 26 (d1 := 0) (ci := 3) (i := p1) (vs := []) (rest := []) (h1 := h) (r := vI (F_Ro_size p1 h)) my_yX3_size vw_X0_26 (by decide) (T_Ro_size (o := p1) (h := h) (ko := kp1) (hF := rfl)) kp1 rfl rfl (Nat.le_of_ble_eq_true rfl) (by decide +kernel) ?_
  refine g_seg hK [.aload_n 2] 4 5 (L1 := [(0, vR 49), (1, vR p1), (2, vR p2)]) (st1 := [vR p2, vI (F_Ro_size p1 h)]) (h1 := h) (P := True ∧ True) (by decide +kernel) rfl rfl ⟨trivial, trivial⟩ ?_
  refine g_callV1 hK 5 26 (d1 := 0) (ci := 3) (i := p2) (vs := []) (rest := [vI (F_Ro_size p1 h)]) (h1 := h) (r := vI (F_Ro_size p2 h)) my_yX3_size vw_X0_26 (by decide) (T_Ro_size (o := p2) (h := h) (ko := kp2) (hF := rfl)) kp2 rfl rfl (Nat.le_of_ble_eq_true rfl) (by decide +kernel) ?_
  refine g_seg hK [.iadd, .iconst 2, .aload_n 0, .aload_n 1, .aload_n 2] 8 13 (L1 := [(0, vR 49), (1, vR p1), (2, vR p2)]) (st1 := [vR p2, vR p1, vR 49, vI 2, vI (wr ((F_Ro_size p1 h) + (F_Ro_size p2 h)))]) (h1 := h) (P := True ∧ True ∧ True ∧ True ∧ True ∧ True) (by decide +kernel) rfl rfl ⟨trivial, trivial, trivial, trivial, trivial, trivial⟩ ?_
  obtain ⟨r1, h2, e3, hF⟩ := ob2_elim hF
  refine g_callV1 hK 13 53 (d1 := 3) (ci := 0) (i := 49) (vs := [vR p1, vR p2]) (rest := [vI 2, vI (wr ((F_Ro_size p1 h) + (F_Ro_size p2 h)))]) (h1 := h2) (r := vI r1) my_yX0_keptOf vw_X0_53 (by decide) (T_C_keptOf (p1 := p1) (p2 := p2) (h := h) (kp1 := kp1) (kp2 := kp2) (hF := e3)) rfl rfl rfl (Nat.le_of_ble_eq_true rfl) (by decide +kernel) ?_
  refine g_seg hK [.imul, .isub] 16 18 (L1 := [(0, vR 49), (1, vR p1), (2, vR p2)]) (st1 := [vI (wr ((wr ((F_Ro_size p1 h) + (F_Ro_size p2 h))) - (wr (2 * r1))))]) (h1 := h2) (P := True ∧ True ∧ True) (by decide +kernel) rfl rfl ⟨trivial, trivial, trivial⟩ ?_
  cases hF
  exact hR.1 18 _ _ _ (by decide +kernel) rfl ⟨rfl, rfl⟩
set_option maxHeartbeats 4000000 in
set_option maxRecDepth 100000 in
theorem T_X_distanceNow {h : MH} {r : Int} {h' : MH} (hF : F_X_distanceNow h = some (r, h')) : CON 5 yX6_distanceNow cX6_distanceNow 1 (Option.some Jvm.ClassFile.FieldType.int) [vR 0] h (some (vI r)) h' := by
  refine con_of (own := RX6) (fl := flX6) (by decide +kernel) rfl flok_X6 rfl (Nat.le_of_ble_eq_true rfl) ?_
  intro K hK hR
  show K 0 [(0, vR 0)] [] h
  unfold F_X_distanceNow at hF
  refine g_seg hK [.aload_n 0, .getfield 45, .aload_n 0, .getfield 21, .iconst 0] 0 9 (L1 := [(0, vR 0)]) (st1 := [vI 0, vR 3, vR 49]) (h1 := h) (P := True ∧ kd 0 = 8 ∧ True ∧ kd 0 = 8 ∧ True ∧ True) (by decide +kernel) rfl rfl ⟨trivial, rfl, trivial, rfl, trivial, trivial⟩ ?_
  refine g_callV1 hK 9 88 (d1 := 0) (ci := 4) (i := 3) (vs := [vI 0]) (rest := [vR 49]) (h1 := h) (r := vR (F_St_text 3 0)) my_yX4_text vw_X6_88 (by decide) (T_St_text (o := 3) (p1 := 0) (h := h) (ks := rfl) (hF := rfl)) rfl rfl rfl (Nat.le_of_ble_eq_true rfl) (by decide +kernel) ?_
  refine g_seg hK [.aload_n 0, .getfield 21, .iconst 1] 12 17 (L1 := [(0, vR 0)]) (st1 := [vI 1, vR 3, vR (F_St_text 3 0), vR 49]) (h1 := h) (P := True ∧ kd 0 = 8 ∧ True ∧ True) (by decide +kernel) rfl rfl ⟨trivial, rfl, trivial, trivial⟩ ?_
  refine g_callV1 hK 17 88 (d1 := 0) (ci := 4) (i := 3) (vs := [vI 1]) (rest := [vR (F_St_text 3 0), vR 49]) (h1 := h) (r := vR (F_St_text 3 1)) my_yX4_text vw_X6_88 (by decide) (T_St_text (o := 3) (p1 := 1) (h := h) (ks := rfl) (hF := rfl)) rfl rfl rfl (Nat.le_of_ble_eq_true rfl) (by decide +kernel) ?_
  obtain ⟨r1, h2, e3, hF⟩ := ob2_elim hF
  refine g_callV1 hK 20 213 (d1 := 4) (ci := 0) (i := 49) (vs := [vR (F_St_text 3 0), vR (F_St_text 3 1)]) (rest := []) (h1 := h2) (r := vI r1) my_yX0_apart vw_X6_213 (by decide) (T_C_apart (p1 := (F_St_text 3 0)) (p2 := (F_St_text 3 1)) (h := h) (kp1 := (kd_St_text rfl)) (kp2 := (kd_St_text rfl)) (hF := e3)) rfl rfl rfl (Nat.le_of_ble_eq_true rfl) (by decide +kernel) ?_
  cases hF
  exact hR.1 23 _ _ _ (by decide +kernel) rfl ⟨rfl, rfl⟩
set_option maxHeartbeats 4000000 in
set_option maxRecDepth 100000 in
theorem T_X_swap {p1 : Int} {p2 : Int} {h : MH} {r : Int} {h' : MH} (hF : F_X_swap p1 p2 h = some (r, h')) : CON 6 yX6_swap cX6_swap 3 (Option.some Jvm.ClassFile.FieldType.int) [vR 0, vI p1, vI p2] h (some (vI r)) h' := by
  refine con_of (own := RX6) (fl := flX6) (by decide +kernel) rfl flok_X6 rfl (Nat.le_of_ble_eq_true rfl) ?_
  intro K hK hR
  show K 0 [(0, vR 0), (1, vI p1), (2, vI p2)] [] h
  unfold F_X_swap at hF
  refine g_seg hK [.iload_n 1] 0 1 (L1 := [(0, vR 0), (1, vI p1), (2, vI p2)]) (st1 := [vI p1]) (h1 := h) (P := True ∧ True) (by decide +kernel) rfl rfl ⟨trivial, trivial⟩ ?_
  refine g_callS1 hK 1 77 (d1 := 0) (vs := [vI p1]) (rest := []) (h1 := h) (r := vI (F_X_isText p1)) my_yX6_isText sw_X6_77 (by decide) (T_X_isText (p1 := p1) (h := h) (hF := rfl)) rfl (Nat.le_of_ble_eq_true rfl) (by decide +kernel) ?_
  refine g_ifz hK 4 .eq (15) 19 (t1 := 19) (t2 := 7) (by decide +kernel) (by decide) rfl rfl (fun (hc1 : F_X_isText p1 = 0) => ?_) (fun (hc1 : ¬ (F_X_isText p1 = 0)) => ?_)
  · have hF := ite_t hc1 hF
    refine g_seg hK [.iconst (-1)] 19 20 (L1 := [(0, vR 0), (1, vI p1), (2, vI p2)]) (st1 := [vI (-1)]) (h1 := h) (P := True ∧ True) (by decide +kernel) rfl rfl ⟨trivial, trivial⟩ ?_
    cases hF
    exact hR.1 20 _ _ _ (by decide +kernel) rfl ⟨rfl, rfl⟩
  · have hF := ite_f hc1 hF
    refine g_seg hK [.iload_n 2] 7 8 (L1 := [(0, vR 0), (1, vI p1), (2, vI p2)]) (st1 := [vI p2]) (h1 := h) (P := True ∧ True) (by decide +kernel) rfl rfl ⟨trivial, trivial⟩ ?_
    refine g_callS1 hK 8 77 (d1 := 0) (vs := [vI p2]) (rest := []) (h1 := h) (r := vI (F_X_isText p2)) my_yX6_isText sw_X6_77 (by decide) (T_X_isText (p1 := p2) (h := h) (hF := rfl)) rfl (Nat.le_of_ble_eq_true rfl) (by decide +kernel) ?_
    refine g_ifz hK 11 .eq (8) 19 (t1 := 19) (t2 := 14) (by decide +kernel) (by decide) rfl rfl (fun (hc2 : F_X_isText p2 = 0) => ?_) (fun (hc2 : ¬ (F_X_isText p2 = 0)) => ?_)
    · have hF := ite_t hc2 hF
      refine g_seg hK [.iconst (-1)] 19 20 (L1 := [(0, vR 0), (1, vI p1), (2, vI p2)]) (st1 := [vI (-1)]) (h1 := h) (P := True ∧ True) (by decide +kernel) rfl rfl ⟨trivial, trivial⟩ ?_
      cases hF
      exact hR.1 20 _ _ _ (by decide +kernel) rfl ⟨rfl, rfl⟩
    · have hF := ite_f hc2 hF
      refine g_seg hK [.iload_n 1, .iload_n 2] 14 16 (L1 := [(0, vR 0), (1, vI p1), (2, vI p2)]) (st1 := [vI p2, vI p1]) (h1 := h) (P := True ∧ True ∧ True) (by decide +kernel) rfl rfl ⟨trivial, trivial, trivial⟩ ?_
      refine g_icmp hK 16 .ne (5) 21 (t1 := 19) (t2 := 21) (by decide +kernel) (by decide) rfl rfl (fun (hc3 : p1 = p2) => ?_) (fun (hc3 : ¬ (p1 = p2)) => ?_)
      · have hF := ite_t hc3 hF
        refine g_seg hK [.iconst (-1)] 19 20 (L1 := [(0, vR 0), (1, vI p1), (2, vI p2)]) (st1 := [vI (-1)]) (h1 := h) (P := True ∧ True) (by decide +kernel) rfl rfl ⟨trivial, trivial⟩ ?_
        cases hF
        exact hR.1 20 _ _ _ (by decide +kernel) rfl ⟨rfl, rfl⟩
      · have hF := ite_f hc3 hF
        refine g_seg hK [.aload_n 0, .getfield 35, .aload_n 0, .getfield 21] 21 29 (L1 := [(0, vR 0), (1, vI p1), (2, vI p2)]) (st1 := [vR 3, vR 17]) (h1 := h) (P := True ∧ kd 0 = 8 ∧ True ∧ kd 0 = 8 ∧ True) (by decide +kernel) rfl rfl ⟨trivial, rfl, trivial, rfl, trivial⟩ ?_
        obtain ⟨h4, e5, hF⟩ := ob1_elim hF
        refine g_callV0 hK 29 84 (d1 := 5) (ci := 1) (i := 17) (vs := [vR 3]) (rest := []) (h1 := h4) my_yX1_record vw_X6_84 (by decide) (T_Hi_record (p1 := 3) (h := h) (kp1 := rfl) (hF := e5)) rfl rfl rfl (Nat.le_of_ble_eq_true rfl) (by decide +kernel) ?_
        refine g_seg hK [.aload_n 0, .getfield 39, .aload_n 0, .getfield 21, .iload_n 1] 32 41 (L1 := [(0, vR 0), (1, vI p1), (2, vI p2)]) (st1 := [vI p1, vR 3, vR 47]) (h1 := h4) (P := True ∧ kd 0 = 8 ∧ True ∧ kd 0 = 8 ∧ True ∧ True) (by decide +kernel) rfl rfl ⟨trivial, rfl, trivial, rfl, trivial, trivial⟩ ?_
        refine g_callV1 hK 41 88 (d1 := 0) (ci := 4) (i := 3) (vs := [vI p1]) (rest := [vR 47]) (h1 := h4) (r := vR (F_St_text 3 p1)) my_yX4_text vw_X6_88 (by decide) (T_St_text (o := 3) (p1 := p1) (h := h4) (ks := rfl) (hF := rfl)) rfl rfl rfl (Nat.le_of_ble_eq_true rfl) (by decide +kernel) ?_
        obtain ⟨h6, e7, hF⟩ := ob1_elim hF
        refine g_callV0 hK 44 105 (d1 := 1) (ci := 3) (i := 47) (vs := [vR (F_St_text 3 p1)]) (rest := []) (h1 := h6) my_yX3_become vw_X6_105 (by decide) (T_Ro_become (o := 47) (p1 := (F_St_text 3 p1)) (h := h4) (ko := rfl) (kp1 := (kd_St_text rfl)) (hF := e7)) rfl rfl rfl (Nat.le_of_ble_eq_true rfl) (by decide +kernel) ?_
        refine g_seg hK [.aload_n 0, .getfield 21, .iload_n 1] 47 52 (L1 := [(0, vR 0), (1, vI p1), (2, vI p2)]) (st1 := [vI p1, vR 3]) (h1 := h6) (P := True ∧ kd 0 = 8 ∧ True ∧ True) (by decide +kernel) rfl rfl ⟨trivial, rfl, trivial, trivial⟩ ?_
        refine g_callV1 hK 52 88 (d1 := 0) (ci := 4) (i := 3) (vs := [vI p1]) (rest := []) (h1 := h6) (r := vR (F_St_text 3 p1)) my_yX4_text vw_X6_88 (by decide) (T_St_text (o := 3) (p1 := p1) (h := h6) (ks := rfl) (hF := rfl)) rfl rfl rfl (Nat.le_of_ble_eq_true rfl) (by decide +kernel) ?_
        refine g_seg hK [.aload_n 0, .getfield 21, .iload_n 2] 55 60 (L1 := [(0, vR 0), (1, vI p1), (2, vI p2)]) (st1 := [vI p2, vR 3, vR (F_St_text 3 p1)]) (h1 := h6) (P := True ∧ kd 0 = 8 ∧ True ∧ True) (by decide +kernel) rfl rfl ⟨trivial, rfl, trivial, trivial⟩ ?_
        refine g_callV1 hK 60 88 (d1 := 0) (ci := 4) (i := 3) (vs := [vI p2]) (rest := [vR (F_St_text 3 p1)]) (h1 := h6) (r := vR (F_St_text 3 p2)) my_yX4_text vw_X6_88 (by decide) (T_St_text (o := 3) (p1 := p2) (h := h6) (ks := rfl) (hF := rfl)) rfl rfl rfl (Nat.le_of_ble_eq_true rfl) (by decide +kernel) ?_
        obtain ⟨h8, e9, hF⟩ := ob1_elim hF
        refine g_callV0 hK 63 105 (d1 := 1) (ci := 3) (i := F_St_text 3 p1) (vs := [vR (F_St_text 3 p2)]) (rest := []) (h1 := h8) my_yX3_become vw_X6_105 (by decide) (T_Ro_become (o := (F_St_text 3 p1)) (p1 := (F_St_text 3 p2)) (h := h6) (ko := (kd_St_text rfl)) (kp1 := (kd_St_text rfl)) (hF := e9)) (kd_St_text rfl) rfl rfl (Nat.le_of_ble_eq_true rfl) (by decide +kernel) ?_
        refine g_seg hK [.aload_n 0, .getfield 21, .iload_n 2] 66 71 (L1 := [(0, vR 0), (1, vI p1), (2, vI p2)]) (st1 := [vI p2, vR 3]) (h1 := h8) (P := True ∧ kd 0 = 8 ∧ True ∧ True) (by decide +kernel) rfl rfl ⟨trivial, rfl, trivial, trivial⟩ ?_
        refine g_callV1 hK 71 88 (d1 := 0) (ci := 4) (i := 3) (vs := [vI p2]) (rest := []) (h1 := h8) (r := vR (F_St_text 3 p2)) my_yX4_text vw_X6_88 (by decide) (T_St_text (o := 3) (p1 := p2) (h := h8) (ks := rfl) (hF := rfl)) rfl rfl rfl (Nat.le_of_ble_eq_true rfl) (by decide +kernel) ?_
        refine g_seg hK [.aload_n 0, .getfield 39] 74 78 (L1 := [(0, vR 0), (1, vI p1), (2, vI p2)]) (st1 := [vR 47, vR (F_St_text 3 p2)]) (h1 := h8) (P := True ∧ kd 0 = 8 ∧ True) (by decide +kernel) rfl rfl ⟨trivial, rfl, trivial⟩ ?_
        obtain ⟨h10, e11, hF⟩ := ob1_elim hF
        refine g_callV0 hK 78 105 (d1 := 1) (ci := 3) (i := F_St_text 3 p2) (vs := [vR 47]) (rest := []) (h1 := h10) my_yX3_become vw_X6_105 (by decide) (T_Ro_become (o := (F_St_text 3 p2)) (p1 := 47) (h := h8) (ko := (kd_St_text rfl)) (kp1 := rfl) (hF := e11)) (kd_St_text rfl) rfl rfl (Nat.le_of_ble_eq_true rfl) (by decide +kernel) ?_
        refine g_seg hK [.aload_n 0] 81 82 (L1 := [(0, vR 0), (1, vI p1), (2, vI p2)]) (st1 := [vR 0]) (h1 := h10) (P := True ∧ True) (by decide +kernel) rfl rfl ⟨trivial, trivial⟩ ?_
        obtain ⟨r12, h13, e14, hF⟩ := ob2_elim hF
        refine g_callV1 hK 82 109 (d1 := 5) (ci := 6) (i := 0) (vs := []) (rest := []) (h1 := h13) (r := vI r12) my_yX6_distanceNow vw_X6_109 (by decide) (T_X_distanceNow (h := h10) (hF := e14)) rfl rfl rfl (Nat.le_of_ble_eq_true rfl) (by decide +kernel) ?_
        cases hF
        exact hR.1 85 _ _ _ (by decide +kernel) rfl ⟨rfl, rfl⟩
end

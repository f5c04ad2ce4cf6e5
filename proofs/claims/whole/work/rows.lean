section
-- ===== PART A: goes FIRST, ahead of the names: the tables' words, and 'selects' of the private methods out of them =====
/-- a private method of a class that the tables say can be made, by its rows of tables_1 -/
def lw_okq (q : MethodName × Nat) : Prop := (q.1.cls ≠ "java/lang/invoke/MethodHandle" ∧ q.1.cls ≠ "java/lang/invoke/VarHandle") ∧ Cond.instantiable q.1.cls q.2 ∈ tables_1 ∧ Cond.privateMethod q.1 ∈ tables_1 ∧ Cond.instanceMethod q.1 ∈ tables_1
theorem lw_p0 : lw_okq (⟨"GridQuarrels", "found", "(I)I"⟩, 8) := ⟨⟨by decide +kernel, by decide +kernel⟩, List.mem_of_getElem? (i := 13) (by decide +kernel), List.mem_of_getElem? (i := 241) (by decide +kernel), List.mem_of_getElem? (i := 242) (by decide +kernel)⟩
theorem lw_p1 : lw_okq (⟨"GridQuarrels", "fine", "(I)I"⟩, 8) := ⟨⟨by decide +kernel, by decide +kernel⟩, List.mem_of_getElem? (i := 13) (by decide +kernel), List.mem_of_getElem? (i := 250) (by decide +kernel), List.mem_of_getElem? (i := 251) (by decide +kernel)⟩
theorem lw_p2 : lw_okq (⟨"GridQuarrels$Rows", "holds", "(III)Z"⟩, 3) := ⟨⟨by decide +kernel, by decide +kernel⟩, List.mem_of_getElem? (i := 21) (by decide +kernel), List.mem_of_getElem? (i := 266) (by decide +kernel), List.mem_of_getElem? (i := 267) (by decide +kernel)⟩
theorem lw_p3 : lw_okq (⟨"GridQuarrels$Reader", "readLaw", "()V"⟩, 6) := ⟨⟨by decide +kernel, by decide +kernel⟩, List.mem_of_getElem? (i := 38) (by decide +kernel), List.mem_of_getElem? (i := 327) (by decide +kernel), List.mem_of_getElem? (i := 328) (by decide +kernel)⟩
theorem lw_p4 : lw_okq (⟨"GridQuarrels$Reader", "expect", "(I)V"⟩, 6) := ⟨⟨by decide +kernel, by decide +kernel⟩, List.mem_of_getElem? (i := 38) (by decide +kernel), List.mem_of_getElem? (i := 331) (by decide +kernel), List.mem_of_getElem? (i := 332) (by decide +kernel)⟩
theorem lw_p5 : lw_okq (⟨"GridQuarrels$Reader", "next", "()I"⟩, 6) := ⟨⟨by decide +kernel, by decide +kernel⟩, List.mem_of_getElem? (i := 38) (by decide +kernel), List.mem_of_getElem? (i := 335) (by decide +kernel), List.mem_of_getElem? (i := 336) (by decide +kernel)⟩
theorem lw_p6 : lw_okq (⟨"GridQuarrels$Reader", "byteAt", "(I)I"⟩, 6) := ⟨⟨by decide +kernel, by decide +kernel⟩, List.mem_of_getElem? (i := 38) (by decide +kernel), List.mem_of_getElem? (i := 339) (by decide +kernel), List.mem_of_getElem? (i := 340) (by decide +kernel)⟩
theorem lw_p7 : lw_okq (⟨"GridQuarrels$Reader", "fail", "(I)V"⟩, 6) := ⟨⟨by decide +kernel, by decide +kernel⟩, List.mem_of_getElem? (i := 38) (by decide +kernel), List.mem_of_getElem? (i := 343) (by decide +kernel), List.mem_of_getElem? (i := 344) (by decide +kernel)⟩
theorem lw_p8 : lw_okq (⟨"GridQuarrels$Reader", "number", "(III)I"⟩, 6) := ⟨⟨by decide +kernel, by decide +kernel⟩, List.mem_of_getElem? (i := 38) (by decide +kernel), List.mem_of_getElem? (i := 348) (by decide +kernel), List.mem_of_getElem? (i := 349) (by decide +kernel)⟩
theorem lw_p9 : lw_okq (⟨"GridQuarrels$Reader", "figuresHere", "()I"⟩, 6) := ⟨⟨by decide +kernel, by decide +kernel⟩, List.mem_of_getElem? (i := 38) (by decide +kernel), List.mem_of_getElem? (i := 352) (by decide +kernel), List.mem_of_getElem? (i := 353) (by decide +kernel)⟩
theorem lw_p10 : lw_okq (⟨"GridQuarrels$Reader", "readRoads", "()V"⟩, 6) := ⟨⟨by decide +kernel, by decide +kernel⟩, List.mem_of_getElem? (i := 38) (by decide +kernel), List.mem_of_getElem? (i := 361) (by decide +kernel), List.mem_of_getElem? (i := 362) (by decide +kernel)⟩
theorem lw_p11 : lw_okq (⟨"GridQuarrels$Reader", "readRoad", "()V"⟩, 6) := ⟨⟨by decide +kernel, by decide +kernel⟩, List.mem_of_getElem? (i := 38) (by decide +kernel), List.mem_of_getElem? (i := 365) (by decide +kernel), List.mem_of_getElem? (i := 366) (by decide +kernel)⟩
theorem lw_p12 : lw_okq (⟨"GridQuarrels$Reader", "readQuarrels", "()V"⟩, 6) := ⟨⟨by decide +kernel, by decide +kernel⟩, List.mem_of_getElem? (i := 38) (by decide +kernel), List.mem_of_getElem? (i := 373) (by decide +kernel), List.mem_of_getElem? (i := 374) (by decide +kernel)⟩
theorem lw_p13 : lw_okq (⟨"GridQuarrels$Reader", "readQuarrel", "()V"⟩, 6) := ⟨⟨by decide +kernel, by decide +kernel⟩, List.mem_of_getElem? (i := 38) (by decide +kernel), List.mem_of_getElem? (i := 377) (by decide +kernel), List.mem_of_getElem? (i := 378) (by decide +kernel)⟩
theorem lw_p14 : lw_okq (⟨"GridQuarrels$Reader", "sort", "()I"⟩, 6) := ⟨⟨by decide +kernel, by decide +kernel⟩, List.mem_of_getElem? (i := 38) (by decide +kernel), List.mem_of_getElem? (i := 384) (by decide +kernel), List.mem_of_getElem? (i := 385) (by decide +kernel)⟩
theorem lw_p15 : lw_okq (⟨"GridQuarrels$County", "walk", "(II)V"⟩, 15) := ⟨⟨by decide +kernel, by decide +kernel⟩, List.mem_of_getElem? (i := 44) (by decide +kernel), List.mem_of_getElem? (i := 467) (by decide +kernel), List.mem_of_getElem? (i := 468) (by decide +kernel)⟩
def lw_privs_1 : List (MethodName × Nat) := [(⟨"GridQuarrels", "found", "(I)I"⟩, 8), (⟨"GridQuarrels", "fine", "(I)I"⟩, 8), (⟨"GridQuarrels$Rows", "holds", "(III)Z"⟩, 3), (⟨"GridQuarrels$Reader", "readLaw", "()V"⟩, 6), (⟨"GridQuarrels$Reader", "expect", "(I)V"⟩, 6), (⟨"GridQuarrels$Reader", "next", "()I"⟩, 6), (⟨"GridQuarrels$Reader", "byteAt", "(I)I"⟩, 6), (⟨"GridQuarrels$Reader", "fail", "(I)V"⟩, 6), (⟨"GridQuarrels$Reader", "number", "(III)I"⟩, 6), (⟨"GridQuarrels$Reader", "figuresHere", "()I"⟩, 6), (⟨"GridQuarrels$Reader", "readRoads", "()V"⟩, 6), (⟨"GridQuarrels$Reader", "readRoad", "()V"⟩, 6), (⟨"GridQuarrels$Reader", "readQuarrels", "()V"⟩, 6), (⟨"GridQuarrels$Reader", "readQuarrel", "()V"⟩, 6), (⟨"GridQuarrels$Reader", "sort", "()I"⟩, 6), (⟨"GridQuarrels$County", "walk", "(II)V"⟩, 15)]
theorem lw_r1 : ∀ q ∈ lw_privs_1, lw_okq q := List.forall_mem_cons.mpr ⟨lw_p0, List.forall_mem_cons.mpr ⟨lw_p1, List.forall_mem_cons.mpr ⟨lw_p2, List.forall_mem_cons.mpr ⟨lw_p3, List.forall_mem_cons.mpr ⟨lw_p4, List.forall_mem_cons.mpr ⟨lw_p5, List.forall_mem_cons.mpr ⟨lw_p6, List.forall_mem_cons.mpr ⟨lw_p7, List.forall_mem_cons.mpr ⟨lw_p8, List.forall_mem_cons.mpr ⟨lw_p9, List.forall_mem_cons.mpr ⟨lw_p10, List.forall_mem_cons.mpr ⟨lw_p11, List.forall_mem_cons.mpr ⟨lw_p12, List.forall_mem_cons.mpr ⟨lw_p13, List.forall_mem_cons.mpr ⟨lw_p14, List.forall_mem_cons.mpr ⟨lw_p15, fun _ h => absurd h List.not_mem_nil⟩⟩⟩⟩⟩⟩⟩⟩⟩⟩⟩⟩⟩⟩⟩⟩
theorem lw_p16 : lw_okq (⟨"GridQuarrels$County", "eatOrStarve", "(I)V"⟩, 15) := ⟨⟨by decide +kernel, by decide +kernel⟩, List.mem_of_getElem? (i := 44) (by decide +kernel), List.mem_of_getElem? (i := 471) (by decide +kernel), List.mem_of_getElem? (i := 472) (by decide +kernel)⟩
theorem lw_p17 : lw_okq (⟨"GridQuarrels$Seer", "pass", "(I)V"⟩, 3) := ⟨⟨by decide +kernel, by decide +kernel⟩, List.mem_of_getElem? (i := 166) (by decide +kernel), List.mem_of_getElem? (i := 561) (by decide +kernel), List.mem_of_getElem? (i := 562) (by decide +kernel)⟩
theorem lw_p18 : lw_okq (⟨"GridQuarrels$Seer", "sparedByShut", "(III)Z"⟩, 3) := ⟨⟨by decide +kernel, by decide +kernel⟩, List.mem_of_getElem? (i := 166) (by decide +kernel), List.mem_of_getElem? (i := 616) (by decide +kernel), List.mem_of_getElem? (i := 617) (by decide +kernel)⟩
theorem lw_p19 : lw_okq (⟨"GridQuarrels$Seer", "setGrids", "(II)V"⟩, 3) := ⟨⟨by decide +kernel, by decide +kernel⟩, List.mem_of_getElem? (i := 166) (by decide +kernel), List.mem_of_getElem? (i := 620) (by decide +kernel), List.mem_of_getElem? (i := 621) (by decide +kernel)⟩
theorem lw_p20 : lw_okq (⟨"GridQuarrels$Seer", "isEntered", "(I)Z"⟩, 3) := ⟨⟨by decide +kernel, by decide +kernel⟩, List.mem_of_getElem? (i := 166) (by decide +kernel), List.mem_of_getElem? (i := 627) (by decide +kernel), List.mem_of_getElem? (i := 628) (by decide +kernel)⟩
theorem lw_p21 : lw_okq (⟨"GridQuarrels$Seer", "isLured", "(IIII)Z"⟩, 3) := ⟨⟨by decide +kernel, by decide +kernel⟩, List.mem_of_getElem? (i := 166) (by decide +kernel), List.mem_of_getElem? (i := 643) (by decide +kernel), List.mem_of_getElem? (i := 644) (by decide +kernel)⟩
theorem lw_p22 : lw_okq (⟨"GridQuarrels$County", "spread", "(II)I"⟩, 15) := ⟨⟨by decide +kernel, by decide +kernel⟩, List.mem_of_getElem? (i := 44) (by decide +kernel), List.mem_of_getElem? (i := 671) (by decide +kernel), List.mem_of_getElem? (i := 672) (by decide +kernel)⟩
theorem lw_p23 : lw_okq (⟨"GridQuarrels$Seer", "fits", "(II)Z"⟩, 3) := ⟨⟨by decide +kernel, by decide +kernel⟩, List.mem_of_getElem? (i := 166) (by decide +kernel), List.mem_of_getElem? (i := 712) (by decide +kernel), List.mem_of_getElem? (i := 713) (by decide +kernel)⟩
theorem lw_p24 : lw_okq (⟨"GridQuarrels$Seer", "roadsWithBars", "()I"⟩, 3) := ⟨⟨by decide +kernel, by decide +kernel⟩, List.mem_of_getElem? (i := 166) (by decide +kernel), List.mem_of_getElem? (i := 749) (by decide +kernel), List.mem_of_getElem? (i := 750) (by decide +kernel)⟩
theorem lw_p25 : lw_okq (⟨"GridQuarrels$Seer", "isThereIfFilled", "(IIII)Z"⟩, 3) := ⟨⟨by decide +kernel, by decide +kernel⟩, List.mem_of_getElem? (i := 166) (by decide +kernel), List.mem_of_getElem? (i := 759) (by decide +kernel), List.mem_of_getElem? (i := 760) (by decide +kernel)⟩
theorem lw_p26 : lw_okq (⟨"GridQuarrels$Asker", "begin", "(LGridQuarrels$County;III)I"⟩, 2) := ⟨⟨by decide +kernel, by decide +kernel⟩, List.mem_of_getElem? (i := 187) (by decide +kernel), List.mem_of_getElem? (i := 812) (by decide +kernel), List.mem_of_getElem? (i := 813) (by decide +kernel)⟩
theorem lw_p27 : lw_okq (⟨"GridQuarrels$Asker", "give", "(LGridQuarrels$County;III)I"⟩, 2) := ⟨⟨by decide +kernel, by decide +kernel⟩, List.mem_of_getElem? (i := 187) (by decide +kernel), List.mem_of_getElem? (i := 824) (by decide +kernel), List.mem_of_getElem? (i := 825) (by decide +kernel)⟩
theorem lw_p28 : lw_okq (⟨"GridQuarrels$Asker", "leave", "(I)V"⟩, 2) := ⟨⟨by decide +kernel, by decide +kernel⟩, List.mem_of_getElem? (i := 187) (by decide +kernel), List.mem_of_getElem? (i := 828) (by decide +kernel), List.mem_of_getElem? (i := 829) (by decide +kernel)⟩
theorem lw_p29 : lw_okq (⟨"GridQuarrelsModel", "finding", "(I)I"⟩, 27) := ⟨⟨by decide +kernel, by decide +kernel⟩, List.mem_of_getElem? (i := 858) (by decide +kernel), List.mem_of_getElem? (i := 960) (by decide +kernel), List.mem_of_getElem? (i := 961) (by decide +kernel)⟩
theorem lw_p30 : lw_okq (⟨"GridQuarrelsModel", "begin", "()V"⟩, 27) := ⟨⟨by decide +kernel, by decide +kernel⟩, List.mem_of_getElem? (i := 858) (by decide +kernel), List.mem_of_getElem? (i := 991) (by decide +kernel), List.mem_of_getElem? (i := 992) (by decide +kernel)⟩
theorem lw_p31 : lw_okq (⟨"GridQuarrelsModel", "nextToken", "()V"⟩, 27) := ⟨⟨by decide +kernel, by decide +kernel⟩, List.mem_of_getElem? (i := 858) (by decide +kernel), List.mem_of_getElem? (i := 995) (by decide +kernel), List.mem_of_getElem? (i := 996) (by decide +kernel)⟩
def lw_privs_2 : List (MethodName × Nat) := [(⟨"GridQuarrels$County", "eatOrStarve", "(I)V"⟩, 15), (⟨"GridQuarrels$Seer", "pass", "(I)V"⟩, 3), (⟨"GridQuarrels$Seer", "sparedByShut", "(III)Z"⟩, 3), (⟨"GridQuarrels$Seer", "setGrids", "(II)V"⟩, 3), (⟨"GridQuarrels$Seer", "isEntered", "(I)Z"⟩, 3), (⟨"GridQuarrels$Seer", "isLured", "(IIII)Z"⟩, 3), (⟨"GridQuarrels$County", "spread", "(II)I"⟩, 15), (⟨"GridQuarrels$Seer", "fits", "(II)Z"⟩, 3), (⟨"GridQuarrels$Seer", "roadsWithBars", "()I"⟩, 3), (⟨"GridQuarrels$Seer", "isThereIfFilled", "(IIII)Z"⟩, 3), (⟨"GridQuarrels$Asker", "begin", "(LGridQuarrels$County;III)I"⟩, 2), (⟨"GridQuarrels$Asker", "give", "(LGridQuarrels$County;III)I"⟩, 2), (⟨"GridQuarrels$Asker", "leave", "(I)V"⟩, 2), (⟨"GridQuarrelsModel", "finding", "(I)I"⟩, 27), (⟨"GridQuarrelsModel", "begin", "()V"⟩, 27), (⟨"GridQuarrelsModel", "nextToken", "()V"⟩, 27)]
theorem lw_r2 : ∀ q ∈ lw_privs_2, lw_okq q := List.forall_mem_cons.mpr ⟨lw_p16, List.forall_mem_cons.mpr ⟨lw_p17, List.forall_mem_cons.mpr ⟨lw_p18, List.forall_mem_cons.mpr ⟨lw_p19, List.forall_mem_cons.mpr ⟨lw_p20, List.forall_mem_cons.mpr ⟨lw_p21, List.forall_mem_cons.mpr ⟨lw_p22, List.forall_mem_cons.mpr ⟨lw_p23, List.forall_mem_cons.mpr ⟨lw_p24, List.forall_mem_cons.mpr ⟨lw_p25, List.forall_mem_cons.mpr ⟨lw_p26, List.forall_mem_cons.mpr ⟨lw_p27, List.forall_mem_cons.mpr ⟨lw_p28, List.forall_mem_cons.mpr ⟨lw_p29, List.forall_mem_cons.mpr ⟨lw_p30, List.forall_mem_cons.mpr ⟨lw_p31, fun _ h => absurd h List.not_mem_nil⟩⟩⟩⟩⟩⟩⟩⟩⟩⟩⟩⟩⟩⟩⟩⟩
theorem lw_p32 : lw_okq (⟨"GridQuarrelsModel", "isLetter", "(I)Z"⟩, 27) := ⟨⟨by decide +kernel, by decide +kernel⟩, List.mem_of_getElem? (i := 858) (by decide +kernel), List.mem_of_getElem? (i := 1004) (by decide +kernel), List.mem_of_getElem? (i := 1005) (by decide +kernel)⟩
theorem lw_p33 : lw_okq (⟨"GridQuarrelsModel", "must", "(Z)V"⟩, 27) := ⟨⟨by decide +kernel, by decide +kernel⟩, List.mem_of_getElem? (i := 858) (by decide +kernel), List.mem_of_getElem? (i := 1008) (by decide +kernel), List.mem_of_getElem? (i := 1009) (by decide +kernel)⟩
theorem lw_p34 : lw_okq (⟨"GridQuarrelsModel", "bad", "(I)V"⟩, 27) := ⟨⟨by decide +kernel, by decide +kernel⟩, List.mem_of_getElem? (i := 858) (by decide +kernel), List.mem_of_getElem? (i := 1012) (by decide +kernel), List.mem_of_getElem? (i := 1013) (by decide +kernel)⟩
theorem lw_p35 : lw_okq (⟨"GridQuarrelsModel", "number", "(II)I"⟩, 27) := ⟨⟨by decide +kernel, by decide +kernel⟩, List.mem_of_getElem? (i := 858) (by decide +kernel), List.mem_of_getElem? (i := 1016) (by decide +kernel), List.mem_of_getElem? (i := 1017) (by decide +kernel)⟩
theorem lw_p36 : lw_okq (⟨"GridQuarrelsModel", "mustSign", "(I)V"⟩, 27) := ⟨⟨by decide +kernel, by decide +kernel⟩, List.mem_of_getElem? (i := 858) (by decide +kernel), List.mem_of_getElem? (i := 1020) (by decide +kernel), List.mem_of_getElem? (i := 1021) (by decide +kernel)⟩
theorem lw_p37 : lw_okq (⟨"GridQuarrelsModel", "readRoad", "()V"⟩, 27) := ⟨⟨by decide +kernel, by decide +kernel⟩, List.mem_of_getElem? (i := 858) (by decide +kernel), List.mem_of_getElem? (i := 1024) (by decide +kernel), List.mem_of_getElem? (i := 1025) (by decide +kernel)⟩
theorem lw_p38 : lw_okq (⟨"GridQuarrelsModel", "isSort", "()Z"⟩, 27) := ⟨⟨by decide +kernel, by decide +kernel⟩, List.mem_of_getElem? (i := 858) (by decide +kernel), List.mem_of_getElem? (i := 1028) (by decide +kernel), List.mem_of_getElem? (i := 1029) (by decide +kernel)⟩
theorem lw_p39 : lw_okq (⟨"GridQuarrelsModel", "readQuarrel", "()V"⟩, 27) := ⟨⟨by decide +kernel, by decide +kernel⟩, List.mem_of_getElem? (i := 858) (by decide +kernel), List.mem_of_getElem? (i := 1035) (by decide +kernel), List.mem_of_getElem? (i := 1036) (by decide +kernel)⟩
theorem lw_p40 : lw_okq (⟨"GridQuarrelsModel", "failed", "()Z"⟩, 27) := ⟨⟨by decide +kernel, by decide +kernel⟩, List.mem_of_getElem? (i := 858) (by decide +kernel), List.mem_of_getElem? (i := 1039) (by decide +kernel), List.mem_of_getElem? (i := 1040) (by decide +kernel)⟩
theorem lw_p41 : lw_okq (⟨"GridQuarrelsModel", "isThere", "()Z"⟩, 27) := ⟨⟨by decide +kernel, by decide +kernel⟩, List.mem_of_getElem? (i := 858) (by decide +kernel), List.mem_of_getElem? (i := 1048) (by decide +kernel), List.mem_of_getElem? (i := 1049) (by decide +kernel)⟩
theorem lw_p42 : lw_okq (⟨"GridQuarrelsModel", "keep", "()V"⟩, 27) := ⟨⟨by decide +kernel, by decide +kernel⟩, List.mem_of_getElem? (i := 858) (by decide +kernel), List.mem_of_getElem? (i := 1054) (by decide +kernel), List.mem_of_getElem? (i := 1055) (by decide +kernel)⟩
theorem lw_p43 : lw_okq (⟨"GridQuarrelsModel", "year", "([I)V"⟩, 27) := ⟨⟨by decide +kernel, by decide +kernel⟩, List.mem_of_getElem? (i := 858) (by decide +kernel), List.mem_of_getElem? (i := 1058) (by decide +kernel), List.mem_of_getElem? (i := 1059) (by decide +kernel)⟩
theorem lw_p44 : lw_okq (⟨"GridQuarrelsModel", "isParish", "(I)Z"⟩, 27) := ⟨⟨by decide +kernel, by decide +kernel⟩, List.mem_of_getElem? (i := 858) (by decide +kernel), List.mem_of_getElem? (i := 1087) (by decide +kernel), List.mem_of_getElem? (i := 1088) (by decide +kernel)⟩
theorem lw_p45 : lw_okq (⟨"GridQuarrelsModel", "isRoad", "(I)Z"⟩, 27) := ⟨⟨by decide +kernel, by decide +kernel⟩, List.mem_of_getElem? (i := 858) (by decide +kernel), List.mem_of_getElem? (i := 1099) (by decide +kernel), List.mem_of_getElem? (i := 1100) (by decide +kernel)⟩
theorem lw_p46 : lw_okq (⟨"GridQuarrelsModel", "isQuarrel", "(I)Z"⟩, 27) := ⟨⟨by decide +kernel, by decide +kernel⟩, List.mem_of_getElem? (i := 858) (by decide +kernel), List.mem_of_getElem? (i := 1107) (by decide +kernel), List.mem_of_getElem? (i := 1108) (by decide +kernel)⟩
theorem lw_p47 : lw_okq (⟨"GridQuarrelsModel", "layThen", "()V"⟩, 27) := ⟨⟨by decide +kernel, by decide +kernel⟩, List.mem_of_getElem? (i := 858) (by decide +kernel), List.mem_of_getElem? (i := 1140) (by decide +kernel), List.mem_of_getElem? (i := 1141) (by decide +kernel)⟩
def lw_privs_3 : List (MethodName × Nat) := [(⟨"GridQuarrelsModel", "isLetter", "(I)Z"⟩, 27), (⟨"GridQuarrelsModel", "must", "(Z)V"⟩, 27), (⟨"GridQuarrelsModel", "bad", "(I)V"⟩, 27), (⟨"GridQuarrelsModel", "number", "(II)I"⟩, 27), (⟨"GridQuarrelsModel", "mustSign", "(I)V"⟩, 27), (⟨"GridQuarrelsModel", "readRoad", "()V"⟩, 27), (⟨"GridQuarrelsModel", "isSort", "()Z"⟩, 27), (⟨"GridQuarrelsModel", "readQuarrel", "()V"⟩, 27), (⟨"GridQuarrelsModel", "failed", "()Z"⟩, 27), (⟨"GridQuarrelsModel", "isThere", "()Z"⟩, 27), (⟨"GridQuarrelsModel", "keep", "()V"⟩, 27), (⟨"GridQuarrelsModel", "year", "([I)V"⟩, 27), (⟨"GridQuarrelsModel", "isParish", "(I)Z"⟩, 27), (⟨"GridQuarrelsModel", "isRoad", "(I)Z"⟩, 27), (⟨"GridQuarrelsModel", "isQuarrel", "(I)Z"⟩, 27), (⟨"GridQuarrelsModel", "layThen", "()V"⟩, 27)]
theorem lw_r3 : ∀ q ∈ lw_privs_3, lw_okq q := List.forall_mem_cons.mpr ⟨lw_p32, List.forall_mem_cons.mpr ⟨lw_p33, List.forall_mem_cons.mpr ⟨lw_p34, List.forall_mem_cons.mpr ⟨lw_p35, List.forall_mem_cons.mpr ⟨lw_p36, List.forall_mem_cons.mpr ⟨lw_p37, List.forall_mem_cons.mpr ⟨lw_p38, List.forall_mem_cons.mpr ⟨lw_p39, List.forall_mem_cons.mpr ⟨lw_p40, List.forall_mem_cons.mpr ⟨lw_p41, List.forall_mem_cons.mpr ⟨lw_p42, List.forall_mem_cons.mpr ⟨lw_p43, List.forall_mem_cons.mpr ⟨lw_p44, List.forall_mem_cons.mpr ⟨lw_p45, List.forall_mem_cons.mpr ⟨lw_p46, List.forall_mem_cons.mpr ⟨lw_p47, fun _ h => absurd h List.not_mem_nil⟩⟩⟩⟩⟩⟩⟩⟩⟩⟩⟩⟩⟩⟩⟩⟩
theorem lw_p48 : lw_okq (⟨"GridQuarrelsModel", "yearsOf", "([II)V"⟩, 27) := ⟨⟨by decide +kernel, by decide +kernel⟩, List.mem_of_getElem? (i := 858) (by decide +kernel), List.mem_of_getElem? (i := 1144) (by decide +kernel), List.mem_of_getElem? (i := 1145) (by decide +kernel)⟩
theorem lw_p49 : lw_okq (⟨"GridQuarrelsModel", "diesBy", "(I)I"⟩, 27) := ⟨⟨by decide +kernel, by decide +kernel⟩, List.mem_of_getElem? (i := 858) (by decide +kernel), List.mem_of_getElem? (i := 1156) (by decide +kernel), List.mem_of_getElem? (i := 1157) (by decide +kernel)⟩
theorem lw_p50 : lw_okq (⟨"GridQuarrelsModel", "reachBy", "(II)I"⟩, 27) := ⟨⟨by decide +kernel, by decide +kernel⟩, List.mem_of_getElem? (i := 858) (by decide +kernel), List.mem_of_getElem? (i := 1195) (by decide +kernel), List.mem_of_getElem? (i := 1196) (by decide +kernel)⟩
theorem lw_p51 : lw_okq (⟨"GridQuarrelsModel", "rowFound", "(III)I"⟩, 27) := ⟨⟨by decide +kernel, by decide +kernel⟩, List.mem_of_getElem? (i := 858) (by decide +kernel), List.mem_of_getElem? (i := 1216) (by decide +kernel), List.mem_of_getElem? (i := 1217) (by decide +kernel)⟩
theorem lw_p52 : lw_okq (⟨"GridQuarrelsModel", "isSo", "(III)Z"⟩, 27) := ⟨⟨by decide +kernel, by decide +kernel⟩, List.mem_of_getElem? (i := 858) (by decide +kernel), List.mem_of_getElem? (i := 1220) (by decide +kernel), List.mem_of_getElem? (i := 1221) (by decide +kernel)⟩
theorem lw_p53 : lw_okq (⟨"GridQuarrelsModel", "sizeOf", "(I)I"⟩, 27) := ⟨⟨by decide +kernel, by decide +kernel⟩, List.mem_of_getElem? (i := 858) (by decide +kernel), List.mem_of_getElem? (i := 1270) (by decide +kernel), List.mem_of_getElem? (i := 1271) (by decide +kernel)⟩
theorem lw_p54 : lw_okq (⟨"GridQuarrelsModel", "bullSize", "(I)I"⟩, 27) := ⟨⟨by decide +kernel, by decide +kernel⟩, List.mem_of_getElem? (i := 858) (by decide +kernel), List.mem_of_getElem? (i := 1274) (by decide +kernel), List.mem_of_getElem? (i := 1275) (by decide +kernel)⟩
theorem lw_p55 : lw_okq (⟨"GridQuarrelsModel", "began", "(I)V"⟩, 27) := ⟨⟨by decide +kernel, by decide +kernel⟩, List.mem_of_getElem? (i := 858) (by decide +kernel), List.mem_of_getElem? (i := 1278) (by decide +kernel), List.mem_of_getElem? (i := 1279) (by decide +kernel)⟩
theorem lw_p56 : lw_okq (⟨"GridQuarrelsModel", "plainSize", "(I)I"⟩, 27) := ⟨⟨by decide +kernel, by decide +kernel⟩, List.mem_of_getElem? (i := 858) (by decide +kernel), List.mem_of_getElem? (i := 1282) (by decide +kernel), List.mem_of_getElem? (i := 1283) (by decide +kernel)⟩
theorem lw_p57 : lw_okq (⟨"GridQuarrelsModel", "markOf", "(I)I"⟩, 27) := ⟨⟨by decide +kernel, by decide +kernel⟩, List.mem_of_getElem? (i := 858) (by decide +kernel), List.mem_of_getElem? (i := 1286) (by decide +kernel), List.mem_of_getElem? (i := 1287) (by decide +kernel)⟩
def lw_privs_4 : List (MethodName × Nat) := [(⟨"GridQuarrelsModel", "yearsOf", "([II)V"⟩, 27), (⟨"GridQuarrelsModel", "diesBy", "(I)I"⟩, 27), (⟨"GridQuarrelsModel", "reachBy", "(II)I"⟩, 27), (⟨"GridQuarrelsModel", "rowFound", "(III)I"⟩, 27), (⟨"GridQuarrelsModel", "isSo", "(III)Z"⟩, 27), (⟨"GridQuarrelsModel", "sizeOf", "(I)I"⟩, 27), (⟨"GridQuarrelsModel", "bullSize", "(I)I"⟩, 27), (⟨"GridQuarrelsModel", "began", "(I)V"⟩, 27), (⟨"GridQuarrelsModel", "plainSize", "(I)I"⟩, 27), (⟨"GridQuarrelsModel", "markOf", "(I)I"⟩, 27)]
theorem lw_r4 : ∀ q ∈ lw_privs_4, lw_okq q := List.forall_mem_cons.mpr ⟨lw_p48, List.forall_mem_cons.mpr ⟨lw_p49, List.forall_mem_cons.mpr ⟨lw_p50, List.forall_mem_cons.mpr ⟨lw_p51, List.forall_mem_cons.mpr ⟨lw_p52, List.forall_mem_cons.mpr ⟨lw_p53, List.forall_mem_cons.mpr ⟨lw_p54, List.forall_mem_cons.mpr ⟨lw_p55, List.forall_mem_cons.mpr ⟨lw_p56, List.forall_mem_cons.mpr ⟨lw_p57, fun _ h => absurd h List.not_mem_nil⟩⟩⟩⟩⟩⟩⟩⟩⟩⟩
def lw_privs : List (MethodName × Nat) := lw_privs_1 ++ (lw_privs_2 ++ (lw_privs_3 ++ (lw_privs_4)))
def lw_tbl : List Cond := k2_sels lw_privs ++ tables_1
theorem lw_privs_ok : ∀ q ∈ lw_privs, lw_okq q := by
  show ∀ q ∈ lw_privs_1 ++ (lw_privs_2 ++ (lw_privs_3 ++ (lw_privs_4))), lw_okq q
  exact List.forall_mem_append.mpr ⟨lw_r1, List.forall_mem_append.mpr ⟨lw_r2, List.forall_mem_append.mpr ⟨lw_r3, lw_r4⟩⟩⟩
end
section
/-! THE PROGRAM: by gen_prog.py out of claim/JAVAP.txt: per instruction (pc, instruction, a, b, c, switch) -/
abbrev mmE : Type := Nat × Instr × Nat × Nat × Int × List (Int × Nat)
/-- java/lang/Integer.bitCount(I)I -/
def cd0 : Nat → mmE := fun i => (bif Nat.ble i 20 then (bif Nat.ble i 9 then (bif Nat.ble i 4 then (bif Nat.ble i 1 then (bif Nat.ble i 0 then (0, .iload_n 0, 0, 0, 0, []) else (1, .iload_n 0, 0, 0, 0, [])) else (bif Nat.ble i 2 then (2, .iconst 1, 0, 0, 1, []) else (bif Nat.ble i 3 then (3, .iushr, 0, 0, 0, []) else (4, .ldc_w 267, 0, 0, 1431655765, [])))) else (bif Nat.ble i 6 then (bif Nat.ble i 5 then (7, .iand, 0, 0, 0, []) else (8, .isub, 0, 0, 0, [])) else (bif Nat.ble i 7 then (9, .istore_n 0, 0, 0, 0, []) else (bif Nat.ble i 8 then (10, .iload_n 0, 0, 0, 0, []) else (11, .ldc_w 268, 0, 0, 858993459, []))))) else (bif Nat.ble i 14 then (bif Nat.ble i 11 then (bif Nat.ble i 10 then (14, .iand, 0, 0, 0, []) else (15, .iload_n 0, 0, 0, 0, [])) else (bif Nat.ble i 12 then (16, .iconst 2, 0, 0, 2, []) else (bif Nat.ble i 13 then (17, .iushr, 0, 0, 0, []) else (18, .ldc_w 268, 0, 0, 858993459, [])))) else (bif Nat.ble i 17 then (bif Nat.ble i 15 then (21, .iand, 0, 0, 0, []) else (bif Nat.ble i 16 then (22, .iadd, 0, 0, 0, []) else (23, .istore_n 0, 0, 0, 0, []))) else (bif Nat.ble i 18 then (24, .iload_n 0, 0, 0, 0, []) else (bif Nat.ble i 19 then (25, .iload_n 0, 0, 0, 0, []) else (26, .iconst 4, 0, 0, 4, [])))))) else (bif Nat.ble i 30 then (bif Nat.ble i 25 then (bif Nat.ble i 22 then (bif Nat.ble i 21 then (27, .iushr, 0, 0, 0, []) else (28, .iadd, 0, 0, 0, [])) else (bif Nat.ble i 23 then (29, .ldc_w 269, 0, 0, 252645135, []) else (bif Nat.ble i 24 then (32, .iand, 0, 0, 0, []) else (33, .istore_n 0, 0, 0, 0, [])))) else (bif Nat.ble i 27 then (bif Nat.ble i 26 then (34, .iload_n 0, 0, 0, 0, []) else (35, .iload_n 0, 0, 0, 0, [])) else (bif Nat.ble i 28 then (36, .bipush 8, 0, 0, 8, []) else (bif Nat.ble i 29 then (38, .iushr, 0, 0, 0, []) else (39, .iadd, 0, 0, 0, []))))) else (bif Nat.ble i 35 then (bif Nat.ble i 32 then (bif Nat.ble i 31 then (40, .istore_n 0, 0, 0, 0, []) else (41, .iload_n 0, 0, 0, 0, [])) else (bif Nat.ble i 33 then (42, .iload_n 0, 0, 0, 0, []) else (bif Nat.ble i 34 then (43, .bipush 16, 0, 0, 16, []) else (45, .iushr, 0, 0, 0, [])))) else (bif Nat.ble i 38 then (bif Nat.ble i 36 then (46, .iadd, 0, 0, 0, []) else (bif Nat.ble i 37 then (47, .istore_n 0, 0, 0, 0, []) else (48, .iload_n 0, 0, 0, 0, []))) else (bif Nat.ble i 39 then (49, .bipush 63, 0, 0, 63, []) else (bif Nat.ble i 40 then (51, .iand, 0, 0, 0, []) else (52, .ireturn, 0, 0, 0, [])))))))
/-- java/lang/Math.max(II)I -/
def cd1 : Nat → mmE := fun i => (bif Nat.ble i 2 then (bif Nat.ble i 0 then (0, .iload_n 0, 0, 0, 0, []) else (bif Nat.ble i 1 then (1, .iload_n 1, 0, 0, 0, []) else (2, .if_icmp .lt 7, 5, 0, 0, []))) else (bif Nat.ble i 4 then (bif Nat.ble i 3 then (5, .iload_n 0, 0, 0, 0, []) else (6, .goto 4, 6, 0, 0, [])) else (bif Nat.ble i 5 then (9, .iload_n 1, 0, 0, 0, []) else (10, .ireturn, 0, 0, 0, []))))
/-- java/lang/Math.min(II)I -/
def cd2 : Nat → mmE := fun i => (bif Nat.ble i 2 then (bif Nat.ble i 0 then (0, .iload_n 0, 0, 0, 0, []) else (bif Nat.ble i 1 then (1, .iload_n 1, 0, 0, 0, []) else (2, .if_icmp .gt 7, 5, 0, 0, []))) else (bif Nat.ble i 4 then (bif Nat.ble i 3 then (5, .iload_n 0, 0, 0, 0, []) else (6, .goto 4, 6, 0, 0, [])) else (bif Nat.ble i 5 then (9, .iload_n 1, 0, 0, 0, []) else (10, .ireturn, 0, 0, 0, []))))
/-- GridQuarrels$Acts.<init>()V -/
def cd3 : Nat → mmE := fun i => (bif Nat.ble i 3 then (bif Nat.ble i 1 then (bif Nat.ble i 0 then (0, .aload_n 0, 0, 0, 0, []) else (1, .invokespecial 1, 0, 0, 0, [])) else (bif Nat.ble i 2 then (4, .aload_n 0, 0, 0, 0, []) else (5, .bipush 24, 0, 0, 24, []))) else (bif Nat.ble i 5 then (bif Nat.ble i 4 then (7, .bipush 25, 0, 0, 25, []) else (9, .multianewarray 11 2, 0, 0, 0, [])) else (bif Nat.ble i 6 then (13, .putfield 13, 1, 0, 0, []) else (16, .return_, 0, 0, 0, []))))
/-- GridQuarrels$Acts.forget()V -/
def cd4 : Nat → mmE := fun i => (bif Nat.ble i 1 then (bif Nat.ble i 0 then (0, .aload_n 0, 0, 0, 0, []) else (1, .iconst 0, 0, 0, 0, [])) else (bif Nat.ble i 2 then (2, .putfield 16, 0, 0, 0, []) else (5, .return_, 0, 0, 0, [])))
/-- GridQuarrels$Acts.keep(LGridQuarrels$County;)V -/
def cd5 : Nat → mmE := fun i => (bif Nat.ble i 14 then (bif Nat.ble i 6 then (bif Nat.ble i 2 then (bif Nat.ble i 0 then (0, .aload_n 1, 0, 0, 0, []) else (bif Nat.ble i 1 then (1, .aload_n 0, 0, 0, 0, []) else (2, .getfield 13, 1, 0, 0, []))) else (bif Nat.ble i 4 then (bif Nat.ble i 3 then (5, .aload_n 0, 0, 0, 0, []) else (6, .getfield 20, 2, 0, 0, [])) else (bif Nat.ble i 5 then (9, .aaload, 0, 0, 0, []) else (10, .invokevirtual 23, 25, 2, 0, [])))) else (bif Nat.ble i 10 then (bif Nat.ble i 8 then (bif Nat.ble i 7 then (13, .aload_n 0, 0, 0, 0, []) else (14, .aload_n 0, 0, 0, 0, [])) else (bif Nat.ble i 9 then (15, .getfield 20, 2, 0, 0, []) else (18, .iconst 1, 0, 0, 1, []))) else (bif Nat.ble i 12 then (bif Nat.ble i 11 then (19, .iadd, 0, 0, 0, []) else (20, .bipush 24, 0, 0, 24, [])) else (bif Nat.ble i 13 then (22, .if_icmp .ge 12, 19, 0, 0, []) else (25, .aload_n 0, 0, 0, 0, []))))) else (bif Nat.ble i 21 then (bif Nat.ble i 17 then (bif Nat.ble i 15 then (26, .getfield 20, 2, 0, 0, []) else (bif Nat.ble i 16 then (29, .iconst 1, 0, 0, 1, []) else (30, .iadd, 0, 0, 0, []))) else (bif Nat.ble i 19 then (bif Nat.ble i 18 then (31, .goto 4, 20, 0, 0, []) else (34, .iconst 0, 0, 0, 0, [])) else (bif Nat.ble i 20 then (35, .putfield 20, 2, 0, 0, []) else (38, .aload_n 0, 0, 0, 0, [])))) else (bif Nat.ble i 25 then (bif Nat.ble i 23 then (bif Nat.ble i 22 then (39, .bipush 24, 0, 0, 24, []) else (41, .aload_n 0, 0, 0, 0, [])) else (bif Nat.ble i 24 then (42, .getfield 16, 0, 0, 0, []) else (45, .iconst 1, 0, 0, 1, []))) else (bif Nat.ble i 27 then (bif Nat.ble i 26 then (46, .iadd, 0, 0, 0, []) else (47, .invokestatic 27, 2, 2, 0, [])) else (bif Nat.ble i 28 then (50, .putfield 16, 0, 0, 0, []) else (53, .return_, 0, 0, 0, []))))))
/-- GridQuarrels$Acts.takeBack(LGridQuarrels$County;)V -/
def cd6 : Nat → mmE := fun i => (bif Nat.ble i 13 then (bif Nat.ble i 6 then (bif Nat.ble i 2 then (bif Nat.ble i 0 then (0, .aload_n 0, 0, 0, 0, []) else (bif Nat.ble i 1 then (1, .getfield 16, 0, 0, 0, []) else (4, .ifCond .ne 4, 4, 0, 0, []))) else (bif Nat.ble i 4 then (bif Nat.ble i 3 then (7, .return_, 0, 0, 0, []) else (8, .aload_n 0, 0, 0, 0, [])) else (bif Nat.ble i 5 then (9, .aload_n 0, 0, 0, 0, []) else (10, .getfield 20, 2, 0, 0, [])))) else (bif Nat.ble i 9 then (bif Nat.ble i 7 then (13, .ifCond .le 12, 13, 0, 0, []) else (bif Nat.ble i 8 then (16, .aload_n 0, 0, 0, 0, []) else (17, .getfield 20, 2, 0, 0, []))) else (bif Nat.ble i 11 then (bif Nat.ble i 10 then (20, .iconst 1, 0, 0, 1, []) else (21, .isub, 0, 0, 0, [])) else (bif Nat.ble i 12 then (22, .goto 5, 14, 0, 0, []) else (25, .bipush 23, 0, 0, 23, []))))) else (bif Nat.ble i 20 then (bif Nat.ble i 16 then (bif Nat.ble i 14 then (27, .putfield 20, 2, 0, 0, []) else (bif Nat.ble i 15 then (30, .aload_n 0, 0, 0, 0, []) else (31, .dup, 0, 0, 0, []))) else (bif Nat.ble i 18 then (bif Nat.ble i 17 then (32, .getfield 16, 0, 0, 0, []) else (35, .iconst 1, 0, 0, 1, [])) else (bif Nat.ble i 19 then (36, .isub, 0, 0, 0, []) else (37, .putfield 16, 0, 0, 0, [])))) else (bif Nat.ble i 24 then (bif Nat.ble i 22 then (bif Nat.ble i 21 then (40, .aload_n 1, 0, 0, 0, []) else (41, .aload_n 0, 0, 0, 0, [])) else (bif Nat.ble i 23 then (42, .getfield 13, 1, 0, 0, []) else (45, .aload_n 0, 0, 0, 0, []))) else (bif Nat.ble i 26 then (bif Nat.ble i 25 then (46, .getfield 20, 2, 0, 0, []) else (49, .aaload, 0, 0, 0, [])) else (bif Nat.ble i 27 then (50, .invokevirtual 33, 26, 2, 0, []) else (53, .return_, 0, 0, 0, []))))))
/-- GridQuarrels$Asker.<init>()V -/
def cd7 : Nat → mmE := fun i => (bif Nat.ble i 2 then (bif Nat.ble i 0 then (0, .aload_n 0, 0, 0, 0, []) else (bif Nat.ble i 1 then (1, .invokespecial 3, 0, 0, 0, []) else (4, .aload_n 0, 0, 0, 0, []))) else (bif Nat.ble i 4 then (bif Nat.ble i 3 then (5, .bipush 16, 0, 0, 16, []) else (7, .newarray .int, 0, 0, 0, [])) else (bif Nat.ble i 5 then (9, .putfield 11, 0, 1, 0, []) else (12, .return_, 0, 0, 0, []))))
/-- GridQuarrels$Asker.answer(LGridQuarrels$County;II)I -/
def cd8 : Nat → mmE := fun i => (bif Nat.ble i 4 then (bif Nat.ble i 1 then (bif Nat.ble i 0 then (0, .aload_n 0, 0, 0, 0, []) else (1, .iconst 0, 0, 0, 0, [])) else (bif Nat.ble i 2 then (2, .putfield 15, 1, 1, 0, []) else (bif Nat.ble i 3 then (5, .aload_n 0, 0, 0, 0, []) else (6, .aload_n 1, 0, 0, 0, [])))) else (bif Nat.ble i 6 then (bif Nat.ble i 5 then (7, .iload_n 3, 0, 0, 0, []) else (8, .iload_n 2, 0, 0, 0, [])) else (bif Nat.ble i 7 then (9, .iconst 0, 0, 0, 0, []) else (bif Nat.ble i 8 then (10, .invokevirtual 19, 10, 5, 0, []) else (13, .ireturn, 0, 0, 0, [])))))
/-- GridQuarrels$Asker.leftAt(I)I -/
def cd9 : Nat → mmE := fun i => (bif Nat.ble i 6 then (bif Nat.ble i 2 then (bif Nat.ble i 0 then (0, .iload_n 1, 0, 0, 0, []) else (bif Nat.ble i 1 then (1, .iconst 0, 0, 0, 0, []) else (2, .aload_n 0, 0, 0, 0, []))) else (bif Nat.ble i 4 then (bif Nat.ble i 3 then (3, .getfield 15, 1, 1, 0, []) else (6, .iconst 1, 0, 0, 1, [])) else (bif Nat.ble i 5 then (7, .isub, 0, 0, 0, []) else (8, .invokestatic 23, 150, 3, 0, [])))) else (bif Nat.ble i 10 then (bif Nat.ble i 8 then (bif Nat.ble i 7 then (11, .ifCond .eq 12, 13, 0, 0, []) else (14, .aload_n 0, 0, 0, 0, [])) else (bif Nat.ble i 9 then (15, .getfield 11, 0, 1, 0, []) else (18, .iload_n 1, 0, 0, 0, []))) else (bif Nat.ble i 12 then (bif Nat.ble i 11 then (19, .iaload, 0, 0, 0, []) else (20, .goto 5, 14, 0, 0, [])) else (bif Nat.ble i 13 then (23, .ldc 27, 0, 0, (-1000000), []) else (25, .ireturn, 0, 0, 0, [])))))
/-- GridQuarrels$Asker.begin(LGridQuarrels$County;III)I -/
def cd10 : Nat → mmE := fun i => (bif Nat.ble i 5 then (bif Nat.ble i 2 then (bif Nat.ble i 0 then (0, .aload_n 0, 0, 0, 0, []) else (bif Nat.ble i 1 then (1, .aload_n 1, 0, 0, 0, []) else (2, .iload_n 2, 0, 0, 0, []))) else (bif Nat.ble i 3 then (3, .aload_n 1, 0, 0, 0, []) else (bif Nat.ble i 4 then (4, .getfield 28, 8, 2, 0, []) else (7, .iload_n 3, 0, 0, 0, [])))) else (bif Nat.ble i 8 then (bif Nat.ble i 6 then (8, .iaload, 0, 0, 0, []) else (bif Nat.ble i 7 then (9, .invokestatic 33, 11, 2, 0, []) else (12, .iload_n 3, 0, 0, 0, []))) else (bif Nat.ble i 9 then (13, .iload 4, 0, 0, 0, []) else (bif Nat.ble i 10 then (15, .invokevirtual 37, 13, 5, 0, []) else (18, .ireturn, 0, 0, 0, [])))))
/-- GridQuarrels$Asker.bodyFor(II)I -/
def cd11 : Nat → mmE := fun i => (bif Nat.ble i 12 then (bif Nat.ble i 5 then (bif Nat.ble i 2 then (bif Nat.ble i 0 then (0, .iload_n 0, 0, 0, 0, []) else (bif Nat.ble i 1 then (1, .ifCond .ne 9, 4, 0, 0, []) else (4, .getstatic 40, 2, 0, 0, []))) else (bif Nat.ble i 3 then (7, .goto 6, 5, 0, 0, []) else (bif Nat.ble i 4 then (10, .getstatic 43, 3, 0, 0, []) else (13, .astore_n 2, 0, 0, 0, [])))) else (bif Nat.ble i 8 then (bif Nat.ble i 6 then (14, .iload_n 1, 0, 0, 0, []) else (bif Nat.ble i 7 then (15, .istore_n 3, 0, 0, 0, []) else (16, .iconst 0, 0, 0, 0, []))) else (bif Nat.ble i 10 then (bif Nat.ble i 9 then (17, .istore 4, 0, 0, 0, []) else (19, .iload 4, 0, 0, 0, [])) else (bif Nat.ble i 11 then (21, .iconst 5, 0, 0, 5, []) else (22, .if_icmp .ge 21, 23, 0, 0, []))))) else (bif Nat.ble i 19 then (bif Nat.ble i 15 then (bif Nat.ble i 13 then (25, .aload_n 2, 0, 0, 0, []) else (bif Nat.ble i 14 then (26, .iload_n 3, 0, 0, 0, []) else (27, .iaload, 0, 0, 0, []))) else (bif Nat.ble i 17 then (bif Nat.ble i 16 then (28, .ifCond .ne 15, 23, 0, 0, []) else (31, .getstatic 46, 1, 0, 0, [])) else (bif Nat.ble i 18 then (34, .iload_n 3, 0, 0, 0, []) else (35, .iaload, 0, 0, 0, [])))) else (bif Nat.ble i 22 then (bif Nat.ble i 20 then (36, .istore_n 3, 0, 0, 0, []) else (bif Nat.ble i 21 then (37, .iinc 4 1, 0, 0, 1, []) else (40, .goto (-21), 10, 0, 0, []))) else (bif Nat.ble i 24 then (bif Nat.ble i 23 then (43, .aload_n 2, 0, 0, 0, []) else (44, .iload_n 3, 0, 0, 0, [])) else (bif Nat.ble i 25 then (45, .iaload, 0, 0, 0, []) else (46, .ireturn, 0, 0, 0, []))))))
/-- GridQuarrels$Asker.leave(I)V -/
def cd12 : Nat → mmE := fun i => (bif Nat.ble i 7 then (bif Nat.ble i 3 then (bif Nat.ble i 1 then (bif Nat.ble i 0 then (0, .aload_n 0, 0, 0, 0, []) else (1, .getfield 15, 1, 1, 0, [])) else (bif Nat.ble i 2 then (4, .bipush 16, 0, 0, 16, []) else (6, .if_icmp .ge 23, 16, 0, 0, []))) else (bif Nat.ble i 5 then (bif Nat.ble i 4 then (9, .aload_n 0, 0, 0, 0, []) else (10, .getfield 11, 0, 1, 0, [])) else (bif Nat.ble i 6 then (13, .aload_n 0, 0, 0, 0, []) else (14, .getfield 15, 1, 1, 0, [])))) else (bif Nat.ble i 11 then (bif Nat.ble i 9 then (bif Nat.ble i 8 then (17, .iload_n 1, 0, 0, 0, []) else (18, .iastore, 0, 0, 0, [])) else (bif Nat.ble i 10 then (19, .aload_n 0, 0, 0, 0, []) else (20, .dup, 0, 0, 0, []))) else (bif Nat.ble i 13 then (bif Nat.ble i 12 then (21, .getfield 15, 1, 1, 0, []) else (24, .iconst 1, 0, 0, 1, [])) else (bif Nat.ble i 14 then (25, .iadd, 0, 0, 0, []) else (bif Nat.ble i 15 then (26, .putfield 15, 1, 1, 0, []) else (29, .return_, 0, 0, 0, []))))))
/-- GridQuarrels$Asker.give(LGridQuarrels$County;III)I -/
def cd13 : Nat → mmE := fun i => (bif Nat.ble i 52 then (bif Nat.ble i 25 then (bif Nat.ble i 12 then (bif Nat.ble i 5 then (bif Nat.ble i 2 then (bif Nat.ble i 0 then (0, .iload 4, 0, 0, 0, []) else (bif Nat.ble i 1 then (2, .bipush 20, 0, 0, 20, []) else (4, .if_icmp .le 5, 5, 0, 0, []))) else (bif Nat.ble i 3 then (7, .iconst 0, 0, 0, 0, []) else (bif Nat.ble i 4 then (8, .ireturn, 0, 0, 0, []) else (9, .aload_n 0, 0, 0, 0, [])))) else (bif Nat.ble i 8 then (bif Nat.ble i 6 then (10, .iload_n 2, 0, 0, 0, []) else (bif Nat.ble i 7 then (11, .invokevirtual 49, 12, 2, 0, []) else (14, .iload 4, 0, 0, 0, []))) else (bif Nat.ble i 10 then (bif Nat.ble i 9 then (16, .iconst 1, 0, 0, 1, []) else (17, .iadd, 0, 0, 0, [])) else (bif Nat.ble i 11 then (18, .istore 5, 0, 0, 0, []) else (20, .iload_n 2, 0, 0, 0, []))))) else (bif Nat.ble i 18 then (bif Nat.ble i 15 then (bif Nat.ble i 13 then (21, .tableswitch 211 10 24 #[75, 82, 103, 115, 129, 211, 211, 211, 211, 211, 142, 144, 162, 177, 198], 105, 0, 0, [(10, 14), (11, 19), (12, 33), (13, 41), (14, 50), (15, 105), (16, 105), (17, 105), (18, 105), (19, 105), (20, 59), (21, 61), (22, 73), (23, 82), (24, 96)]) else (bif Nat.ble i 14 then (96, .aload_n 1, 0, 0, 0, []) else (97, .getfield 53, 10, 2, 0, []))) else (bif Nat.ble i 16 then (100, .iload_n 3, 0, 0, 0, []) else (bif Nat.ble i 17 then (101, .iaload, 0, 0, 0, []) else (102, .ireturn, 0, 0, 0, [])))) else (bif Nat.ble i 21 then (bif Nat.ble i 19 then (103, .aload_n 0, 0, 0, 0, []) else (bif Nat.ble i 20 then (104, .aload_n 1, 0, 0, 0, []) else (105, .bipush 10, 0, 0, 10, []))) else (bif Nat.ble i 23 then (bif Nat.ble i 22 then (107, .iload_n 3, 0, 0, 0, []) else (108, .iload 5, 0, 0, 0, [])) else (bif Nat.ble i 24 then (110, .invokevirtual 37, 13, 5, 0, []) else (113, .aload_n 0, 0, 0, 0, [])))))) else (bif Nat.ble i 38 then (bif Nat.ble i 31 then (bif Nat.ble i 28 then (bif Nat.ble i 26 then (114, .aload_n 1, 0, 0, 0, []) else (bif Nat.ble i 27 then (115, .iconst 1, 0, 0, 1, []) else (116, .iload_n 3, 0, 0, 0, []))) else (bif Nat.ble i 29 then (117, .iload 5, 0, 0, 0, []) else (bif Nat.ble i 30 then (119, .invokevirtual 19, 10, 5, 0, []) else (122, .iadd, 0, 0, 0, [])))) else (bif Nat.ble i 34 then (bif Nat.ble i 32 then (123, .ireturn, 0, 0, 0, []) else (bif Nat.ble i 33 then (124, .aload_n 0, 0, 0, 0, []) else (125, .aload_n 1, 0, 0, 0, []))) else (bif Nat.ble i 36 then (bif Nat.ble i 35 then (126, .bipush 11, 0, 0, 11, []) else (128, .iload_n 3, 0, 0, 0, [])) else (bif Nat.ble i 37 then (129, .iload 5, 0, 0, 0, []) else (131, .invokevirtual 37, 13, 5, 0, []))))) else (bif Nat.ble i 45 then (bif Nat.ble i 41 then (bif Nat.ble i 39 then (134, .ineg, 0, 0, 0, []) else (bif Nat.ble i 40 then (135, .ireturn, 0, 0, 0, []) else (136, .aload_n 0, 0, 0, 0, []))) else (bif Nat.ble i 43 then (bif Nat.ble i 42 then (137, .aload_n 1, 0, 0, 0, []) else (138, .bipush 10, 0, 0, 10, [])) else (bif Nat.ble i 44 then (140, .iload_n 3, 0, 0, 0, []) else (141, .iload 5, 0, 0, 0, [])))) else (bif Nat.ble i 48 then (bif Nat.ble i 46 then (143, .invokevirtual 37, 13, 5, 0, []) else (bif Nat.ble i 47 then (146, .bipush 100, 0, 0, 100, []) else (148, .isub, 0, 0, 0, []))) else (bif Nat.ble i 50 then (bif Nat.ble i 49 then (149, .ireturn, 0, 0, 0, []) else (150, .iconst 2, 0, 0, 2, [])) else (bif Nat.ble i 51 then (151, .aload_n 0, 0, 0, 0, []) else (152, .aload_n 1, 0, 0, 0, []))))))) else (bif Nat.ble i 79 then (bif Nat.ble i 65 then (bif Nat.ble i 58 then (bif Nat.ble i 55 then (bif Nat.ble i 53 then (153, .bipush 13, 0, 0, 13, []) else (bif Nat.ble i 54 then (155, .iload_n 3, 0, 0, 0, []) else (156, .iload 5, 0, 0, 0, []))) else (bif Nat.ble i 56 then (158, .invokevirtual 37, 13, 5, 0, []) else (bif Nat.ble i 57 then (161, .imul, 0, 0, 0, []) else (162, .ireturn, 0, 0, 0, [])))) else (bif Nat.ble i 61 then (bif Nat.ble i 59 then (163, .iload_n 3, 0, 0, 0, []) else (bif Nat.ble i 60 then (164, .ireturn, 0, 0, 0, []) else (165, .aload_n 0, 0, 0, 0, []))) else (bif Nat.ble i 63 then (bif Nat.ble i 62 then (166, .aload_n 1, 0, 0, 0, []) else (167, .bipush 20, 0, 0, 20, [])) else (bif Nat.ble i 64 then (169, .iload_n 3, 0, 0, 0, []) else (170, .iload 5, 0, 0, 0, []))))) else (bif Nat.ble i 72 then (bif Nat.ble i 68 then (bif Nat.ble i 66 then (172, .invokevirtual 37, 13, 5, 0, []) else (bif Nat.ble i 67 then (175, .aload_n 1, 0, 0, 0, []) else (176, .getfield 56, 9, 2, 0, []))) else (bif Nat.ble i 70 then (bif Nat.ble i 69 then (179, .iload_n 3, 0, 0, 0, []) else (180, .iaload, 0, 0, 0, [])) else (bif Nat.ble i 71 then (181, .iadd, 0, 0, 0, []) else (182, .ireturn, 0, 0, 0, [])))) else (bif Nat.ble i 75 then (bif Nat.ble i 73 then (183, .aload_n 0, 0, 0, 0, []) else (bif Nat.ble i 74 then (184, .aload_n 1, 0, 0, 0, []) else (185, .bipush 21, 0, 0, 21, []))) else (bif Nat.ble i 77 then (bif Nat.ble i 76 then (187, .iload_n 3, 0, 0, 0, []) else (188, .iload 5, 0, 0, 0, [])) else (bif Nat.ble i 78 then (190, .invokevirtual 37, 13, 5, 0, []) else (193, .sipush 1000, 0, 0, 1000, [])))))) else (bif Nat.ble i 92 then (bif Nat.ble i 85 then (bif Nat.ble i 82 then (bif Nat.ble i 80 then (196, .isub, 0, 0, 0, []) else (bif Nat.ble i 81 then (197, .ireturn, 0, 0, 0, []) else (198, .aload_n 0, 0, 0, 0, []))) else (bif Nat.ble i 83 then (199, .aload_n 1, 0, 0, 0, []) else (bif Nat.ble i 84 then (200, .bipush 20, 0, 0, 20, []) else (202, .iload_n 3, 0, 0, 0, [])))) else (bif Nat.ble i 88 then (bif Nat.ble i 86 then (203, .iload 5, 0, 0, 0, []) else (bif Nat.ble i 87 then (205, .invokevirtual 37, 13, 5, 0, []) else (208, .aload_n 0, 0, 0, 0, []))) else (bif Nat.ble i 90 then (bif Nat.ble i 89 then (209, .aload_n 1, 0, 0, 0, []) else (210, .iconst 0, 0, 0, 0, [])) else (bif Nat.ble i 91 then (211, .iload_n 3, 0, 0, 0, []) else (212, .iload 5, 0, 0, 0, []))))) else (bif Nat.ble i 99 then (bif Nat.ble i 95 then (bif Nat.ble i 93 then (214, .invokevirtual 19, 10, 5, 0, []) else (bif Nat.ble i 94 then (217, .isub, 0, 0, 0, []) else (218, .ireturn, 0, 0, 0, []))) else (bif Nat.ble i 97 then (bif Nat.ble i 96 then (219, .iconst 2, 0, 0, 2, []) else (220, .aload_n 0, 0, 0, 0, [])) else (bif Nat.ble i 98 then (221, .aload_n 1, 0, 0, 0, []) else (222, .bipush 21, 0, 0, 21, [])))) else (bif Nat.ble i 102 then (bif Nat.ble i 100 then (224, .iload_n 3, 0, 0, 0, []) else (bif Nat.ble i 101 then (225, .iload 5, 0, 0, 0, []) else (227, .invokevirtual 37, 13, 5, 0, []))) else (bif Nat.ble i 104 then (bif Nat.ble i 103 then (230, .imul, 0, 0, 0, []) else (231, .ireturn, 0, 0, 0, [])) else (bif Nat.ble i 105 then (232, .iconst 0, 0, 0, 0, []) else (233, .ireturn, 0, 0, 0, []))))))))
/-- GridQuarrels$County.<init>()V -/
def cd14 : Nat → mmE := fun i => (bif Nat.ble i 18 then (bif Nat.ble i 8 then (bif Nat.ble i 3 then (bif Nat.ble i 1 then (bif Nat.ble i 0 then (0, .aload_n 0, 0, 0, 0, []) else (1, .invokespecial 3, 0, 0, 0, [])) else (bif Nat.ble i 2 then (4, .aload_n 0, 0, 0, 0, []) else (5, .bipush 7, 0, 0, 7, []))) else (bif Nat.ble i 5 then (bif Nat.ble i 4 then (7, .newarray .int, 0, 0, 0, []) else (9, .putfield 9, 4, 2, 0, [])) else (bif Nat.ble i 6 then (12, .aload_n 0, 0, 0, 0, []) else (bif Nat.ble i 7 then (13, .bipush 7, 0, 0, 7, []) else (15, .newarray .int, 0, 0, 0, []))))) else (bif Nat.ble i 13 then (bif Nat.ble i 10 then (bif Nat.ble i 9 then (17, .putfield 15, 5, 2, 0, []) else (20, .aload_n 0, 0, 0, 0, [])) else (bif Nat.ble i 11 then (21, .bipush 7, 0, 0, 7, []) else (bif Nat.ble i 12 then (23, .newarray .int, 0, 0, 0, []) else (25, .putfield 18, 6, 2, 0, [])))) else (bif Nat.ble i 15 then (bif Nat.ble i 14 then (28, .aload_n 0, 0, 0, 0, []) else (29, .bipush 7, 0, 0, 7, [])) else (bif Nat.ble i 16 then (31, .newarray .int, 0, 0, 0, []) else (bif Nat.ble i 17 then (33, .putfield 21, 7, 2, 0, []) else (36, .aload_n 0, 0, 0, 0, [])))))) else (bif Nat.ble i 28 then (bif Nat.ble i 23 then (bif Nat.ble i 20 then (bif Nat.ble i 19 then (37, .iconst 5, 0, 0, 5, []) else (38, .newarray .int, 0, 0, 0, [])) else (bif Nat.ble i 21 then (40, .putfield 24, 8, 2, 0, []) else (bif Nat.ble i 22 then (43, .aload_n 0, 0, 0, 0, []) else (44, .iconst 5, 0, 0, 5, [])))) else (bif Nat.ble i 25 then (bif Nat.ble i 24 then (45, .newarray .int, 0, 0, 0, []) else (47, .putfield 27, 9, 2, 0, [])) else (bif Nat.ble i 26 then (50, .aload_n 0, 0, 0, 0, []) else (bif Nat.ble i 27 then (51, .iconst 5, 0, 0, 5, []) else (52, .newarray .int, 0, 0, 0, []))))) else (bif Nat.ble i 33 then (bif Nat.ble i 30 then (bif Nat.ble i 29 then (54, .putfield 30, 10, 2, 0, []) else (57, .aload_n 0, 0, 0, 0, [])) else (bif Nat.ble i 31 then (58, .iconst 5, 0, 0, 5, []) else (bif Nat.ble i 32 then (59, .newarray .int, 0, 0, 0, []) else (61, .putfield 33, 11, 2, 0, [])))) else (bif Nat.ble i 35 then (bif Nat.ble i 34 then (64, .aload_n 0, 0, 0, 0, []) else (65, .iconst 5, 0, 0, 5, [])) else (bif Nat.ble i 36 then (66, .newarray .int, 0, 0, 0, []) else (bif Nat.ble i 37 then (68, .putfield 36, 14, 2, 0, []) else (71, .return_, 0, 0, 0, [])))))))
/-- GridQuarrels$County.isTold()Z -/
def cd15 : Nat → mmE := fun i => (bif Nat.ble i 2 then (bif Nat.ble i 0 then (0, .aload_n 0, 0, 0, 0, []) else (bif Nat.ble i 1 then (1, .getfield 39, 0, 2, 0, []) else (4, .ifCond .le 7, 5, 0, 0, []))) else (bif Nat.ble i 4 then (bif Nat.ble i 3 then (7, .iconst 1, 0, 0, 1, []) else (8, .goto 4, 6, 0, 0, [])) else (bif Nat.ble i 5 then (11, .iconst 0, 0, 0, 0, []) else (12, .ireturn, 0, 0, 0, []))))
/-- GridQuarrels$County.isParish(I)Z -/
def cd16 : Nat → mmE := fun i => (bif Nat.ble i 3 then (bif Nat.ble i 1 then (bif Nat.ble i 0 then (0, .iload_n 1, 0, 0, 0, []) else (1, .iconst 0, 0, 0, 0, [])) else (bif Nat.ble i 2 then (2, .aload_n 0, 0, 0, 0, []) else (3, .getfield 39, 0, 2, 0, []))) else (bif Nat.ble i 5 then (bif Nat.ble i 4 then (6, .iconst 1, 0, 0, 1, []) else (7, .isub, 0, 0, 0, [])) else (bif Nat.ble i 6 then (8, .invokestatic 43, 150, 3, 0, []) else (11, .ireturn, 0, 0, 0, []))))
/-- GridQuarrels$County.isRoad(I)Z -/
def cd17 : Nat → mmE := fun i => (bif Nat.ble i 3 then (bif Nat.ble i 1 then (bif Nat.ble i 0 then (0, .iload_n 1, 0, 0, 0, []) else (1, .iconst 0, 0, 0, 0, [])) else (bif Nat.ble i 2 then (2, .aload_n 0, 0, 0, 0, []) else (3, .getfield 47, 1, 2, 0, []))) else (bif Nat.ble i 5 then (bif Nat.ble i 4 then (6, .iconst 1, 0, 0, 1, []) else (7, .isub, 0, 0, 0, [])) else (bif Nat.ble i 6 then (8, .invokestatic 43, 150, 3, 0, []) else (11, .ireturn, 0, 0, 0, []))))
/-- GridQuarrels$County.isQuarrel(I)Z -/
def cd18 : Nat → mmE := fun i => (bif Nat.ble i 3 then (bif Nat.ble i 1 then (bif Nat.ble i 0 then (0, .iload_n 1, 0, 0, 0, []) else (1, .iconst 0, 0, 0, 0, [])) else (bif Nat.ble i 2 then (2, .aload_n 0, 0, 0, 0, []) else (3, .getfield 50, 2, 2, 0, []))) else (bif Nat.ble i 5 then (bif Nat.ble i 4 then (6, .iconst 1, 0, 0, 1, []) else (7, .isub, 0, 0, 0, [])) else (bif Nat.ble i 6 then (8, .invokestatic 43, 150, 3, 0, []) else (11, .ireturn, 0, 0, 0, []))))
/-- GridQuarrels$County.isDead(I)Z -/
def cd19 : Nat → mmE := fun i => (bif Nat.ble i 3 then (bif Nat.ble i 1 then (bif Nat.ble i 0 then (0, .aload_n 0, 0, 0, 0, []) else (1, .getfield 30, 10, 2, 0, [])) else (bif Nat.ble i 2 then (4, .iload_n 1, 0, 0, 0, []) else (5, .iaload, 0, 0, 0, []))) else (bif Nat.ble i 5 then (bif Nat.ble i 4 then (6, .ifCond .ne 7, 7, 0, 0, []) else (9, .iconst 1, 0, 0, 1, [])) else (bif Nat.ble i 6 then (10, .goto 4, 8, 0, 0, []) else (bif Nat.ble i 7 then (13, .iconst 0, 0, 0, 0, []) else (14, .ireturn, 0, 0, 0, [])))))
/-- GridQuarrels$County.clear()V -/
def cd20 : Nat → mmE := fun i => (bif Nat.ble i 5 then (bif Nat.ble i 2 then (bif Nat.ble i 0 then (0, .aload_n 0, 0, 0, 0, []) else (bif Nat.ble i 1 then (1, .iconst 0, 0, 0, 0, []) else (2, .putfield 39, 0, 2, 0, []))) else (bif Nat.ble i 3 then (5, .aload_n 0, 0, 0, 0, []) else (bif Nat.ble i 4 then (6, .iconst 0, 0, 0, 0, []) else (7, .putfield 47, 1, 2, 0, [])))) else (bif Nat.ble i 8 then (bif Nat.ble i 6 then (10, .aload_n 0, 0, 0, 0, []) else (bif Nat.ble i 7 then (11, .iconst 0, 0, 0, 0, []) else (12, .putfield 50, 2, 2, 0, []))) else (bif Nat.ble i 10 then (bif Nat.ble i 9 then (15, .aload_n 0, 0, 0, 0, []) else (16, .iconst 0, 0, 0, 0, [])) else (bif Nat.ble i 11 then (17, .putfield 53, 3, 2, 0, []) else (20, .return_, 0, 0, 0, [])))))
/-- GridQuarrels$County.addParishes(II)V -/
def cd21 : Nat → mmE := fun i => (bif Nat.ble i 9 then (bif Nat.ble i 4 then (bif Nat.ble i 1 then (bif Nat.ble i 0 then (0, .aload_n 0, 0, 0, 0, []) else (1, .iload_n 1, 0, 0, 0, [])) else (bif Nat.ble i 2 then (2, .putfield 39, 0, 2, 0, []) else (bif Nat.ble i 3 then (5, .iconst 0, 0, 0, 0, []) else (6, .istore_n 3, 0, 0, 0, [])))) else (bif Nat.ble i 6 then (bif Nat.ble i 5 then (7, .iload_n 3, 0, 0, 0, []) else (8, .bipush 7, 0, 0, 7, [])) else (bif Nat.ble i 7 then (10, .if_icmp .ge 25, 20, 0, 0, []) else (bif Nat.ble i 8 then (13, .aload_n 0, 0, 0, 0, []) else (14, .getfield 9, 4, 2, 0, []))))) else (bif Nat.ble i 14 then (bif Nat.ble i 11 then (bif Nat.ble i 10 then (17, .iload_n 3, 0, 0, 0, []) else (18, .iload_n 3, 0, 0, 0, [])) else (bif Nat.ble i 12 then (19, .iload_n 1, 0, 0, 0, []) else (bif Nat.ble i 13 then (20, .if_icmp .ge 7, 16, 0, 0, []) else (23, .iload_n 2, 0, 0, 0, [])))) else (bif Nat.ble i 17 then (bif Nat.ble i 15 then (24, .goto 4, 17, 0, 0, []) else (bif Nat.ble i 16 then (27, .iconst 0, 0, 0, 0, []) else (28, .iastore, 0, 0, 0, []))) else (bif Nat.ble i 18 then (29, .iinc 3 1, 0, 0, 1, []) else (bif Nat.ble i 19 then (32, .goto (-25), 5, 0, 0, []) else (35, .return_, 0, 0, 0, []))))))
/-- GridQuarrels$County.addRoad(III)V -/
def cd22 : Nat → mmE := fun i => (bif Nat.ble i 14 then (bif Nat.ble i 6 then (bif Nat.ble i 2 then (bif Nat.ble i 0 then (0, .aload_n 0, 0, 0, 0, []) else (bif Nat.ble i 1 then (1, .getfield 47, 1, 2, 0, []) else (4, .bipush 7, 0, 0, 7, []))) else (bif Nat.ble i 4 then (bif Nat.ble i 3 then (6, .if_icmp .lt 4, 5, 0, 0, []) else (9, .return_, 0, 0, 0, [])) else (bif Nat.ble i 5 then (10, .aload_n 0, 0, 0, 0, []) else (11, .getfield 15, 5, 2, 0, [])))) else (bif Nat.ble i 10 then (bif Nat.ble i 8 then (bif Nat.ble i 7 then (14, .aload_n 0, 0, 0, 0, []) else (15, .getfield 47, 1, 2, 0, [])) else (bif Nat.ble i 9 then (18, .iload_n 1, 0, 0, 0, []) else (19, .iastore, 0, 0, 0, []))) else (bif Nat.ble i 12 then (bif Nat.ble i 11 then (20, .aload_n 0, 0, 0, 0, []) else (21, .getfield 18, 6, 2, 0, [])) else (bif Nat.ble i 13 then (24, .aload_n 0, 0, 0, 0, []) else (25, .getfield 47, 1, 2, 0, []))))) else (bif Nat.ble i 21 then (bif Nat.ble i 17 then (bif Nat.ble i 15 then (28, .iload_n 2, 0, 0, 0, []) else (bif Nat.ble i 16 then (29, .iastore, 0, 0, 0, []) else (30, .aload_n 0, 0, 0, 0, []))) else (bif Nat.ble i 19 then (bif Nat.ble i 18 then (31, .getfield 21, 7, 2, 0, []) else (34, .aload_n 0, 0, 0, 0, [])) else (bif Nat.ble i 20 then (35, .getfield 47, 1, 2, 0, []) else (38, .iload_n 3, 0, 0, 0, [])))) else (bif Nat.ble i 25 then (bif Nat.ble i 23 then (bif Nat.ble i 22 then (39, .iastore, 0, 0, 0, []) else (40, .aload_n 0, 0, 0, 0, [])) else (bif Nat.ble i 24 then (41, .dup, 0, 0, 0, []) else (42, .getfield 47, 1, 2, 0, []))) else (bif Nat.ble i 27 then (bif Nat.ble i 26 then (45, .iconst 1, 0, 0, 1, []) else (46, .iadd, 0, 0, 0, [])) else (bif Nat.ble i 28 then (47, .putfield 47, 1, 2, 0, []) else (50, .return_, 0, 0, 0, []))))))
/-- GridQuarrels$County.addQuarrel(IIII)V -/
def cd23 : Nat → mmE := fun i => (bif Nat.ble i 17 then (bif Nat.ble i 8 then (bif Nat.ble i 3 then (bif Nat.ble i 1 then (bif Nat.ble i 0 then (0, .aload_n 0, 0, 0, 0, []) else (1, .getfield 50, 2, 2, 0, [])) else (bif Nat.ble i 2 then (4, .iconst 5, 0, 0, 5, []) else (5, .if_icmp .lt 4, 5, 0, 0, []))) else (bif Nat.ble i 5 then (bif Nat.ble i 4 then (8, .return_, 0, 0, 0, []) else (9, .aload_n 0, 0, 0, 0, [])) else (bif Nat.ble i 6 then (10, .getfield 24, 8, 2, 0, []) else (bif Nat.ble i 7 then (13, .aload_n 0, 0, 0, 0, []) else (14, .getfield 50, 2, 2, 0, []))))) else (bif Nat.ble i 12 then (bif Nat.ble i 10 then (bif Nat.ble i 9 then (17, .iload_n 1, 0, 0, 0, []) else (18, .iastore, 0, 0, 0, [])) else (bif Nat.ble i 11 then (19, .aload_n 0, 0, 0, 0, []) else (20, .getfield 27, 9, 2, 0, []))) else (bif Nat.ble i 14 then (bif Nat.ble i 13 then (23, .aload_n 0, 0, 0, 0, []) else (24, .getfield 50, 2, 2, 0, [])) else (bif Nat.ble i 15 then (27, .iload_n 2, 0, 0, 0, []) else (bif Nat.ble i 16 then (28, .iastore, 0, 0, 0, []) else (29, .aload_n 0, 0, 0, 0, [])))))) else (bif Nat.ble i 26 then (bif Nat.ble i 21 then (bif Nat.ble i 19 then (bif Nat.ble i 18 then (30, .getfield 30, 10, 2, 0, []) else (33, .aload_n 0, 0, 0, 0, [])) else (bif Nat.ble i 20 then (34, .getfield 50, 2, 2, 0, []) else (37, .iload_n 3, 0, 0, 0, []))) else (bif Nat.ble i 23 then (bif Nat.ble i 22 then (38, .iastore, 0, 0, 0, []) else (39, .aload_n 0, 0, 0, 0, [])) else (bif Nat.ble i 24 then (40, .getfield 33, 11, 2, 0, []) else (bif Nat.ble i 25 then (43, .aload_n 0, 0, 0, 0, []) else (44, .getfield 50, 2, 2, 0, []))))) else (bif Nat.ble i 30 then (bif Nat.ble i 28 then (bif Nat.ble i 27 then (47, .iload 4, 0, 0, 0, []) else (49, .iastore, 0, 0, 0, [])) else (bif Nat.ble i 29 then (50, .aload_n 0, 0, 0, 0, []) else (51, .dup, 0, 0, 0, []))) else (bif Nat.ble i 32 then (bif Nat.ble i 31 then (52, .getfield 50, 2, 2, 0, []) else (55, .iconst 1, 0, 0, 1, [])) else (bif Nat.ble i 33 then (56, .iadd, 0, 0, 0, []) else (bif Nat.ble i 34 then (57, .putfield 50, 2, 2, 0, []) else (60, .return_, 0, 0, 0, [])))))))
/-- GridQuarrels$County.become(LGridQuarrels$County;)V -/
def cd24 : Nat → mmE := fun i => (bif Nat.ble i 48 then (bif Nat.ble i 23 then (bif Nat.ble i 11 then (bif Nat.ble i 5 then (bif Nat.ble i 2 then (bif Nat.ble i 0 then (0, .aload_n 0, 0, 0, 0, []) else (bif Nat.ble i 1 then (1, .aload_n 1, 0, 0, 0, []) else (2, .getfield 39, 0, 2, 0, []))) else (bif Nat.ble i 3 then (5, .putfield 39, 0, 2, 0, []) else (bif Nat.ble i 4 then (8, .aload_n 0, 0, 0, 0, []) else (9, .aload_n 1, 0, 0, 0, [])))) else (bif Nat.ble i 8 then (bif Nat.ble i 6 then (10, .getfield 47, 1, 2, 0, []) else (bif Nat.ble i 7 then (13, .putfield 47, 1, 2, 0, []) else (16, .aload_n 0, 0, 0, 0, []))) else (bif Nat.ble i 9 then (17, .aload_n 1, 0, 0, 0, []) else (bif Nat.ble i 10 then (18, .getfield 50, 2, 2, 0, []) else (21, .putfield 50, 2, 2, 0, []))))) else (bif Nat.ble i 17 then (bif Nat.ble i 14 then (bif Nat.ble i 12 then (24, .aload_n 0, 0, 0, 0, []) else (bif Nat.ble i 13 then (25, .aload_n 1, 0, 0, 0, []) else (26, .getfield 53, 3, 2, 0, []))) else (bif Nat.ble i 15 then (29, .putfield 53, 3, 2, 0, []) else (bif Nat.ble i 16 then (32, .aload_n 1, 0, 0, 0, []) else (33, .getfield 9, 4, 2, 0, [])))) else (bif Nat.ble i 20 then (bif Nat.ble i 18 then (36, .iconst 0, 0, 0, 0, []) else (bif Nat.ble i 19 then (37, .aload_n 0, 0, 0, 0, []) else (38, .getfield 9, 4, 2, 0, []))) else (bif Nat.ble i 21 then (41, .iconst 0, 0, 0, 0, []) else (bif Nat.ble i 22 then (42, .bipush 7, 0, 0, 7, []) else (44, .invokestatic 56, 0, 99, 0, [])))))) else (bif Nat.ble i 35 then (bif Nat.ble i 29 then (bif Nat.ble i 26 then (bif Nat.ble i 24 then (47, .aload_n 1, 0, 0, 0, []) else (bif Nat.ble i 25 then (48, .getfield 15, 5, 2, 0, []) else (51, .iconst 0, 0, 0, 0, []))) else (bif Nat.ble i 27 then (52, .aload_n 0, 0, 0, 0, []) else (bif Nat.ble i 28 then (53, .getfield 15, 5, 2, 0, []) else (56, .iconst 0, 0, 0, 0, [])))) else (bif Nat.ble i 32 then (bif Nat.ble i 30 then (57, .bipush 7, 0, 0, 7, []) else (bif Nat.ble i 31 then (59, .invokestatic 56, 0, 99, 0, []) else (62, .aload_n 1, 0, 0, 0, []))) else (bif Nat.ble i 33 then (63, .getfield 18, 6, 2, 0, []) else (bif Nat.ble i 34 then (66, .iconst 0, 0, 0, 0, []) else (67, .aload_n 0, 0, 0, 0, []))))) else (bif Nat.ble i 41 then (bif Nat.ble i 38 then (bif Nat.ble i 36 then (68, .getfield 18, 6, 2, 0, []) else (bif Nat.ble i 37 then (71, .iconst 0, 0, 0, 0, []) else (72, .bipush 7, 0, 0, 7, []))) else (bif Nat.ble i 39 then (74, .invokestatic 56, 0, 99, 0, []) else (bif Nat.ble i 40 then (77, .aload_n 1, 0, 0, 0, []) else (78, .getfield 21, 7, 2, 0, [])))) else (bif Nat.ble i 44 then (bif Nat.ble i 42 then (81, .iconst 0, 0, 0, 0, []) else (bif Nat.ble i 43 then (82, .aload_n 0, 0, 0, 0, []) else (83, .getfield 21, 7, 2, 0, []))) else (bif Nat.ble i 46 then (bif Nat.ble i 45 then (86, .iconst 0, 0, 0, 0, []) else (87, .bipush 7, 0, 0, 7, [])) else (bif Nat.ble i 47 then (89, .invokestatic 56, 0, 99, 0, []) else (92, .aload_n 1, 0, 0, 0, []))))))) else (bif Nat.ble i 73 then (bif Nat.ble i 60 then (bif Nat.ble i 54 then (bif Nat.ble i 51 then (bif Nat.ble i 49 then (93, .getfield 24, 8, 2, 0, []) else (bif Nat.ble i 50 then (96, .iconst 0, 0, 0, 0, []) else (97, .aload_n 0, 0, 0, 0, []))) else (bif Nat.ble i 52 then (98, .getfield 24, 8, 2, 0, []) else (bif Nat.ble i 53 then (101, .iconst 0, 0, 0, 0, []) else (102, .iconst 5, 0, 0, 5, [])))) else (bif Nat.ble i 57 then (bif Nat.ble i 55 then (103, .invokestatic 56, 0, 99, 0, []) else (bif Nat.ble i 56 then (106, .aload_n 1, 0, 0, 0, []) else (107, .getfield 27, 9, 2, 0, []))) else (bif Nat.ble i 58 then (110, .iconst 0, 0, 0, 0, []) else (bif Nat.ble i 59 then (111, .aload_n 0, 0, 0, 0, []) else (112, .getfield 27, 9, 2, 0, []))))) else (bif Nat.ble i 66 then (bif Nat.ble i 63 then (bif Nat.ble i 61 then (115, .iconst 0, 0, 0, 0, []) else (bif Nat.ble i 62 then (116, .iconst 5, 0, 0, 5, []) else (117, .invokestatic 56, 0, 99, 0, []))) else (bif Nat.ble i 64 then (120, .aload_n 1, 0, 0, 0, []) else (bif Nat.ble i 65 then (121, .getfield 30, 10, 2, 0, []) else (124, .iconst 0, 0, 0, 0, [])))) else (bif Nat.ble i 69 then (bif Nat.ble i 67 then (125, .aload_n 0, 0, 0, 0, []) else (bif Nat.ble i 68 then (126, .getfield 30, 10, 2, 0, []) else (129, .iconst 0, 0, 0, 0, []))) else (bif Nat.ble i 71 then (bif Nat.ble i 70 then (130, .iconst 5, 0, 0, 5, []) else (131, .invokestatic 56, 0, 99, 0, [])) else (bif Nat.ble i 72 then (134, .aload_n 1, 0, 0, 0, []) else (135, .getfield 33, 11, 2, 0, [])))))) else (bif Nat.ble i 85 then (bif Nat.ble i 79 then (bif Nat.ble i 76 then (bif Nat.ble i 74 then (138, .iconst 0, 0, 0, 0, []) else (bif Nat.ble i 75 then (139, .aload_n 0, 0, 0, 0, []) else (140, .getfield 33, 11, 2, 0, []))) else (bif Nat.ble i 77 then (143, .iconst 0, 0, 0, 0, []) else (bif Nat.ble i 78 then (144, .iconst 5, 0, 0, 5, []) else (145, .invokestatic 56, 0, 99, 0, [])))) else (bif Nat.ble i 82 then (bif Nat.ble i 80 then (148, .aload_n 0, 0, 0, 0, []) else (bif Nat.ble i 81 then (149, .iconst 0, 0, 0, 0, []) else (150, .putfield 62, 12, 2, 0, []))) else (bif Nat.ble i 83 then (153, .aload_n 0, 0, 0, 0, []) else (bif Nat.ble i 84 then (154, .iconst 0, 0, 0, 0, []) else (155, .putfield 65, 13, 2, 0, []))))) else (bif Nat.ble i 91 then (bif Nat.ble i 88 then (bif Nat.ble i 86 then (158, .iconst 0, 0, 0, 0, []) else (bif Nat.ble i 87 then (159, .istore_n 2, 0, 0, 0, []) else (160, .iload_n 2, 0, 0, 0, []))) else (bif Nat.ble i 89 then (161, .iconst 5, 0, 0, 5, []) else (bif Nat.ble i 90 then (162, .if_icmp .ge 16, 98, 0, 0, []) else (165, .aload_n 0, 0, 0, 0, [])))) else (bif Nat.ble i 94 then (bif Nat.ble i 92 then (166, .getfield 36, 14, 2, 0, []) else (bif Nat.ble i 93 then (169, .iload_n 2, 0, 0, 0, []) else (170, .iconst 0, 0, 0, 0, []))) else (bif Nat.ble i 96 then (bif Nat.ble i 95 then (171, .iastore, 0, 0, 0, []) else (172, .iinc 2 1, 0, 0, 1, [])) else (bif Nat.ble i 97 then (175, .goto (-15), 88, 0, 0, []) else (178, .return_, 0, 0, 0, []))))))))
/-- GridQuarrels$County.writeTo([I)V -/
def cd25 : Nat → mmE := fun i => (bif Nat.ble i 16 then (bif Nat.ble i 7 then (bif Nat.ble i 3 then (bif Nat.ble i 1 then (bif Nat.ble i 0 then (0, .aload_n 1, 0, 0, 0, []) else (1, .iconst 0, 0, 0, 0, [])) else (bif Nat.ble i 2 then (2, .aload_n 0, 0, 0, 0, []) else (3, .getfield 53, 3, 2, 0, []))) else (bif Nat.ble i 5 then (bif Nat.ble i 4 then (6, .iastore, 0, 0, 0, []) else (7, .aload_n 0, 0, 0, 0, [])) else (bif Nat.ble i 6 then (8, .getfield 9, 4, 2, 0, []) else (11, .iconst 0, 0, 0, 0, [])))) else (bif Nat.ble i 11 then (bif Nat.ble i 9 then (bif Nat.ble i 8 then (12, .aload_n 1, 0, 0, 0, []) else (13, .iconst 1, 0, 0, 1, [])) else (bif Nat.ble i 10 then (14, .bipush 7, 0, 0, 7, []) else (16, .invokestatic 56, 0, 99, 0, []))) else (bif Nat.ble i 13 then (bif Nat.ble i 12 then (19, .aload_n 0, 0, 0, 0, []) else (20, .getfield 21, 7, 2, 0, [])) else (bif Nat.ble i 14 then (23, .iconst 0, 0, 0, 0, []) else (bif Nat.ble i 15 then (24, .aload_n 1, 0, 0, 0, []) else (25, .bipush 8, 0, 0, 8, [])))))) else (bif Nat.ble i 24 then (bif Nat.ble i 20 then (bif Nat.ble i 18 then (bif Nat.ble i 17 then (27, .bipush 7, 0, 0, 7, []) else (29, .invokestatic 56, 0, 99, 0, [])) else (bif Nat.ble i 19 then (32, .aload_n 0, 0, 0, 0, []) else (33, .getfield 27, 9, 2, 0, []))) else (bif Nat.ble i 22 then (bif Nat.ble i 21 then (36, .iconst 0, 0, 0, 0, []) else (37, .aload_n 1, 0, 0, 0, [])) else (bif Nat.ble i 23 then (38, .bipush 15, 0, 0, 15, []) else (40, .iconst 5, 0, 0, 5, [])))) else (bif Nat.ble i 28 then (bif Nat.ble i 26 then (bif Nat.ble i 25 then (41, .invokestatic 56, 0, 99, 0, []) else (44, .aload_n 0, 0, 0, 0, [])) else (bif Nat.ble i 27 then (45, .getfield 30, 10, 2, 0, []) else (48, .iconst 0, 0, 0, 0, []))) else (bif Nat.ble i 30 then (bif Nat.ble i 29 then (49, .aload_n 1, 0, 0, 0, []) else (50, .bipush 20, 0, 0, 20, [])) else (bif Nat.ble i 31 then (52, .iconst 5, 0, 0, 5, []) else (bif Nat.ble i 32 then (53, .invokestatic 56, 0, 99, 0, []) else (56, .return_, 0, 0, 0, [])))))))
/-- GridQuarrels$County.readFrom([I)V -/
def cd26 : Nat → mmE := fun i => (bif Nat.ble i 16 then (bif Nat.ble i 7 then (bif Nat.ble i 3 then (bif Nat.ble i 1 then (bif Nat.ble i 0 then (0, .aload_n 0, 0, 0, 0, []) else (1, .aload_n 1, 0, 0, 0, [])) else (bif Nat.ble i 2 then (2, .iconst 0, 0, 0, 0, []) else (3, .iaload, 0, 0, 0, []))) else (bif Nat.ble i 5 then (bif Nat.ble i 4 then (4, .putfield 53, 3, 2, 0, []) else (7, .aload_n 1, 0, 0, 0, [])) else (bif Nat.ble i 6 then (8, .iconst 1, 0, 0, 1, []) else (9, .aload_n 0, 0, 0, 0, [])))) else (bif Nat.ble i 11 then (bif Nat.ble i 9 then (bif Nat.ble i 8 then (10, .getfield 9, 4, 2, 0, []) else (13, .iconst 0, 0, 0, 0, [])) else (bif Nat.ble i 10 then (14, .bipush 7, 0, 0, 7, []) else (16, .invokestatic 56, 0, 99, 0, []))) else (bif Nat.ble i 13 then (bif Nat.ble i 12 then (19, .aload_n 1, 0, 0, 0, []) else (20, .bipush 8, 0, 0, 8, [])) else (bif Nat.ble i 14 then (22, .aload_n 0, 0, 0, 0, []) else (bif Nat.ble i 15 then (23, .getfield 21, 7, 2, 0, []) else (26, .iconst 0, 0, 0, 0, [])))))) else (bif Nat.ble i 24 then (bif Nat.ble i 20 then (bif Nat.ble i 18 then (bif Nat.ble i 17 then (27, .bipush 7, 0, 0, 7, []) else (29, .invokestatic 56, 0, 99, 0, [])) else (bif Nat.ble i 19 then (32, .aload_n 1, 0, 0, 0, []) else (33, .bipush 15, 0, 0, 15, []))) else (bif Nat.ble i 22 then (bif Nat.ble i 21 then (35, .aload_n 0, 0, 0, 0, []) else (36, .getfield 27, 9, 2, 0, [])) else (bif Nat.ble i 23 then (39, .iconst 0, 0, 0, 0, []) else (40, .iconst 5, 0, 0, 5, [])))) else (bif Nat.ble i 28 then (bif Nat.ble i 26 then (bif Nat.ble i 25 then (41, .invokestatic 56, 0, 99, 0, []) else (44, .aload_n 1, 0, 0, 0, [])) else (bif Nat.ble i 27 then (45, .bipush 20, 0, 0, 20, []) else (47, .aload_n 0, 0, 0, 0, []))) else (bif Nat.ble i 30 then (bif Nat.ble i 29 then (48, .getfield 30, 10, 2, 0, []) else (51, .iconst 0, 0, 0, 0, [])) else (bif Nat.ble i 31 then (52, .iconst 5, 0, 0, 5, []) else (bif Nat.ble i 32 then (53, .invokestatic 56, 0, 99, 0, []) else (56, .return_, 0, 0, 0, [])))))))
/-- GridQuarrels$County.touches(II)Z -/
def cd27 : Nat → mmE := fun i => (bif Nat.ble i 7 then (bif Nat.ble i 3 then (bif Nat.ble i 1 then (bif Nat.ble i 0 then (0, .aload_n 0, 0, 0, 0, []) else (1, .getfield 15, 5, 2, 0, [])) else (bif Nat.ble i 2 then (4, .iload_n 1, 0, 0, 0, []) else (5, .iaload, 0, 0, 0, []))) else (bif Nat.ble i 5 then (bif Nat.ble i 4 then (6, .iload_n 2, 0, 0, 0, []) else (7, .if_icmp .eq 13, 12, 0, 0, [])) else (bif Nat.ble i 6 then (10, .aload_n 0, 0, 0, 0, []) else (11, .getfield 18, 6, 2, 0, [])))) else (bif Nat.ble i 11 then (bif Nat.ble i 9 then (bif Nat.ble i 8 then (14, .iload_n 1, 0, 0, 0, []) else (15, .iaload, 0, 0, 0, [])) else (bif Nat.ble i 10 then (16, .iload_n 2, 0, 0, 0, []) else (17, .if_icmp .ne 7, 14, 0, 0, []))) else (bif Nat.ble i 13 then (bif Nat.ble i 12 then (20, .iconst 1, 0, 0, 1, []) else (21, .goto 4, 15, 0, 0, [])) else (bif Nat.ble i 14 then (24, .iconst 0, 0, 0, 0, []) else (25, .ireturn, 0, 0, 0, [])))))
/-- GridQuarrels$County.farEnd(II)I -/
def cd28 : Nat → mmE := fun i => (bif Nat.ble i 7 then (bif Nat.ble i 3 then (bif Nat.ble i 1 then (bif Nat.ble i 0 then (0, .aload_n 0, 0, 0, 0, []) else (1, .getfield 15, 5, 2, 0, [])) else (bif Nat.ble i 2 then (4, .iload_n 1, 0, 0, 0, []) else (5, .iaload, 0, 0, 0, []))) else (bif Nat.ble i 5 then (bif Nat.ble i 4 then (6, .iload_n 2, 0, 0, 0, []) else (7, .if_icmp .ne 12, 11, 0, 0, [])) else (bif Nat.ble i 6 then (10, .aload_n 0, 0, 0, 0, []) else (11, .getfield 18, 6, 2, 0, [])))) else (bif Nat.ble i 11 then (bif Nat.ble i 9 then (bif Nat.ble i 8 then (14, .iload_n 1, 0, 0, 0, []) else (15, .iaload, 0, 0, 0, [])) else (bif Nat.ble i 10 then (16, .goto 9, 15, 0, 0, []) else (19, .aload_n 0, 0, 0, 0, []))) else (bif Nat.ble i 13 then (bif Nat.ble i 12 then (20, .getfield 15, 5, 2, 0, []) else (23, .iload_n 1, 0, 0, 0, [])) else (bif Nat.ble i 14 then (24, .iaload, 0, 0, 0, []) else (25, .ireturn, 0, 0, 0, [])))))
/-- GridQuarrels$County.crosses(II)Z -/
def cd29 : Nat → mmE := fun i => (bif Nat.ble i 20 then (bif Nat.ble i 9 then (bif Nat.ble i 4 then (bif Nat.ble i 1 then (bif Nat.ble i 0 then (0, .aload_n 0, 0, 0, 0, []) else (1, .getfield 24, 8, 2, 0, [])) else (bif Nat.ble i 2 then (4, .iload_n 1, 0, 0, 0, []) else (bif Nat.ble i 3 then (5, .iaload, 0, 0, 0, []) else (6, .lookupswitch 64 #[(2, 26), (3, 49)], 29, 0, 0, [(2, 5), (3, 20)])))) else (bif Nat.ble i 6 then (bif Nat.ble i 5 then (32, .aload_n 0, 0, 0, 0, []) else (33, .getfield 21, 7, 2, 0, [])) else (bif Nat.ble i 7 then (36, .iload_n 2, 0, 0, 0, []) else (bif Nat.ble i 8 then (37, .iaload, 0, 0, 0, []) else (38, .aload_n 0, 0, 0, 0, []))))) else (bif Nat.ble i 14 then (bif Nat.ble i 11 then (bif Nat.ble i 10 then (39, .getfield 30, 10, 2, 0, []) else (42, .iload_n 1, 0, 0, 0, [])) else (bif Nat.ble i 12 then (43, .iaload, 0, 0, 0, []) else (bif Nat.ble i 13 then (44, .iconst 3, 0, 0, 3, []) else (45, .iadd, 0, 0, 0, [])))) else (bif Nat.ble i 17 then (bif Nat.ble i 15 then (46, .if_icmp .ge 7, 18, 0, 0, []) else (bif Nat.ble i 16 then (49, .iconst 1, 0, 0, 1, []) else (50, .goto 4, 19, 0, 0, []))) else (bif Nat.ble i 18 then (53, .iconst 0, 0, 0, 0, []) else (bif Nat.ble i 19 then (54, .ireturn, 0, 0, 0, []) else (55, .aload_n 0, 0, 0, 0, [])))))) else (bif Nat.ble i 30 then (bif Nat.ble i 25 then (bif Nat.ble i 22 then (bif Nat.ble i 21 then (56, .getfield 21, 7, 2, 0, []) else (59, .iload_n 2, 0, 0, 0, [])) else (bif Nat.ble i 23 then (60, .iaload, 0, 0, 0, []) else (bif Nat.ble i 24 then (61, .ifCond .ne 7, 27, 0, 0, []) else (64, .iconst 1, 0, 0, 1, [])))) else (bif Nat.ble i 27 then (bif Nat.ble i 26 then (65, .goto 4, 28, 0, 0, []) else (68, .iconst 0, 0, 0, 0, [])) else (bif Nat.ble i 28 then (69, .ireturn, 0, 0, 0, []) else (bif Nat.ble i 29 then (70, .aload_n 0, 0, 0, 0, []) else (71, .getfield 21, 7, 2, 0, []))))) else (bif Nat.ble i 35 then (bif Nat.ble i 32 then (bif Nat.ble i 31 then (74, .iload_n 2, 0, 0, 0, []) else (75, .iaload, 0, 0, 0, [])) else (bif Nat.ble i 33 then (76, .aload_n 0, 0, 0, 0, []) else (bif Nat.ble i 34 then (77, .getfield 30, 10, 2, 0, []) else (80, .iload_n 1, 0, 0, 0, [])))) else (bif Nat.ble i 38 then (bif Nat.ble i 36 then (81, .iaload, 0, 0, 0, []) else (bif Nat.ble i 37 then (82, .if_icmp .ge 7, 40, 0, 0, []) else (85, .iconst 1, 0, 0, 1, []))) else (bif Nat.ble i 39 then (86, .goto 4, 41, 0, 0, []) else (bif Nat.ble i 40 then (89, .iconst 0, 0, 0, 0, []) else (90, .ireturn, 0, 0, 0, [])))))))
/-- GridQuarrels$County.wouldGo(I)Z -/
def cd30 : Nat → mmE := fun i => (bif Nat.ble i 12 then (bif Nat.ble i 5 then (bif Nat.ble i 2 then (bif Nat.ble i 0 then (0, .aload_n 0, 0, 0, 0, []) else (bif Nat.ble i 1 then (1, .getfield 24, 8, 2, 0, []) else (4, .iload_n 1, 0, 0, 0, []))) else (bif Nat.ble i 3 then (5, .iaload, 0, 0, 0, []) else (bif Nat.ble i 4 then (6, .iconst 4, 0, 0, 4, []) else (7, .if_icmp .eq 13, 12, 0, 0, [])))) else (bif Nat.ble i 8 then (bif Nat.ble i 6 then (10, .aload_n 0, 0, 0, 0, []) else (bif Nat.ble i 7 then (11, .getfield 24, 8, 2, 0, []) else (14, .iload_n 1, 0, 0, 0, []))) else (bif Nat.ble i 10 then (bif Nat.ble i 9 then (15, .iaload, 0, 0, 0, []) else (16, .iconst 5, 0, 0, 5, [])) else (bif Nat.ble i 11 then (17, .if_icmp .ne 23, 24, 0, 0, []) else (20, .aload_n 0, 0, 0, 0, []))))) else (bif Nat.ble i 18 then (bif Nat.ble i 15 then (bif Nat.ble i 13 then (21, .getfield 9, 4, 2, 0, []) else (bif Nat.ble i 14 then (24, .aload_n 0, 0, 0, 0, []) else (25, .getfield 27, 9, 2, 0, []))) else (bif Nat.ble i 16 then (28, .iload_n 1, 0, 0, 0, []) else (bif Nat.ble i 17 then (29, .iaload, 0, 0, 0, []) else (30, .iaload, 0, 0, 0, [])))) else (bif Nat.ble i 21 then (bif Nat.ble i 19 then (31, .ifCond .ne 7, 22, 0, 0, []) else (bif Nat.ble i 20 then (34, .iconst 1, 0, 0, 1, []) else (35, .goto 4, 23, 0, 0, []))) else (bif Nat.ble i 23 then (bif Nat.ble i 22 then (38, .iconst 0, 0, 0, 0, []) else (39, .ireturn, 0, 0, 0, [])) else (bif Nat.ble i 24 then (40, .iconst 1, 0, 0, 1, []) else (41, .ireturn, 0, 0, 0, []))))))
/-- GridQuarrels$County.nextPlace(I)I -/
def cd31 : Nat → mmE := fun i => (bif Nat.ble i 26 then (bif Nat.ble i 12 then (bif Nat.ble i 5 then (bif Nat.ble i 2 then (bif Nat.ble i 0 then (0, .aload_n 0, 0, 0, 0, []) else (bif Nat.ble i 1 then (1, .getfield 27, 9, 2, 0, []) else (4, .iload_n 1, 0, 0, 0, []))) else (bif Nat.ble i 3 then (5, .iaload, 0, 0, 0, []) else (bif Nat.ble i 4 then (6, .istore_n 2, 0, 0, 0, []) else (7, .iload_n 2, 0, 0, 0, [])))) else (bif Nat.ble i 8 then (bif Nat.ble i 6 then (8, .istore_n 3, 0, 0, 0, []) else (bif Nat.ble i 7 then (9, .aload_n 0, 0, 0, 0, []) else (10, .iload_n 1, 0, 0, 0, []))) else (bif Nat.ble i 10 then (bif Nat.ble i 9 then (11, .invokevirtual 68, 19, 2, 0, []) else (14, .ifCond .ne 11, 15, 0, 0, [])) else (bif Nat.ble i 11 then (17, .aload_n 0, 0, 0, 0, []) else (18, .iload_n 1, 0, 0, 0, []))))) else (bif Nat.ble i 19 then (bif Nat.ble i 15 then (bif Nat.ble i 13 then (19, .invokevirtual 72, 30, 2, 0, []) else (bif Nat.ble i 14 then (22, .ifCond .ne 5, 17, 0, 0, []) else (25, .iload_n 2, 0, 0, 0, []))) else (bif Nat.ble i 17 then (bif Nat.ble i 16 then (26, .ireturn, 0, 0, 0, []) else (27, .iconst 0, 0, 0, 0, [])) else (bif Nat.ble i 18 then (28, .istore 4, 0, 0, 0, []) else (30, .iload 4, 0, 0, 0, [])))) else (bif Nat.ble i 22 then (bif Nat.ble i 20 then (32, .aload_n 0, 0, 0, 0, []) else (bif Nat.ble i 21 then (33, .getfield 47, 1, 2, 0, []) else (36, .if_icmp .ge 58, 52, 0, 0, []))) else (bif Nat.ble i 24 then (bif Nat.ble i 23 then (39, .aload_n 0, 0, 0, 0, []) else (40, .iload 4, 0, 0, 0, [])) else (bif Nat.ble i 25 then (42, .iload_n 2, 0, 0, 0, []) else (43, .invokevirtual 75, 27, 3, 0, [])))))) else (bif Nat.ble i 39 then (bif Nat.ble i 32 then (bif Nat.ble i 29 then (bif Nat.ble i 27 then (46, .ifCond .eq 42, 50, 0, 0, []) else (bif Nat.ble i 28 then (49, .aload_n 0, 0, 0, 0, []) else (50, .iload_n 1, 0, 0, 0, []))) else (bif Nat.ble i 30 then (51, .iload 4, 0, 0, 0, []) else (bif Nat.ble i 31 then (53, .invokevirtual 79, 29, 3, 0, []) else (56, .ifCond .eq 32, 50, 0, 0, [])))) else (bif Nat.ble i 35 then (bif Nat.ble i 33 then (59, .aload_n 0, 0, 0, 0, []) else (bif Nat.ble i 34 then (60, .getfield 9, 4, 2, 0, []) else (63, .aload_n 0, 0, 0, 0, []))) else (bif Nat.ble i 37 then (bif Nat.ble i 36 then (64, .iload 4, 0, 0, 0, []) else (66, .iload_n 2, 0, 0, 0, [])) else (bif Nat.ble i 38 then (67, .invokevirtual 82, 28, 3, 0, []) else (70, .iaload, 0, 0, 0, []))))) else (bif Nat.ble i 46 then (bif Nat.ble i 42 then (bif Nat.ble i 40 then (71, .aload_n 0, 0, 0, 0, []) else (bif Nat.ble i 41 then (72, .getfield 9, 4, 2, 0, []) else (75, .iload_n 3, 0, 0, 0, []))) else (bif Nat.ble i 44 then (bif Nat.ble i 43 then (76, .iaload, 0, 0, 0, []) else (77, .if_icmp .le 11, 50, 0, 0, [])) else (bif Nat.ble i 45 then (80, .aload_n 0, 0, 0, 0, []) else (81, .iload 4, 0, 0, 0, [])))) else (bif Nat.ble i 49 then (bif Nat.ble i 47 then (83, .iload_n 2, 0, 0, 0, []) else (bif Nat.ble i 48 then (84, .invokevirtual 82, 28, 3, 0, []) else (87, .istore_n 3, 0, 0, 0, []))) else (bif Nat.ble i 51 then (bif Nat.ble i 50 then (88, .iinc 4 1, 0, 0, 1, []) else (91, .goto (-61), 19, 0, 0, [])) else (bif Nat.ble i 52 then (94, .iload_n 3, 0, 0, 0, []) else (95, .ireturn, 0, 0, 0, [])))))))
/-- GridQuarrels$County.passYear()V -/
def cd32 : Nat → mmE := fun i => (bif Nat.ble i 13 then (bif Nat.ble i 6 then (bif Nat.ble i 2 then (bif Nat.ble i 0 then (0, .iconst 0, 0, 0, 0, []) else (bif Nat.ble i 1 then (1, .istore_n 1, 0, 0, 0, []) else (2, .iload_n 1, 0, 0, 0, []))) else (bif Nat.ble i 4 then (bif Nat.ble i 3 then (3, .aload_n 0, 0, 0, 0, []) else (4, .getfield 50, 2, 2, 0, [])) else (bif Nat.ble i 5 then (7, .if_icmp .ge 32, 21, 0, 0, []) else (10, .aload_n 0, 0, 0, 0, [])))) else (bif Nat.ble i 9 then (bif Nat.ble i 7 then (11, .iload_n 1, 0, 0, 0, []) else (bif Nat.ble i 8 then (12, .invokevirtual 68, 19, 2, 0, []) else (15, .ifCond .ne 18, 19, 0, 0, []))) else (bif Nat.ble i 11 then (bif Nat.ble i 10 then (18, .aload_n 0, 0, 0, 0, []) else (19, .iload_n 1, 0, 0, 0, [])) else (bif Nat.ble i 12 then (20, .aload_n 0, 0, 0, 0, []) else (21, .iload_n 1, 0, 0, 0, []))))) else (bif Nat.ble i 20 then (bif Nat.ble i 16 then (bif Nat.ble i 14 then (22, .invokevirtual 86, 31, 2, 0, []) else (bif Nat.ble i 15 then (25, .invokevirtual 90, 33, 3, 0, []) else (28, .aload_n 0, 0, 0, 0, []))) else (bif Nat.ble i 18 then (bif Nat.ble i 17 then (29, .iload_n 1, 0, 0, 0, []) else (30, .invokevirtual 94, 34, 2, 0, [])) else (bif Nat.ble i 19 then (33, .iinc 1 1, 0, 0, 1, []) else (36, .goto (-34), 2, 0, 0, [])))) else (bif Nat.ble i 23 then (bif Nat.ble i 21 then (39, .aload_n 0, 0, 0, 0, []) else (bif Nat.ble i 22 then (40, .dup, 0, 0, 0, []) else (41, .getfield 53, 3, 2, 0, []))) else (bif Nat.ble i 25 then (bif Nat.ble i 24 then (44, .iconst 1, 0, 0, 1, []) else (45, .iadd, 0, 0, 0, [])) else (bif Nat.ble i 26 then (46, .putfield 53, 3, 2, 0, []) else (49, .return_, 0, 0, 0, []))))))
/-- GridQuarrels$County.walk(II)V -/
def cd33 : Nat → mmE := fun i => (bif Nat.ble i 8 then (bif Nat.ble i 3 then (bif Nat.ble i 1 then (bif Nat.ble i 0 then (0, .iload_n 2, 0, 0, 0, []) else (1, .aload_n 0, 0, 0, 0, [])) else (bif Nat.ble i 2 then (2, .getfield 27, 9, 2, 0, []) else (5, .iload_n 1, 0, 0, 0, []))) else (bif Nat.ble i 5 then (bif Nat.ble i 4 then (6, .iaload, 0, 0, 0, []) else (7, .if_icmp .eq 20, 17, 0, 0, [])) else (bif Nat.ble i 6 then (10, .aload_n 0, 0, 0, 0, []) else (bif Nat.ble i 7 then (11, .dup, 0, 0, 0, []) else (12, .getfield 65, 13, 2, 0, []))))) else (bif Nat.ble i 12 then (bif Nat.ble i 10 then (bif Nat.ble i 9 then (15, .iconst 1, 0, 0, 1, []) else (16, .iadd, 0, 0, 0, [])) else (bif Nat.ble i 11 then (17, .putfield 65, 13, 2, 0, []) else (20, .aload_n 0, 0, 0, 0, []))) else (bif Nat.ble i 14 then (bif Nat.ble i 13 then (21, .getfield 27, 9, 2, 0, []) else (24, .iload_n 1, 0, 0, 0, [])) else (bif Nat.ble i 15 then (25, .iload_n 2, 0, 0, 0, []) else (bif Nat.ble i 16 then (26, .iastore, 0, 0, 0, []) else (27, .return_, 0, 0, 0, []))))))
/-- GridQuarrels$County.eatOrStarve(I)V -/
def cd34 : Nat → mmE := fun i => (bif Nat.ble i 37 then (bif Nat.ble i 18 then (bif Nat.ble i 8 then (bif Nat.ble i 3 then (bif Nat.ble i 1 then (bif Nat.ble i 0 then (0, .aload_n 0, 0, 0, 0, []) else (1, .getfield 27, 9, 2, 0, [])) else (bif Nat.ble i 2 then (4, .iload_n 1, 0, 0, 0, []) else (5, .iaload, 0, 0, 0, []))) else (bif Nat.ble i 5 then (bif Nat.ble i 4 then (6, .istore_n 2, 0, 0, 0, []) else (7, .aload_n 0, 0, 0, 0, [])) else (bif Nat.ble i 6 then (8, .getfield 9, 4, 2, 0, []) else (bif Nat.ble i 7 then (11, .iload_n 2, 0, 0, 0, []) else (12, .iaload, 0, 0, 0, []))))) else (bif Nat.ble i 13 then (bif Nat.ble i 10 then (bif Nat.ble i 9 then (13, .ifCond .le 71, 55, 0, 0, []) else (16, .aload_n 0, 0, 0, 0, [])) else (bif Nat.ble i 11 then (17, .getfield 9, 4, 2, 0, []) else (bif Nat.ble i 12 then (20, .iload_n 2, 0, 0, 0, []) else (21, .dup2, 0, 0, 0, [])))) else (bif Nat.ble i 15 then (bif Nat.ble i 14 then (22, .iaload, 0, 0, 0, []) else (23, .iconst 1, 0, 0, 1, [])) else (bif Nat.ble i 16 then (24, .isub, 0, 0, 0, []) else (bif Nat.ble i 17 then (25, .iastore, 0, 0, 0, []) else (26, .aload_n 0, 0, 0, 0, [])))))) else (bif Nat.ble i 27 then (bif Nat.ble i 22 then (bif Nat.ble i 20 then (bif Nat.ble i 19 then (27, .getfield 30, 10, 2, 0, []) else (30, .iload_n 1, 0, 0, 0, [])) else (bif Nat.ble i 21 then (31, .bipush 9, 0, 0, 9, []) else (33, .aload_n 0, 0, 0, 0, []))) else (bif Nat.ble i 24 then (bif Nat.ble i 23 then (34, .getfield 30, 10, 2, 0, []) else (37, .iload_n 1, 0, 0, 0, [])) else (bif Nat.ble i 25 then (38, .iaload, 0, 0, 0, []) else (bif Nat.ble i 26 then (39, .aload_n 0, 0, 0, 0, []) else (40, .getfield 24, 8, 2, 0, []))))) else (bif Nat.ble i 32 then (bif Nat.ble i 29 then (bif Nat.ble i 28 then (43, .iload_n 1, 0, 0, 0, []) else (44, .iaload, 0, 0, 0, [])) else (bif Nat.ble i 30 then (45, .iconst 3, 0, 0, 3, []) else (bif Nat.ble i 31 then (46, .if_icmp .ne 7, 34, 0, 0, []) else (49, .iconst 2, 0, 0, 2, [])))) else (bif Nat.ble i 34 then (bif Nat.ble i 33 then (50, .goto 4, 35, 0, 0, []) else (53, .iconst 1, 0, 0, 1, [])) else (bif Nat.ble i 35 then (54, .iadd, 0, 0, 0, []) else (bif Nat.ble i 36 then (55, .invokestatic 98, 2, 2, 0, []) else (58, .iastore, 0, 0, 0, []))))))) else (bif Nat.ble i 56 then (bif Nat.ble i 46 then (bif Nat.ble i 41 then (bif Nat.ble i 39 then (bif Nat.ble i 38 then (59, .aload_n 0, 0, 0, 0, []) else (60, .getfield 36, 14, 2, 0, [])) else (bif Nat.ble i 40 then (63, .iload_n 1, 0, 0, 0, []) else (64, .dup2, 0, 0, 0, []))) else (bif Nat.ble i 43 then (bif Nat.ble i 42 then (65, .iaload, 0, 0, 0, []) else (66, .iconst 1, 0, 0, 1, [])) else (bif Nat.ble i 44 then (67, .iadd, 0, 0, 0, []) else (bif Nat.ble i 45 then (68, .iastore, 0, 0, 0, []) else (69, .aload_n 0, 0, 0, 0, []))))) else (bif Nat.ble i 51 then (bif Nat.ble i 48 then (bif Nat.ble i 47 then (70, .dup, 0, 0, 0, []) else (71, .getfield 62, 12, 2, 0, [])) else (bif Nat.ble i 49 then (74, .iconst 1, 0, 0, 1, []) else (bif Nat.ble i 50 then (75, .iload_n 2, 0, 0, 0, []) else (76, .ishl, 0, 0, 0, [])))) else (bif Nat.ble i 53 then (bif Nat.ble i 52 then (77, .ior, 0, 0, 0, []) else (78, .putfield 62, 12, 2, 0, [])) else (bif Nat.ble i 54 then (81, .goto 35, 75, 0, 0, []) else (bif Nat.ble i 55 then (84, .aload_n 0, 0, 0, 0, []) else (85, .getfield 30, 10, 2, 0, [])))))) else (bif Nat.ble i 65 then (bif Nat.ble i 60 then (bif Nat.ble i 58 then (bif Nat.ble i 57 then (88, .iload_n 1, 0, 0, 0, []) else (89, .aload_n 0, 0, 0, 0, [])) else (bif Nat.ble i 59 then (90, .getfield 24, 8, 2, 0, []) else (93, .iload_n 1, 0, 0, 0, []))) else (bif Nat.ble i 62 then (bif Nat.ble i 61 then (94, .iaload, 0, 0, 0, []) else (95, .iconst 5, 0, 0, 5, [])) else (bif Nat.ble i 63 then (96, .if_icmp .ne 7, 66, 0, 0, []) else (bif Nat.ble i 64 then (99, .iconst 1, 0, 0, 1, []) else (100, .goto 4, 67, 0, 0, []))))) else (bif Nat.ble i 70 then (bif Nat.ble i 67 then (bif Nat.ble i 66 then (103, .iconst 0, 0, 0, 0, []) else (104, .aload_n 0, 0, 0, 0, [])) else (bif Nat.ble i 68 then (105, .getfield 30, 10, 2, 0, []) else (bif Nat.ble i 69 then (108, .iload_n 1, 0, 0, 0, []) else (109, .iaload, 0, 0, 0, [])))) else (bif Nat.ble i 72 then (bif Nat.ble i 71 then (110, .iconst 1, 0, 0, 1, []) else (111, .isub, 0, 0, 0, [])) else (bif Nat.ble i 73 then (112, .invokestatic 103, 1, 2, 0, []) else (bif Nat.ble i 74 then (115, .iastore, 0, 0, 0, []) else (116, .return_, 0, 0, 0, []))))))))
/-- GridQuarrels$County.putHay(II)V -/
def cd35 : Nat → mmE := fun i => (bif Nat.ble i 5 then (bif Nat.ble i 2 then (bif Nat.ble i 0 then (0, .aload_n 0, 0, 0, 0, []) else (bif Nat.ble i 1 then (1, .getfield 9, 4, 2, 0, []) else (4, .iload_n 1, 0, 0, 0, []))) else (bif Nat.ble i 3 then (5, .bipush 99, 0, 0, 99, []) else (bif Nat.ble i 4 then (7, .aload_n 0, 0, 0, 0, []) else (8, .getfield 9, 4, 2, 0, [])))) else (bif Nat.ble i 8 then (bif Nat.ble i 6 then (11, .iload_n 1, 0, 0, 0, []) else (bif Nat.ble i 7 then (12, .iaload, 0, 0, 0, []) else (13, .iload_n 2, 0, 0, 0, []))) else (bif Nat.ble i 10 then (bif Nat.ble i 9 then (14, .iadd, 0, 0, 0, []) else (15, .invokestatic 98, 2, 2, 0, [])) else (bif Nat.ble i 11 then (18, .iastore, 0, 0, 0, []) else (19, .return_, 0, 0, 0, [])))))
/-- GridQuarrels$County.allHay()I -/
def cd36 : Nat → mmE := fun i => (bif Nat.ble i 8 then (bif Nat.ble i 3 then (bif Nat.ble i 1 then (bif Nat.ble i 0 then (0, .iconst 0, 0, 0, 0, []) else (1, .istore_n 1, 0, 0, 0, [])) else (bif Nat.ble i 2 then (2, .iconst 0, 0, 0, 0, []) else (3, .istore_n 2, 0, 0, 0, []))) else (bif Nat.ble i 5 then (bif Nat.ble i 4 then (4, .iload_n 2, 0, 0, 0, []) else (5, .aload_n 0, 0, 0, 0, [])) else (bif Nat.ble i 6 then (6, .getfield 39, 0, 2, 0, []) else (bif Nat.ble i 7 then (9, .if_icmp .ge 18, 17, 0, 0, []) else (12, .iload_n 1, 0, 0, 0, []))))) else (bif Nat.ble i 13 then (bif Nat.ble i 10 then (bif Nat.ble i 9 then (13, .aload_n 0, 0, 0, 0, []) else (14, .getfield 9, 4, 2, 0, [])) else (bif Nat.ble i 11 then (17, .iload_n 2, 0, 0, 0, []) else (bif Nat.ble i 12 then (18, .iaload, 0, 0, 0, []) else (19, .iadd, 0, 0, 0, [])))) else (bif Nat.ble i 15 then (bif Nat.ble i 14 then (20, .istore_n 1, 0, 0, 0, []) else (21, .iinc 2 1, 0, 0, 1, [])) else (bif Nat.ble i 16 then (24, .goto (-20), 4, 0, 0, []) else (bif Nat.ble i 17 then (27, .iload_n 1, 0, 0, 0, []) else (28, .ireturn, 0, 0, 0, []))))))
/-- GridQuarrels$County.living()I -/
def cd37 : Nat → mmE := fun i => (bif Nat.ble i 7 then (bif Nat.ble i 3 then (bif Nat.ble i 1 then (bif Nat.ble i 0 then (0, .iconst 0, 0, 0, 0, []) else (1, .istore_n 1, 0, 0, 0, [])) else (bif Nat.ble i 2 then (2, .iconst 0, 0, 0, 0, []) else (3, .istore_n 2, 0, 0, 0, []))) else (bif Nat.ble i 5 then (bif Nat.ble i 4 then (4, .iload_n 2, 0, 0, 0, []) else (5, .aload_n 0, 0, 0, 0, [])) else (bif Nat.ble i 6 then (6, .getfield 50, 2, 2, 0, []) else (9, .if_icmp .ge 20, 15, 0, 0, [])))) else (bif Nat.ble i 11 then (bif Nat.ble i 9 then (bif Nat.ble i 8 then (12, .aload_n 0, 0, 0, 0, []) else (13, .iload_n 2, 0, 0, 0, [])) else (bif Nat.ble i 10 then (14, .invokevirtual 68, 19, 2, 0, []) else (17, .ifCond .ne 6, 13, 0, 0, []))) else (bif Nat.ble i 13 then (bif Nat.ble i 12 then (20, .iinc 1 1, 0, 0, 1, []) else (23, .iinc 2 1, 0, 0, 1, [])) else (bif Nat.ble i 14 then (26, .goto (-22), 4, 0, 0, []) else (bif Nat.ble i 15 then (29, .iload_n 1, 0, 0, 0, []) else (30, .ireturn, 0, 0, 0, []))))))
/-- GridQuarrels$County.livesIn(II)Z -/
def cd38 : Nat → mmE := fun i => (bif Nat.ble i 6 then (bif Nat.ble i 2 then (bif Nat.ble i 0 then (0, .aload_n 0, 0, 0, 0, []) else (bif Nat.ble i 1 then (1, .iload_n 1, 0, 0, 0, []) else (2, .invokevirtual 68, 19, 2, 0, []))) else (bif Nat.ble i 4 then (bif Nat.ble i 3 then (5, .ifCond .ne 17, 12, 0, 0, []) else (8, .aload_n 0, 0, 0, 0, [])) else (bif Nat.ble i 5 then (9, .getfield 27, 9, 2, 0, []) else (12, .iload_n 1, 0, 0, 0, [])))) else (bif Nat.ble i 9 then (bif Nat.ble i 7 then (13, .iaload, 0, 0, 0, []) else (bif Nat.ble i 8 then (14, .iload_n 2, 0, 0, 0, []) else (15, .if_icmp .ne 7, 12, 0, 0, []))) else (bif Nat.ble i 11 then (bif Nat.ble i 10 then (18, .iconst 1, 0, 0, 1, []) else (19, .goto 4, 13, 0, 0, [])) else (bif Nat.ble i 12 then (22, .iconst 0, 0, 0, 0, []) else (23, .ireturn, 0, 0, 0, [])))))
/-- GridQuarrels$County.livingIn(I)I -/
def cd39 : Nat → mmE := fun i => (bif Nat.ble i 10 then (bif Nat.ble i 4 then (bif Nat.ble i 1 then (bif Nat.ble i 0 then (0, .iconst 0, 0, 0, 0, []) else (1, .istore_n 2, 0, 0, 0, [])) else (bif Nat.ble i 2 then (2, .iconst 0, 0, 0, 0, []) else (bif Nat.ble i 3 then (3, .istore_n 3, 0, 0, 0, []) else (4, .iload_n 3, 0, 0, 0, [])))) else (bif Nat.ble i 7 then (bif Nat.ble i 5 then (5, .aload_n 0, 0, 0, 0, []) else (bif Nat.ble i 6 then (6, .getfield 50, 2, 2, 0, []) else (9, .if_icmp .ge 24, 21, 0, 0, []))) else (bif Nat.ble i 8 then (12, .aload_n 0, 0, 0, 0, []) else (bif Nat.ble i 9 then (13, .iload_n 3, 0, 0, 0, []) else (14, .iload_n 1, 0, 0, 0, []))))) else (bif Nat.ble i 16 then (bif Nat.ble i 13 then (bif Nat.ble i 11 then (15, .invokevirtual 106, 38, 3, 0, []) else (bif Nat.ble i 12 then (18, .ifCond .eq 9, 19, 0, 0, []) else (21, .iload_n 2, 0, 0, 0, []))) else (bif Nat.ble i 14 then (22, .iconst 1, 0, 0, 1, []) else (bif Nat.ble i 15 then (23, .iload_n 3, 0, 0, 0, []) else (24, .ishl, 0, 0, 0, [])))) else (bif Nat.ble i 19 then (bif Nat.ble i 17 then (25, .ior, 0, 0, 0, []) else (bif Nat.ble i 18 then (26, .istore_n 2, 0, 0, 0, []) else (27, .iinc 3 1, 0, 0, 1, []))) else (bif Nat.ble i 20 then (30, .goto (-26), 4, 0, 0, []) else (bif Nat.ble i 21 then (33, .iload_n 2, 0, 0, 0, []) else (34, .ireturn, 0, 0, 0, []))))))
/-- GridQuarrels$County.atTheirBrands()I -/
def cd40 : Nat → mmE := fun i => (bif Nat.ble i 12 then (bif Nat.ble i 5 then (bif Nat.ble i 2 then (bif Nat.ble i 0 then (0, .iconst 0, 0, 0, 0, []) else (bif Nat.ble i 1 then (1, .istore_n 1, 0, 0, 0, []) else (2, .iconst 0, 0, 0, 0, []))) else (bif Nat.ble i 3 then (3, .istore_n 2, 0, 0, 0, []) else (bif Nat.ble i 4 then (4, .iload_n 2, 0, 0, 0, []) else (5, .aload_n 0, 0, 0, 0, [])))) else (bif Nat.ble i 8 then (bif Nat.ble i 6 then (6, .getfield 50, 2, 2, 0, []) else (bif Nat.ble i 7 then (9, .if_icmp .ge 29, 24, 0, 0, []) else (12, .aload_n 0, 0, 0, 0, []))) else (bif Nat.ble i 10 then (bif Nat.ble i 9 then (13, .iload_n 2, 0, 0, 0, []) else (14, .aload_n 0, 0, 0, 0, [])) else (bif Nat.ble i 11 then (15, .getfield 33, 11, 2, 0, []) else (18, .iload_n 2, 0, 0, 0, []))))) else (bif Nat.ble i 18 then (bif Nat.ble i 15 then (bif Nat.ble i 13 then (19, .iaload, 0, 0, 0, []) else (bif Nat.ble i 14 then (20, .invokevirtual 106, 38, 3, 0, []) else (23, .ifCond .eq 9, 22, 0, 0, []))) else (bif Nat.ble i 16 then (26, .iload_n 1, 0, 0, 0, []) else (bif Nat.ble i 17 then (27, .iconst 1, 0, 0, 1, []) else (28, .iload_n 2, 0, 0, 0, [])))) else (bif Nat.ble i 21 then (bif Nat.ble i 19 then (29, .ishl, 0, 0, 0, []) else (bif Nat.ble i 20 then (30, .ior, 0, 0, 0, []) else (31, .istore_n 1, 0, 0, 0, []))) else (bif Nat.ble i 23 then (bif Nat.ble i 22 then (32, .iinc 2 1, 0, 0, 1, []) else (35, .goto (-31), 4, 0, 0, [])) else (bif Nat.ble i 24 then (38, .iload_n 1, 0, 0, 0, []) else (39, .ireturn, 0, 0, 0, []))))))
/-- GridQuarrels$County.roadsAt(I)I -/
def cd41 : Nat → mmE := fun i => (bif Nat.ble i 10 then (bif Nat.ble i 4 then (bif Nat.ble i 1 then (bif Nat.ble i 0 then (0, .iconst 0, 0, 0, 0, []) else (1, .istore_n 2, 0, 0, 0, [])) else (bif Nat.ble i 2 then (2, .iconst 0, 0, 0, 0, []) else (bif Nat.ble i 3 then (3, .istore_n 3, 0, 0, 0, []) else (4, .iload_n 3, 0, 0, 0, [])))) else (bif Nat.ble i 7 then (bif Nat.ble i 5 then (5, .aload_n 0, 0, 0, 0, []) else (bif Nat.ble i 6 then (6, .getfield 47, 1, 2, 0, []) else (9, .if_icmp .ge 24, 21, 0, 0, []))) else (bif Nat.ble i 8 then (12, .aload_n 0, 0, 0, 0, []) else (bif Nat.ble i 9 then (13, .iload_n 3, 0, 0, 0, []) else (14, .iload_n 1, 0, 0, 0, []))))) else (bif Nat.ble i 16 then (bif Nat.ble i 13 then (bif Nat.ble i 11 then (15, .invokevirtual 75, 27, 3, 0, []) else (bif Nat.ble i 12 then (18, .ifCond .eq 9, 19, 0, 0, []) else (21, .iload_n 2, 0, 0, 0, []))) else (bif Nat.ble i 14 then (22, .iconst 1, 0, 0, 1, []) else (bif Nat.ble i 15 then (23, .iload_n 3, 0, 0, 0, []) else (24, .ishl, 0, 0, 0, [])))) else (bif Nat.ble i 19 then (bif Nat.ble i 17 then (25, .ior, 0, 0, 0, []) else (bif Nat.ble i 18 then (26, .istore_n 2, 0, 0, 0, []) else (27, .iinc 3 1, 0, 0, 1, []))) else (bif Nat.ble i 20 then (30, .goto (-26), 4, 0, 0, []) else (bif Nat.ble i 21 then (33, .iload_n 2, 0, 0, 0, []) else (34, .ireturn, 0, 0, 0, []))))))
/-- GridQuarrels$County.roadsOpenTo(I)I -/
def cd42 : Nat → mmE := fun i => (bif Nat.ble i 16 then (bif Nat.ble i 7 then (bif Nat.ble i 3 then (bif Nat.ble i 1 then (bif Nat.ble i 0 then (0, .iconst 0, 0, 0, 0, []) else (1, .istore_n 2, 0, 0, 0, [])) else (bif Nat.ble i 2 then (2, .iconst 0, 0, 0, 0, []) else (3, .istore_n 3, 0, 0, 0, []))) else (bif Nat.ble i 5 then (bif Nat.ble i 4 then (4, .iload_n 3, 0, 0, 0, []) else (5, .aload_n 0, 0, 0, 0, [])) else (bif Nat.ble i 6 then (6, .getfield 47, 1, 2, 0, []) else (9, .if_icmp .ge 46, 33, 0, 0, [])))) else (bif Nat.ble i 11 then (bif Nat.ble i 9 then (bif Nat.ble i 8 then (12, .aload_n 0, 0, 0, 0, []) else (13, .iload_n 1, 0, 0, 0, [])) else (bif Nat.ble i 10 then (14, .invokevirtual 68, 19, 2, 0, []) else (17, .ifCond .ne 38, 33, 0, 0, []))) else (bif Nat.ble i 13 then (bif Nat.ble i 12 then (20, .aload_n 0, 0, 0, 0, []) else (21, .iload_n 3, 0, 0, 0, [])) else (bif Nat.ble i 14 then (22, .aload_n 0, 0, 0, 0, []) else (bif Nat.ble i 15 then (23, .getfield 27, 9, 2, 0, []) else (26, .iload_n 1, 0, 0, 0, [])))))) else (bif Nat.ble i 25 then (bif Nat.ble i 20 then (bif Nat.ble i 18 then (bif Nat.ble i 17 then (27, .iaload, 0, 0, 0, []) else (28, .invokevirtual 75, 27, 3, 0, [])) else (bif Nat.ble i 19 then (31, .ifCond .eq 18, 31, 0, 0, []) else (34, .aload_n 0, 0, 0, 0, []))) else (bif Nat.ble i 22 then (bif Nat.ble i 21 then (35, .iload_n 1, 0, 0, 0, []) else (36, .iload_n 3, 0, 0, 0, [])) else (bif Nat.ble i 23 then (37, .invokevirtual 79, 29, 3, 0, []) else (bif Nat.ble i 24 then (40, .ifCond .eq 9, 31, 0, 0, []) else (43, .iload_n 2, 0, 0, 0, []))))) else (bif Nat.ble i 29 then (bif Nat.ble i 27 then (bif Nat.ble i 26 then (44, .iconst 1, 0, 0, 1, []) else (45, .iload_n 3, 0, 0, 0, [])) else (bif Nat.ble i 28 then (46, .ishl, 0, 0, 0, []) else (47, .ior, 0, 0, 0, []))) else (bif Nat.ble i 31 then (bif Nat.ble i 30 then (48, .istore_n 2, 0, 0, 0, []) else (49, .iinc 3 1, 0, 0, 1, [])) else (bif Nat.ble i 32 then (52, .goto (-48), 4, 0, 0, []) else (bif Nat.ble i 33 then (55, .iload_n 2, 0, 0, 0, []) else (56, .ireturn, 0, 0, 0, [])))))))
/-- GridQuarrels$County.mostMeals()I -/
def cd43 : Nat → mmE := fun i => (bif Nat.ble i 10 then (bif Nat.ble i 4 then (bif Nat.ble i 1 then (bif Nat.ble i 0 then (0, .iconst 0, 0, 0, 0, []) else (1, .istore_n 1, 0, 0, 0, [])) else (bif Nat.ble i 2 then (2, .iconst 1, 0, 0, 1, []) else (bif Nat.ble i 3 then (3, .istore_n 2, 0, 0, 0, []) else (4, .iload_n 2, 0, 0, 0, [])))) else (bif Nat.ble i 7 then (bif Nat.ble i 5 then (5, .aload_n 0, 0, 0, 0, []) else (bif Nat.ble i 6 then (6, .getfield 50, 2, 2, 0, []) else (9, .if_icmp .ge 26, 21, 0, 0, []))) else (bif Nat.ble i 8 then (12, .aload_n 0, 0, 0, 0, []) else (bif Nat.ble i 9 then (13, .getfield 36, 14, 2, 0, []) else (16, .iload_n 2, 0, 0, 0, []))))) else (bif Nat.ble i 16 then (bif Nat.ble i 13 then (bif Nat.ble i 11 then (17, .iaload, 0, 0, 0, []) else (bif Nat.ble i 12 then (18, .aload_n 0, 0, 0, 0, []) else (19, .getfield 36, 14, 2, 0, []))) else (bif Nat.ble i 14 then (22, .iload_n 1, 0, 0, 0, []) else (bif Nat.ble i 15 then (23, .iaload, 0, 0, 0, []) else (24, .if_icmp .le 5, 19, 0, 0, [])))) else (bif Nat.ble i 19 then (bif Nat.ble i 17 then (27, .iload_n 2, 0, 0, 0, []) else (bif Nat.ble i 18 then (28, .istore_n 1, 0, 0, 0, []) else (29, .iinc 2 1, 0, 0, 1, []))) else (bif Nat.ble i 20 then (32, .goto (-28), 4, 0, 0, []) else (bif Nat.ble i 21 then (35, .iload_n 1, 0, 0, 0, []) else (36, .ireturn, 0, 0, 0, []))))))
/-- GridQuarrels$County.spread(II)I -/
def cd44 : Nat → mmE := fun i => (bif Nat.ble i 22 then (bif Nat.ble i 10 then (bif Nat.ble i 4 then (bif Nat.ble i 1 then (bif Nat.ble i 0 then (0, .iload_n 2, 0, 0, 0, []) else (1, .istore_n 3, 0, 0, 0, [])) else (bif Nat.ble i 2 then (2, .iconst 0, 0, 0, 0, []) else (bif Nat.ble i 3 then (3, .istore 4, 0, 0, 0, []) else (5, .iload 4, 0, 0, 0, [])))) else (bif Nat.ble i 7 then (bif Nat.ble i 5 then (7, .aload_n 0, 0, 0, 0, []) else (bif Nat.ble i 6 then (8, .getfield 47, 1, 2, 0, []) else (11, .if_icmp .ge 69, 45, 0, 0, []))) else (bif Nat.ble i 8 then (14, .aload_n 0, 0, 0, 0, []) else (bif Nat.ble i 9 then (15, .iload_n 1, 0, 0, 0, []) else (16, .iload 4, 0, 0, 0, []))))) else (bif Nat.ble i 16 then (bif Nat.ble i 13 then (bif Nat.ble i 11 then (18, .invokevirtual 79, 29, 3, 0, []) else (bif Nat.ble i 12 then (21, .ifCond .eq 53, 43, 0, 0, []) else (24, .iload_n 2, 0, 0, 0, []))) else (bif Nat.ble i 14 then (25, .aload_n 0, 0, 0, 0, []) else (bif Nat.ble i 15 then (26, .getfield 15, 5, 2, 0, []) else (29, .iload 4, 0, 0, 0, [])))) else (bif Nat.ble i 19 then (bif Nat.ble i 17 then (31, .iaload, 0, 0, 0, []) else (bif Nat.ble i 18 then (32, .invokestatic 109, 151, 2, 0, []) else (35, .ifCond .ne 17, 27, 0, 0, []))) else (bif Nat.ble i 20 then (38, .iload_n 2, 0, 0, 0, []) else (bif Nat.ble i 21 then (39, .aload_n 0, 0, 0, 0, []) else (40, .getfield 18, 6, 2, 0, [])))))) else (bif Nat.ble i 34 then (bif Nat.ble i 28 then (bif Nat.ble i 25 then (bif Nat.ble i 23 then (43, .iload 4, 0, 0, 0, []) else (bif Nat.ble i 24 then (45, .iaload, 0, 0, 0, []) else (46, .invokestatic 109, 151, 2, 0, []))) else (bif Nat.ble i 26 then (49, .ifCond .eq 25, 43, 0, 0, []) else (bif Nat.ble i 27 then (52, .iload_n 3, 0, 0, 0, []) else (53, .iconst 1, 0, 0, 1, [])))) else (bif Nat.ble i 31 then (bif Nat.ble i 29 then (54, .aload_n 0, 0, 0, 0, []) else (bif Nat.ble i 30 then (55, .getfield 15, 5, 2, 0, []) else (58, .iload 4, 0, 0, 0, []))) else (bif Nat.ble i 32 then (60, .iaload, 0, 0, 0, []) else (bif Nat.ble i 33 then (61, .ishl, 0, 0, 0, []) else (62, .iconst 1, 0, 0, 1, []))))) else (bif Nat.ble i 40 then (bif Nat.ble i 37 then (bif Nat.ble i 35 then (63, .aload_n 0, 0, 0, 0, []) else (bif Nat.ble i 36 then (64, .getfield 18, 6, 2, 0, []) else (67, .iload 4, 0, 0, 0, []))) else (bif Nat.ble i 38 then (69, .iaload, 0, 0, 0, []) else (bif Nat.ble i 39 then (70, .ishl, 0, 0, 0, []) else (71, .ior, 0, 0, 0, [])))) else (bif Nat.ble i 43 then (bif Nat.ble i 41 then (72, .ior, 0, 0, 0, []) else (bif Nat.ble i 42 then (73, .istore_n 3, 0, 0, 0, []) else (74, .iinc 4 1, 0, 0, 1, []))) else (bif Nat.ble i 44 then (77, .goto (-72), 4, 0, 0, []) else (bif Nat.ble i 45 then (80, .iload_n 3, 0, 0, 0, []) else (81, .ireturn, 0, 0, 0, [])))))))
/-- GridQuarrels$County.roadsTo(II)I -/
def cd45 : Nat → mmE := fun i => (bif Nat.ble i 13 then (bif Nat.ble i 6 then (bif Nat.ble i 2 then (bif Nat.ble i 0 then (0, .iconst 1, 0, 0, 1, []) else (bif Nat.ble i 1 then (1, .aload_n 0, 0, 0, 0, []) else (2, .getfield 27, 9, 2, 0, []))) else (bif Nat.ble i 4 then (bif Nat.ble i 3 then (5, .iload_n 1, 0, 0, 0, []) else (6, .iaload, 0, 0, 0, [])) else (bif Nat.ble i 5 then (7, .ishl, 0, 0, 0, []) else (8, .istore_n 3, 0, 0, 0, [])))) else (bif Nat.ble i 9 then (bif Nat.ble i 7 then (9, .iconst 0, 0, 0, 0, []) else (bif Nat.ble i 8 then (10, .istore 4, 0, 0, 0, []) else (12, .iload 4, 0, 0, 0, []))) else (bif Nat.ble i 11 then (bif Nat.ble i 10 then (14, .aload_n 0, 0, 0, 0, []) else (15, .getfield 39, 0, 2, 0, [])) else (bif Nat.ble i 12 then (18, .if_icmp .ge 27, 26, 0, 0, []) else (21, .iload_n 3, 0, 0, 0, []))))) else (bif Nat.ble i 20 then (bif Nat.ble i 16 then (bif Nat.ble i 14 then (22, .iload_n 2, 0, 0, 0, []) else (bif Nat.ble i 15 then (23, .invokestatic 109, 151, 2, 0, []) else (26, .ifCond .eq 6, 19, 0, 0, []))) else (bif Nat.ble i 18 then (bif Nat.ble i 17 then (29, .iload 4, 0, 0, 0, []) else (31, .ireturn, 0, 0, 0, [])) else (bif Nat.ble i 19 then (32, .aload_n 0, 0, 0, 0, []) else (33, .iload_n 1, 0, 0, 0, [])))) else (bif Nat.ble i 23 then (bif Nat.ble i 21 then (34, .iload_n 3, 0, 0, 0, []) else (bif Nat.ble i 22 then (35, .invokevirtual 112, 44, 3, 0, []) else (38, .istore_n 3, 0, 0, 0, []))) else (bif Nat.ble i 25 then (bif Nat.ble i 24 then (39, .iinc 4 1, 0, 0, 1, []) else (42, .goto (-30), 9, 0, 0, [])) else (bif Nat.ble i 26 then (45, .ldc 115, 0, 0, (-1000000), []) else (47, .ireturn, 0, 0, 0, []))))))
/-- GridQuarrels$County.allReached(I)I -/
def cd46 : Nat → mmE := fun i => (bif Nat.ble i 10 then (bif Nat.ble i 4 then (bif Nat.ble i 1 then (bif Nat.ble i 0 then (0, .iconst 1, 0, 0, 1, []) else (1, .aload_n 0, 0, 0, 0, [])) else (bif Nat.ble i 2 then (2, .getfield 27, 9, 2, 0, []) else (bif Nat.ble i 3 then (5, .iload_n 1, 0, 0, 0, []) else (6, .iaload, 0, 0, 0, [])))) else (bif Nat.ble i 7 then (bif Nat.ble i 5 then (7, .ishl, 0, 0, 0, []) else (bif Nat.ble i 6 then (8, .istore_n 2, 0, 0, 0, []) else (9, .iconst 1, 0, 0, 1, []))) else (bif Nat.ble i 8 then (10, .istore_n 3, 0, 0, 0, []) else (bif Nat.ble i 9 then (11, .iload_n 3, 0, 0, 0, []) else (12, .aload_n 0, 0, 0, 0, []))))) else (bif Nat.ble i 15 then (bif Nat.ble i 12 then (bif Nat.ble i 11 then (13, .getfield 39, 0, 2, 0, []) else (16, .if_icmp .ge 16, 20, 0, 0, [])) else (bif Nat.ble i 13 then (19, .aload_n 0, 0, 0, 0, []) else (bif Nat.ble i 14 then (20, .iload_n 1, 0, 0, 0, []) else (21, .iload_n 2, 0, 0, 0, [])))) else (bif Nat.ble i 18 then (bif Nat.ble i 16 then (22, .invokevirtual 112, 44, 3, 0, []) else (bif Nat.ble i 17 then (25, .istore_n 2, 0, 0, 0, []) else (26, .iinc 3 1, 0, 0, 1, []))) else (bif Nat.ble i 19 then (29, .goto (-18), 9, 0, 0, []) else (bif Nat.ble i 20 then (32, .iload_n 2, 0, 0, 0, []) else (33, .ireturn, 0, 0, 0, []))))))
/-- GridQuarrels$Reader.<init>()V -/
def cd47 : Nat → mmE := fun i => (bif Nat.ble i 5 then (bif Nat.ble i 2 then (bif Nat.ble i 0 then (0, .aload_n 0, 0, 0, 0, []) else (bif Nat.ble i 1 then (1, .invokespecial 3, 0, 0, 0, []) else (4, .aload_n 0, 0, 0, 0, []))) else (bif Nat.ble i 3 then (5, .new 9, 2, 0, 0, []) else (bif Nat.ble i 4 then (8, .dup, 0, 0, 0, []) else (9, .invokespecial 11, 14, 1, 0, [])))) else (bif Nat.ble i 8 then (bif Nat.ble i 6 then (12, .putfield 12, 0, 3, 0, []) else (bif Nat.ble i 7 then (15, .aload_n 0, 0, 0, 0, []) else (16, .bipush 120, 0, 0, 120, []))) else (bif Nat.ble i 9 then (18, .newarray .int, 0, 0, 0, []) else (bif Nat.ble i 10 then (20, .putfield 18, 3, 3, 0, []) else (23, .return_, 0, 0, 0, [])))))
/-- GridQuarrels$Reader.isFull()Z -/
def cd48 : Nat → mmE := fun i => (bif Nat.ble i 3 then (bif Nat.ble i 1 then (bif Nat.ble i 0 then (0, .aload_n 0, 0, 0, 0, []) else (1, .getfield 22, 1, 3, 0, [])) else (bif Nat.ble i 2 then (4, .bipush 120, 0, 0, 120, []) else (6, .if_icmp .lt 7, 6, 0, 0, []))) else (bif Nat.ble i 5 then (bif Nat.ble i 4 then (9, .iconst 1, 0, 0, 1, []) else (10, .goto 4, 7, 0, 0, [])) else (bif Nat.ble i 6 then (13, .iconst 0, 0, 0, 0, []) else (14, .ireturn, 0, 0, 0, []))))
/-- GridQuarrels$Reader.take(I)I -/
def cd49 : Nat → mmE := fun i => (bif Nat.ble i 8 then (bif Nat.ble i 3 then (bif Nat.ble i 1 then (bif Nat.ble i 0 then (0, .aload_n 0, 0, 0, 0, []) else (1, .invokevirtual 26, 48, 1, 0, [])) else (bif Nat.ble i 2 then (4, .ifCond .ne 23, 15, 0, 0, []) else (7, .aload_n 0, 0, 0, 0, []))) else (bif Nat.ble i 5 then (bif Nat.ble i 4 then (8, .getfield 18, 3, 3, 0, []) else (11, .aload_n 0, 0, 0, 0, [])) else (bif Nat.ble i 6 then (12, .getfield 22, 1, 3, 0, []) else (bif Nat.ble i 7 then (15, .iload_n 1, 0, 0, 0, []) else (16, .iastore, 0, 0, 0, []))))) else (bif Nat.ble i 12 then (bif Nat.ble i 10 then (bif Nat.ble i 9 then (17, .aload_n 0, 0, 0, 0, []) else (18, .dup, 0, 0, 0, [])) else (bif Nat.ble i 11 then (19, .getfield 22, 1, 3, 0, []) else (22, .iconst 1, 0, 0, 1, []))) else (bif Nat.ble i 14 then (bif Nat.ble i 13 then (23, .iadd, 0, 0, 0, []) else (24, .putfield 22, 1, 3, 0, [])) else (bif Nat.ble i 15 then (27, .aload_n 0, 0, 0, 0, []) else (bif Nat.ble i 16 then (28, .getfield 22, 1, 3, 0, []) else (31, .ireturn, 0, 0, 0, []))))))
/-- GridQuarrels$Reader.read()I -/
def cd50 : Nat → mmE := fun i => (bif Nat.ble i 14 then (bif Nat.ble i 6 then (bif Nat.ble i 2 then (bif Nat.ble i 0 then (0, .aload_n 0, 0, 0, 0, []) else (bif Nat.ble i 1 then (1, .iconst 0, 0, 0, 0, []) else (2, .putfield 30, 4, 3, 0, []))) else (bif Nat.ble i 4 then (bif Nat.ble i 3 then (5, .aload_n 0, 0, 0, 0, []) else (6, .iconst 0, 0, 0, 0, [])) else (bif Nat.ble i 5 then (7, .putfield 33, 5, 3, 0, []) else (10, .aload_n 0, 0, 0, 0, [])))) else (bif Nat.ble i 10 then (bif Nat.ble i 8 then (bif Nat.ble i 7 then (11, .getfield 12, 0, 3, 0, []) else (14, .invokevirtual 36, 20, 1, 0, [])) else (bif Nat.ble i 9 then (17, .aload_n 0, 0, 0, 0, []) else (18, .invokevirtual 39, 51, 1, 0, []))) else (bif Nat.ble i 12 then (bif Nat.ble i 11 then (21, .aload_n 0, 0, 0, 0, []) else (22, .invokevirtual 42, 52, 1, 0, [])) else (bif Nat.ble i 13 then (25, .aload_n 0, 0, 0, 0, []) else (26, .invokevirtual 45, 54, 1, 0, []))))) else (bif Nat.ble i 21 then (bif Nat.ble i 17 then (bif Nat.ble i 15 then (29, .aload_n 0, 0, 0, 0, []) else (bif Nat.ble i 16 then (30, .iconst 0, 0, 0, 0, []) else (31, .putfield 22, 1, 3, 0, []))) else (bif Nat.ble i 19 then (bif Nat.ble i 18 then (34, .aload_n 0, 0, 0, 0, []) else (35, .getfield 33, 5, 3, 0, [])) else (bif Nat.ble i 20 then (38, .ifCond .ne 6, 23, 0, 0, []) else (41, .ldc 48, 0, 0, (-1000000), [])))) else (bif Nat.ble i 25 then (bif Nat.ble i 23 then (bif Nat.ble i 22 then (43, .ireturn, 0, 0, 0, []) else (44, .aload_n 0, 0, 0, 0, [])) else (bif Nat.ble i 24 then (45, .aload_n 0, 0, 0, 0, []) else (46, .getfield 33, 5, 3, 0, []))) else (bif Nat.ble i 27 then (bif Nat.ble i 26 then (49, .putfield 49, 2, 3, 0, []) else (52, .aload_n 0, 0, 0, 0, [])) else (bif Nat.ble i 28 then (53, .getfield 30, 4, 3, 0, []) else (56, .ireturn, 0, 0, 0, []))))))
/-- GridQuarrels$Reader.readLaw()V -/
def cd51 : Nat → mmE := fun i => (bif Nat.ble i 14 then (bif Nat.ble i 6 then (bif Nat.ble i 2 then (bif Nat.ble i 0 then (0, .aload_n 0, 0, 0, 0, []) else (bif Nat.ble i 1 then (1, .bipush 99, 0, 0, 99, []) else (3, .invokevirtual 52, 59, 2, 0, []))) else (bif Nat.ble i 4 then (bif Nat.ble i 3 then (6, .aload_n 0, 0, 0, 0, []) else (7, .iconst 2, 0, 0, 2, [])) else (bif Nat.ble i 5 then (8, .bipush 7, 0, 0, 7, []) else (10, .ldc 48, 0, 0, (-1000000), [])))) else (bif Nat.ble i 10 then (bif Nat.ble i 8 then (bif Nat.ble i 7 then (12, .invokevirtual 56, 62, 4, 0, []) else (15, .istore_n 1, 0, 0, 0, [])) else (bif Nat.ble i 9 then (16, .aload_n 0, 0, 0, 0, []) else (17, .bipush 44, 0, 0, 44, []))) else (bif Nat.ble i 12 then (bif Nat.ble i 11 then (19, .invokevirtual 52, 59, 2, 0, []) else (22, .aload_n 0, 0, 0, 0, [])) else (bif Nat.ble i 13 then (23, .iconst 0, 0, 0, 0, []) else (24, .bipush 9, 0, 0, 9, []))))) else (bif Nat.ble i 21 then (bif Nat.ble i 17 then (bif Nat.ble i 15 then (26, .ldc 48, 0, 0, (-1000000), []) else (bif Nat.ble i 16 then (28, .invokevirtual 56, 62, 4, 0, []) else (31, .istore_n 2, 0, 0, 0, []))) else (bif Nat.ble i 19 then (bif Nat.ble i 18 then (32, .aload_n 0, 0, 0, 0, []) else (33, .bipush 59, 0, 0, 59, [])) else (bif Nat.ble i 20 then (35, .invokevirtual 52, 59, 2, 0, []) else (38, .aload_n 0, 0, 0, 0, [])))) else (bif Nat.ble i 25 then (bif Nat.ble i 23 then (bif Nat.ble i 22 then (39, .getfield 33, 5, 3, 0, []) else (42, .ifCond .ne 12, 29, 0, 0, [])) else (bif Nat.ble i 24 then (45, .aload_n 0, 0, 0, 0, []) else (46, .getfield 12, 0, 3, 0, []))) else (bif Nat.ble i 27 then (bif Nat.ble i 26 then (49, .iload_n 1, 0, 0, 0, []) else (50, .iload_n 2, 0, 0, 0, [])) else (bif Nat.ble i 28 then (51, .invokevirtual 60, 21, 3, 0, []) else (54, .return_, 0, 0, 0, []))))))
/-- GridQuarrels$Reader.readRoads()V -/
def cd52 : Nat → mmE := fun i => (bif Nat.ble i 8 then (bif Nat.ble i 3 then (bif Nat.ble i 1 then (bif Nat.ble i 0 then (0, .aload_n 0, 0, 0, 0, []) else (1, .invokevirtual 64, 53, 1, 0, [])) else (bif Nat.ble i 2 then (4, .iconst 0, 0, 0, 0, []) else (5, .istore_n 1, 0, 0, 0, []))) else (bif Nat.ble i 5 then (bif Nat.ble i 4 then (6, .iload_n 1, 0, 0, 0, []) else (7, .bipush 7, 0, 0, 7, [])) else (bif Nat.ble i 6 then (9, .if_icmp .ge 29, 18, 0, 0, []) else (bif Nat.ble i 7 then (12, .aload_n 0, 0, 0, 0, []) else (13, .getfield 33, 5, 3, 0, []))))) else (bif Nat.ble i 13 then (bif Nat.ble i 10 then (bif Nat.ble i 9 then (16, .ifCond .ne 22, 18, 0, 0, []) else (19, .aload_n 0, 0, 0, 0, [])) else (bif Nat.ble i 11 then (20, .invokevirtual 67, 57, 1, 0, []) else (bif Nat.ble i 12 then (23, .bipush 114, 0, 0, 114, []) else (25, .if_icmp .ne 13, 18, 0, 0, [])))) else (bif Nat.ble i 15 then (bif Nat.ble i 14 then (28, .aload_n 0, 0, 0, 0, []) else (29, .invokevirtual 64, 53, 1, 0, [])) else (bif Nat.ble i 16 then (32, .iinc 1 1, 0, 0, 1, []) else (bif Nat.ble i 17 then (35, .goto (-29), 4, 0, 0, []) else (38, .return_, 0, 0, 0, []))))))
/-- GridQuarrels$Reader.readRoad()V -/
def cd53 : Nat → mmE := fun i => (bif Nat.ble i 29 then (bif Nat.ble i 14 then (bif Nat.ble i 6 then (bif Nat.ble i 2 then (bif Nat.ble i 0 then (0, .aload_n 0, 0, 0, 0, []) else (bif Nat.ble i 1 then (1, .invokevirtual 67, 57, 1, 0, []) else (4, .bipush 114, 0, 0, 114, []))) else (bif Nat.ble i 4 then (bif Nat.ble i 3 then (6, .if_icmp .ne 20, 12, 0, 0, []) else (9, .aload_n 0, 0, 0, 0, [])) else (bif Nat.ble i 5 then (10, .getfield 12, 0, 3, 0, []) else (13, .getfield 71, 1, 2, 0, [])))) else (bif Nat.ble i 10 then (bif Nat.ble i 8 then (bif Nat.ble i 7 then (16, .bipush 7, 0, 0, 7, []) else (18, .if_icmp .ne 8, 12, 0, 0, [])) else (bif Nat.ble i 9 then (21, .aload_n 0, 0, 0, 0, []) else (22, .iconst 3, 0, 0, 3, []))) else (bif Nat.ble i 12 then (bif Nat.ble i 11 then (23, .invokevirtual 74, 56, 2, 0, []) else (26, .aload_n 0, 0, 0, 0, [])) else (bif Nat.ble i 13 then (27, .bipush 114, 0, 0, 114, []) else (29, .invokevirtual 52, 59, 2, 0, []))))) else (bif Nat.ble i 21 then (bif Nat.ble i 17 then (bif Nat.ble i 15 then (32, .aload_n 0, 0, 0, 0, []) else (bif Nat.ble i 16 then (33, .iconst 0, 0, 0, 0, []) else (34, .aload_n 0, 0, 0, 0, []))) else (bif Nat.ble i 19 then (bif Nat.ble i 18 then (35, .getfield 12, 0, 3, 0, []) else (38, .getfield 77, 0, 2, 0, [])) else (bif Nat.ble i 20 then (41, .iconst 1, 0, 0, 1, []) else (42, .isub, 0, 0, 0, [])))) else (bif Nat.ble i 25 then (bif Nat.ble i 23 then (bif Nat.ble i 22 then (43, .ldc 48, 0, 0, (-1000000), []) else (45, .invokevirtual 56, 62, 4, 0, [])) else (bif Nat.ble i 24 then (48, .istore_n 1, 0, 0, 0, []) else (49, .aload_n 0, 0, 0, 0, []))) else (bif Nat.ble i 27 then (bif Nat.ble i 26 then (50, .bipush 44, 0, 0, 44, []) else (52, .invokevirtual 52, 59, 2, 0, [])) else (bif Nat.ble i 28 then (55, .aload_n 0, 0, 0, 0, []) else (56, .iconst 0, 0, 0, 0, [])))))) else (bif Nat.ble i 44 then (bif Nat.ble i 36 then (bif Nat.ble i 32 then (bif Nat.ble i 30 then (57, .aload_n 0, 0, 0, 0, []) else (bif Nat.ble i 31 then (58, .getfield 12, 0, 3, 0, []) else (61, .getfield 77, 0, 2, 0, []))) else (bif Nat.ble i 34 then (bif Nat.ble i 33 then (64, .iconst 1, 0, 0, 1, []) else (65, .isub, 0, 0, 0, [])) else (bif Nat.ble i 35 then (66, .iload_n 1, 0, 0, 0, []) else (67, .invokevirtual 56, 62, 4, 0, [])))) else (bif Nat.ble i 40 then (bif Nat.ble i 38 then (bif Nat.ble i 37 then (70, .istore_n 2, 0, 0, 0, []) else (71, .aload_n 0, 0, 0, 0, [])) else (bif Nat.ble i 39 then (72, .bipush 44, 0, 0, 44, []) else (74, .invokevirtual 52, 59, 2, 0, []))) else (bif Nat.ble i 42 then (bif Nat.ble i 41 then (77, .aload_n 0, 0, 0, 0, []) else (78, .iconst 0, 0, 0, 0, [])) else (bif Nat.ble i 43 then (79, .bipush 9, 0, 0, 9, []) else (81, .ldc 48, 0, 0, (-1000000), []))))) else (bif Nat.ble i 51 then (bif Nat.ble i 47 then (bif Nat.ble i 45 then (83, .invokevirtual 56, 62, 4, 0, []) else (bif Nat.ble i 46 then (86, .istore_n 3, 0, 0, 0, []) else (87, .aload_n 0, 0, 0, 0, []))) else (bif Nat.ble i 49 then (bif Nat.ble i 48 then (88, .bipush 59, 0, 0, 59, []) else (90, .invokevirtual 52, 59, 2, 0, [])) else (bif Nat.ble i 50 then (93, .aload_n 0, 0, 0, 0, []) else (94, .getfield 33, 5, 3, 0, [])))) else (bif Nat.ble i 55 then (bif Nat.ble i 53 then (bif Nat.ble i 52 then (97, .ifCond .ne 13, 59, 0, 0, []) else (100, .aload_n 0, 0, 0, 0, [])) else (bif Nat.ble i 54 then (101, .getfield 12, 0, 3, 0, []) else (104, .iload_n 1, 0, 0, 0, []))) else (bif Nat.ble i 57 then (bif Nat.ble i 56 then (105, .iload_n 2, 0, 0, 0, []) else (106, .iload_n 3, 0, 0, 0, [])) else (bif Nat.ble i 58 then (107, .invokevirtual 80, 22, 4, 0, []) else (110, .return_, 0, 0, 0, [])))))))
/-- GridQuarrels$Reader.readQuarrels()V -/
def cd54 : Nat → mmE := fun i => (bif Nat.ble i 9 then (bif Nat.ble i 4 then (bif Nat.ble i 1 then (bif Nat.ble i 0 then (0, .aload_n 0, 0, 0, 0, []) else (1, .invokevirtual 84, 55, 1, 0, [])) else (bif Nat.ble i 2 then (4, .iconst 0, 0, 0, 0, []) else (bif Nat.ble i 3 then (5, .istore_n 1, 0, 0, 0, []) else (6, .iload_n 1, 0, 0, 0, [])))) else (bif Nat.ble i 6 then (bif Nat.ble i 5 then (7, .iconst 5, 0, 0, 5, []) else (8, .if_icmp .ge 31, 19, 0, 0, [])) else (bif Nat.ble i 7 then (11, .aload_n 0, 0, 0, 0, []) else (bif Nat.ble i 8 then (12, .getfield 33, 5, 3, 0, []) else (15, .ifCond .ne 24, 19, 0, 0, []))))) else (bif Nat.ble i 14 then (bif Nat.ble i 11 then (bif Nat.ble i 10 then (18, .aload_n 0, 0, 0, 0, []) else (19, .getfield 30, 4, 3, 0, [])) else (bif Nat.ble i 12 then (22, .aload_n 0, 0, 0, 0, []) else (bif Nat.ble i 13 then (23, .getfield 22, 1, 3, 0, []) else (26, .if_icmp .ge 13, 19, 0, 0, [])))) else (bif Nat.ble i 16 then (bif Nat.ble i 15 then (29, .aload_n 0, 0, 0, 0, []) else (30, .invokevirtual 84, 55, 1, 0, [])) else (bif Nat.ble i 17 then (33, .iinc 1 1, 0, 0, 1, []) else (bif Nat.ble i 18 then (36, .goto (-30), 4, 0, 0, []) else (39, .return_, 0, 0, 0, []))))))
/-- GridQuarrels$Reader.readQuarrel()V -/
def cd55 : Nat → mmE := fun i => (bif Nat.ble i 29 then (bif Nat.ble i 14 then (bif Nat.ble i 6 then (bif Nat.ble i 2 then (bif Nat.ble i 0 then (0, .aload_n 0, 0, 0, 0, []) else (bif Nat.ble i 1 then (1, .invokevirtual 67, 57, 1, 0, []) else (4, .invokestatic 87, 61, 1, 0, []))) else (bif Nat.ble i 4 then (bif Nat.ble i 3 then (7, .ifCond .eq 19, 12, 0, 0, []) else (10, .aload_n 0, 0, 0, 0, [])) else (bif Nat.ble i 5 then (11, .getfield 12, 0, 3, 0, []) else (14, .getfield 91, 2, 2, 0, [])))) else (bif Nat.ble i 10 then (bif Nat.ble i 8 then (bif Nat.ble i 7 then (17, .iconst 5, 0, 0, 5, []) else (18, .if_icmp .ne 8, 12, 0, 0, [])) else (bif Nat.ble i 9 then (21, .aload_n 0, 0, 0, 0, []) else (22, .iconst 3, 0, 0, 3, []))) else (bif Nat.ble i 12 then (bif Nat.ble i 11 then (23, .invokevirtual 74, 56, 2, 0, []) else (26, .aload_n 0, 0, 0, 0, [])) else (bif Nat.ble i 13 then (27, .invokevirtual 94, 60, 1, 0, []) else (30, .istore_n 1, 0, 0, 0, []))))) else (bif Nat.ble i 21 then (bif Nat.ble i 17 then (bif Nat.ble i 15 then (31, .aload_n 0, 0, 0, 0, []) else (bif Nat.ble i 16 then (32, .iconst 0, 0, 0, 0, []) else (33, .aload_n 0, 0, 0, 0, []))) else (bif Nat.ble i 19 then (bif Nat.ble i 18 then (34, .getfield 12, 0, 3, 0, []) else (37, .getfield 77, 0, 2, 0, [])) else (bif Nat.ble i 20 then (40, .iconst 1, 0, 0, 1, []) else (41, .isub, 0, 0, 0, [])))) else (bif Nat.ble i 25 then (bif Nat.ble i 23 then (bif Nat.ble i 22 then (42, .ldc 48, 0, 0, (-1000000), []) else (44, .invokevirtual 56, 62, 4, 0, [])) else (bif Nat.ble i 24 then (47, .istore_n 2, 0, 0, 0, []) else (48, .aload_n 0, 0, 0, 0, []))) else (bif Nat.ble i 27 then (bif Nat.ble i 26 then (49, .bipush 44, 0, 0, 44, []) else (51, .invokevirtual 52, 59, 2, 0, [])) else (bif Nat.ble i 28 then (54, .aload_n 0, 0, 0, 0, []) else (55, .iconst 1, 0, 0, 1, [])))))) else (bif Nat.ble i 44 then (bif Nat.ble i 36 then (bif Nat.ble i 32 then (bif Nat.ble i 30 then (56, .bipush 9, 0, 0, 9, []) else (bif Nat.ble i 31 then (58, .ldc 48, 0, 0, (-1000000), []) else (60, .invokevirtual 56, 62, 4, 0, []))) else (bif Nat.ble i 34 then (bif Nat.ble i 33 then (63, .istore_n 3, 0, 0, 0, []) else (64, .aload_n 0, 0, 0, 0, [])) else (bif Nat.ble i 35 then (65, .bipush 44, 0, 0, 44, []) else (67, .invokevirtual 52, 59, 2, 0, [])))) else (bif Nat.ble i 40 then (bif Nat.ble i 38 then (bif Nat.ble i 37 then (70, .aload_n 0, 0, 0, 0, []) else (71, .iconst 0, 0, 0, 0, [])) else (bif Nat.ble i 39 then (72, .aload_n 0, 0, 0, 0, []) else (73, .getfield 12, 0, 3, 0, []))) else (bif Nat.ble i 42 then (bif Nat.ble i 41 then (76, .getfield 77, 0, 2, 0, []) else (79, .iconst 1, 0, 0, 1, [])) else (bif Nat.ble i 43 then (80, .isub, 0, 0, 0, []) else (81, .ldc 48, 0, 0, (-1000000), []))))) else (bif Nat.ble i 52 then (bif Nat.ble i 48 then (bif Nat.ble i 46 then (bif Nat.ble i 45 then (83, .invokevirtual 56, 62, 4, 0, []) else (86, .istore 4, 0, 0, 0, [])) else (bif Nat.ble i 47 then (88, .aload_n 0, 0, 0, 0, []) else (89, .bipush 59, 0, 0, 59, []))) else (bif Nat.ble i 50 then (bif Nat.ble i 49 then (91, .invokevirtual 52, 59, 2, 0, []) else (94, .aload_n 0, 0, 0, 0, [])) else (bif Nat.ble i 51 then (95, .getfield 33, 5, 3, 0, []) else (98, .ifCond .ne 15, 60, 0, 0, [])))) else (bif Nat.ble i 56 then (bif Nat.ble i 54 then (bif Nat.ble i 53 then (101, .aload_n 0, 0, 0, 0, []) else (102, .getfield 12, 0, 3, 0, [])) else (bif Nat.ble i 55 then (105, .iload_n 1, 0, 0, 0, []) else (106, .iload_n 2, 0, 0, 0, []))) else (bif Nat.ble i 58 then (bif Nat.ble i 57 then (107, .iload_n 3, 0, 0, 0, []) else (108, .iload 4, 0, 0, 0, [])) else (bif Nat.ble i 59 then (110, .invokevirtual 97, 23, 5, 0, []) else (113, .return_, 0, 0, 0, [])))))))
/-- GridQuarrels$Reader.fail(I)V -/
def cd56 : Nat → mmE := fun i => (bif Nat.ble i 2 then (bif Nat.ble i 0 then (0, .aload_n 0, 0, 0, 0, []) else (bif Nat.ble i 1 then (1, .getfield 33, 5, 3, 0, []) else (4, .ifCond .ne 8, 6, 0, 0, []))) else (bif Nat.ble i 4 then (bif Nat.ble i 3 then (7, .aload_n 0, 0, 0, 0, []) else (8, .iload_n 1, 0, 0, 0, [])) else (bif Nat.ble i 5 then (9, .putfield 33, 5, 3, 0, []) else (12, .return_, 0, 0, 0, []))))
/-- GridQuarrels$Reader.next()I -/
def cd57 : Nat → mmE := fun i => (bif Nat.ble i 1 then (bif Nat.ble i 0 then (0, .aload_n 0, 0, 0, 0, []) else (1, .aload_n 0, 0, 0, 0, [])) else (bif Nat.ble i 2 then (2, .getfield 30, 4, 3, 0, []) else (bif Nat.ble i 3 then (5, .invokevirtual 101, 58, 2, 0, []) else (8, .ireturn, 0, 0, 0, []))))
/-- GridQuarrels$Reader.byteAt(I)I -/
def cd58 : Nat → mmE := fun i => (bif Nat.ble i 5 then (bif Nat.ble i 2 then (bif Nat.ble i 0 then (0, .iload_n 1, 0, 0, 0, []) else (bif Nat.ble i 1 then (1, .ifCond .lt 20, 11, 0, 0, []) else (4, .iload_n 1, 0, 0, 0, []))) else (bif Nat.ble i 3 then (5, .aload_n 0, 0, 0, 0, []) else (bif Nat.ble i 4 then (6, .getfield 22, 1, 3, 0, []) else (9, .if_icmp .ge 12, 11, 0, 0, [])))) else (bif Nat.ble i 8 then (bif Nat.ble i 6 then (12, .aload_n 0, 0, 0, 0, []) else (bif Nat.ble i 7 then (13, .getfield 18, 3, 3, 0, []) else (16, .iload_n 1, 0, 0, 0, []))) else (bif Nat.ble i 10 then (bif Nat.ble i 9 then (17, .iaload, 0, 0, 0, []) else (18, .goto 4, 12, 0, 0, [])) else (bif Nat.ble i 11 then (21, .iconst (-1), 0, 0, (-1), []) else (22, .ireturn, 0, 0, 0, [])))))
/-- GridQuarrels$Reader.expect(I)V -/
def cd59 : Nat → mmE := fun i => (bif Nat.ble i 8 then (bif Nat.ble i 3 then (bif Nat.ble i 1 then (bif Nat.ble i 0 then (0, .aload_n 0, 0, 0, 0, []) else (1, .getfield 33, 5, 3, 0, [])) else (bif Nat.ble i 2 then (4, .ifCond .eq 4, 4, 0, 0, []) else (7, .return_, 0, 0, 0, []))) else (bif Nat.ble i 5 then (bif Nat.ble i 4 then (8, .aload_n 0, 0, 0, 0, []) else (9, .invokevirtual 67, 57, 1, 0, [])) else (bif Nat.ble i 6 then (12, .iload_n 1, 0, 0, 0, []) else (bif Nat.ble i 7 then (13, .if_icmp .ne 16, 15, 0, 0, []) else (16, .aload_n 0, 0, 0, 0, []))))) else (bif Nat.ble i 13 then (bif Nat.ble i 10 then (bif Nat.ble i 9 then (17, .dup, 0, 0, 0, []) else (18, .getfield 30, 4, 3, 0, [])) else (bif Nat.ble i 11 then (21, .iconst 1, 0, 0, 1, []) else (bif Nat.ble i 12 then (22, .iadd, 0, 0, 0, []) else (23, .putfield 30, 4, 3, 0, [])))) else (bif Nat.ble i 15 then (bif Nat.ble i 14 then (26, .goto 8, 18, 0, 0, []) else (29, .aload_n 0, 0, 0, 0, [])) else (bif Nat.ble i 16 then (30, .iconst 1, 0, 0, 1, []) else (bif Nat.ble i 17 then (31, .invokevirtual 74, 56, 2, 0, []) else (34, .return_, 0, 0, 0, []))))))
/-- GridQuarrels$Reader.sort()I -/
def cd60 : Nat → mmE := fun i => (bif Nat.ble i 9 then (bif Nat.ble i 4 then (bif Nat.ble i 1 then (bif Nat.ble i 0 then (0, .aload_n 0, 0, 0, 0, []) else (1, .invokevirtual 67, 57, 1, 0, [])) else (bif Nat.ble i 2 then (4, .invokestatic 87, 61, 1, 0, []) else (bif Nat.ble i 3 then (7, .istore_n 1, 0, 0, 0, []) else (8, .iload_n 1, 0, 0, 0, [])))) else (bif Nat.ble i 6 then (bif Nat.ble i 5 then (9, .ifCond .ne 8, 9, 0, 0, []) else (12, .aload_n 0, 0, 0, 0, [])) else (bif Nat.ble i 7 then (13, .iconst 1, 0, 0, 1, []) else (bif Nat.ble i 8 then (14, .invokevirtual 74, 56, 2, 0, []) else (17, .aload_n 0, 0, 0, 0, []))))) else (bif Nat.ble i 14 then (bif Nat.ble i 11 then (bif Nat.ble i 10 then (18, .getfield 33, 5, 3, 0, []) else (21, .ifCond .ne 13, 18, 0, 0, [])) else (bif Nat.ble i 12 then (24, .aload_n 0, 0, 0, 0, []) else (bif Nat.ble i 13 then (25, .dup, 0, 0, 0, []) else (26, .getfield 30, 4, 3, 0, [])))) else (bif Nat.ble i 16 then (bif Nat.ble i 15 then (29, .iconst 1, 0, 0, 1, []) else (30, .iadd, 0, 0, 0, [])) else (bif Nat.ble i 17 then (31, .putfield 30, 4, 3, 0, []) else (bif Nat.ble i 18 then (34, .iload_n 1, 0, 0, 0, []) else (35, .ireturn, 0, 0, 0, []))))))
/-- GridQuarrels$Reader.kindOf(I)I -/
def cd61 : Nat → mmE := fun i => (bif Nat.ble i 6 then (bif Nat.ble i 2 then (bif Nat.ble i 0 then (0, .iload_n 0, 0, 0, 0, []) else (bif Nat.ble i 1 then (1, .lookupswitch 61 #[(98, 57), (107, 55), (109, 59), (112, 51), (116, 53)], 12, 0, 0, [(98, 8), (107, 6), (109, 10), (112, 2), (116, 4)]) else (52, .iconst 1, 0, 0, 1, []))) else (bif Nat.ble i 4 then (bif Nat.ble i 3 then (53, .ireturn, 0, 0, 0, []) else (54, .iconst 2, 0, 0, 2, [])) else (bif Nat.ble i 5 then (55, .ireturn, 0, 0, 0, []) else (56, .iconst 3, 0, 0, 3, [])))) else (bif Nat.ble i 9 then (bif Nat.ble i 7 then (57, .ireturn, 0, 0, 0, []) else (bif Nat.ble i 8 then (58, .iconst 4, 0, 0, 4, []) else (59, .ireturn, 0, 0, 0, []))) else (bif Nat.ble i 11 then (bif Nat.ble i 10 then (60, .iconst 5, 0, 0, 5, []) else (61, .ireturn, 0, 0, 0, [])) else (bif Nat.ble i 12 then (62, .iconst 0, 0, 0, 0, []) else (63, .ireturn, 0, 0, 0, [])))))
/-- GridQuarrels$Reader.number(III)I -/
def cd62 : Nat → mmE := fun i => (bif Nat.ble i 30 then (bif Nat.ble i 14 then (bif Nat.ble i 6 then (bif Nat.ble i 2 then (bif Nat.ble i 0 then (0, .aload_n 0, 0, 0, 0, []) else (bif Nat.ble i 1 then (1, .getfield 33, 5, 3, 0, []) else (4, .ifCond .eq 5, 5, 0, 0, []))) else (bif Nat.ble i 4 then (bif Nat.ble i 3 then (7, .iconst 0, 0, 0, 0, []) else (8, .ireturn, 0, 0, 0, [])) else (bif Nat.ble i 5 then (9, .aload_n 0, 0, 0, 0, []) else (10, .invokevirtual 104, 63, 1, 0, [])))) else (bif Nat.ble i 10 then (bif Nat.ble i 8 then (bif Nat.ble i 7 then (13, .istore 4, 0, 0, 0, []) else (15, .iload 4, 0, 0, 0, [])) else (bif Nat.ble i 9 then (17, .iconst 1, 0, 0, 1, []) else (18, .if_icmp .lt 9, 14, 0, 0, []))) else (bif Nat.ble i 12 then (bif Nat.ble i 11 then (21, .iload 4, 0, 0, 0, []) else (23, .iconst 2, 0, 0, 2, [])) else (bif Nat.ble i 13 then (24, .if_icmp .le 10, 19, 0, 0, []) else (27, .aload_n 0, 0, 0, 0, []))))) else (bif Nat.ble i 22 then (bif Nat.ble i 18 then (bif Nat.ble i 16 then (bif Nat.ble i 15 then (28, .iconst 1, 0, 0, 1, []) else (29, .invokevirtual 74, 56, 2, 0, [])) else (bif Nat.ble i 17 then (32, .iconst 0, 0, 0, 0, []) else (33, .ireturn, 0, 0, 0, []))) else (bif Nat.ble i 20 then (bif Nat.ble i 19 then (34, .iconst 0, 0, 0, 0, []) else (35, .istore 5, 0, 0, 0, [])) else (bif Nat.ble i 21 then (37, .iconst 0, 0, 0, 0, []) else (38, .istore 6, 0, 0, 0, [])))) else (bif Nat.ble i 26 then (bif Nat.ble i 24 then (bif Nat.ble i 23 then (40, .iload 6, 0, 0, 0, []) else (42, .iload 4, 0, 0, 0, [])) else (bif Nat.ble i 25 then (44, .if_icmp .ge 31, 41, 0, 0, []) else (47, .iload 5, 0, 0, 0, []))) else (bif Nat.ble i 28 then (bif Nat.ble i 27 then (49, .bipush 10, 0, 0, 10, []) else (51, .imul, 0, 0, 0, [])) else (bif Nat.ble i 29 then (52, .aload_n 0, 0, 0, 0, []) else (53, .aload_n 0, 0, 0, 0, [])))))) else (bif Nat.ble i 45 then (bif Nat.ble i 37 then (bif Nat.ble i 33 then (bif Nat.ble i 31 then (54, .getfield 30, 4, 3, 0, []) else (bif Nat.ble i 32 then (57, .iload 6, 0, 0, 0, []) else (59, .iadd, 0, 0, 0, []))) else (bif Nat.ble i 35 then (bif Nat.ble i 34 then (60, .invokevirtual 101, 58, 2, 0, []) else (63, .iadd, 0, 0, 0, [])) else (bif Nat.ble i 36 then (64, .bipush 48, 0, 0, 48, []) else (66, .isub, 0, 0, 0, [])))) else (bif Nat.ble i 41 then (bif Nat.ble i 39 then (bif Nat.ble i 38 then (67, .istore 5, 0, 0, 0, []) else (69, .iinc 6 1, 0, 0, 1, [])) else (bif Nat.ble i 40 then (72, .goto (-32), 23, 0, 0, []) else (75, .iload 5, 0, 0, 0, []))) else (bif Nat.ble i 43 then (bif Nat.ble i 42 then (77, .iload_n 1, 0, 0, 0, []) else (78, .iload_n 2, 0, 0, 0, [])) else (bif Nat.ble i 44 then (79, .invokestatic 107, 150, 3, 0, []) else (82, .ifCond .eq 9, 49, 0, 0, []))))) else (bif Nat.ble i 53 then (bif Nat.ble i 49 then (bif Nat.ble i 47 then (bif Nat.ble i 46 then (85, .iload 5, 0, 0, 0, []) else (87, .iload_n 3, 0, 0, 0, [])) else (bif Nat.ble i 48 then (88, .if_icmp .ne 10, 54, 0, 0, []) else (91, .aload_n 0, 0, 0, 0, []))) else (bif Nat.ble i 51 then (bif Nat.ble i 50 then (92, .iconst 2, 0, 0, 2, []) else (93, .invokevirtual 74, 56, 2, 0, [])) else (bif Nat.ble i 52 then (96, .iconst 0, 0, 0, 0, []) else (97, .ireturn, 0, 0, 0, [])))) else (bif Nat.ble i 57 then (bif Nat.ble i 55 then (bif Nat.ble i 54 then (98, .aload_n 0, 0, 0, 0, []) else (99, .dup, 0, 0, 0, [])) else (bif Nat.ble i 56 then (100, .getfield 30, 4, 3, 0, []) else (103, .iload 4, 0, 0, 0, []))) else (bif Nat.ble i 59 then (bif Nat.ble i 58 then (105, .iadd, 0, 0, 0, []) else (106, .putfield 30, 4, 3, 0, [])) else (bif Nat.ble i 60 then (109, .iload 5, 0, 0, 0, []) else (111, .ireturn, 0, 0, 0, [])))))))
/-- GridQuarrels$Reader.figuresHere()I -/
def cd63 : Nat → mmE := fun i => (bif Nat.ble i 9 then (bif Nat.ble i 4 then (bif Nat.ble i 1 then (bif Nat.ble i 0 then (0, .iconst 0, 0, 0, 0, []) else (1, .istore_n 1, 0, 0, 0, [])) else (bif Nat.ble i 2 then (2, .aload_n 0, 0, 0, 0, []) else (bif Nat.ble i 3 then (3, .getfield 30, 4, 3, 0, []) else (6, .istore_n 2, 0, 0, 0, [])))) else (bif Nat.ble i 6 then (bif Nat.ble i 5 then (7, .iload_n 2, 0, 0, 0, []) else (8, .aload_n 0, 0, 0, 0, [])) else (bif Nat.ble i 7 then (9, .getfield 22, 1, 3, 0, []) else (bif Nat.ble i 8 then (12, .if_icmp .ge 27, 19, 0, 0, []) else (15, .aload_n 0, 0, 0, 0, []))))) else (bif Nat.ble i 14 then (bif Nat.ble i 11 then (bif Nat.ble i 10 then (16, .iload_n 2, 0, 0, 0, []) else (17, .invokevirtual 101, 58, 2, 0, [])) else (bif Nat.ble i 12 then (20, .bipush 48, 0, 0, 48, []) else (bif Nat.ble i 13 then (22, .bipush 57, 0, 0, 57, []) else (24, .invokestatic 107, 150, 3, 0, [])))) else (bif Nat.ble i 17 then (bif Nat.ble i 15 then (27, .ifCond .eq 12, 19, 0, 0, []) else (bif Nat.ble i 16 then (30, .iinc 1 1, 0, 0, 1, []) else (33, .iinc 2 1, 0, 0, 1, []))) else (bif Nat.ble i 18 then (36, .goto (-29), 5, 0, 0, []) else (bif Nat.ble i 19 then (39, .iload_n 1, 0, 0, 0, []) else (40, .ireturn, 0, 0, 0, []))))))
/-- GridQuarrels$Rows.<init>()V -/
def cd64 : Nat → mmE := fun i => (bif Nat.ble i 12 then (bif Nat.ble i 5 then (bif Nat.ble i 2 then (bif Nat.ble i 0 then (0, .aload_n 0, 0, 0, 0, []) else (bif Nat.ble i 1 then (1, .invokespecial 3, 0, 0, 0, []) else (4, .aload_n 0, 0, 0, 0, []))) else (bif Nat.ble i 3 then (5, .sipush 320, 0, 0, 320, []) else (bif Nat.ble i 4 then (8, .newarray .int, 0, 0, 0, []) else (10, .putfield 11, 0, 4, 0, [])))) else (bif Nat.ble i 8 then (bif Nat.ble i 6 then (13, .aload_n 0, 0, 0, 0, []) else (bif Nat.ble i 7 then (14, .bipush 8, 0, 0, 8, []) else (16, .newarray .int, 0, 0, 0, []))) else (bif Nat.ble i 10 then (bif Nat.ble i 9 then (18, .putfield 15, 1, 4, 0, []) else (21, .aload_n 0, 0, 0, 0, [])) else (bif Nat.ble i 11 then (22, .bipush 8, 0, 0, 8, []) else (24, .newarray .int, 0, 0, 0, []))))) else (bif Nat.ble i 19 then (bif Nat.ble i 15 then (bif Nat.ble i 13 then (26, .putfield 18, 2, 4, 0, []) else (bif Nat.ble i 14 then (29, .iconst 0, 0, 0, 0, []) else (30, .istore_n 1, 0, 0, 0, []))) else (bif Nat.ble i 17 then (bif Nat.ble i 16 then (31, .iload_n 1, 0, 0, 0, []) else (32, .bipush 8, 0, 0, 8, [])) else (bif Nat.ble i 18 then (34, .if_icmp .ge 16, 26, 0, 0, []) else (37, .aload_n 0, 0, 0, 0, [])))) else (bif Nat.ble i 22 then (bif Nat.ble i 20 then (38, .getfield 18, 2, 4, 0, []) else (bif Nat.ble i 21 then (41, .iload_n 1, 0, 0, 0, []) else (42, .iconst (-1), 0, 0, (-1), []))) else (bif Nat.ble i 24 then (bif Nat.ble i 23 then (43, .iastore, 0, 0, 0, []) else (44, .iinc 1 1, 0, 0, 1, [])) else (bif Nat.ble i 25 then (47, .goto (-16), 16, 0, 0, []) else (50, .return_, 0, 0, 0, []))))))
/-- GridQuarrels$Rows.isRow(I)Z -/
def cd65 : Nat → mmE := fun i => (bif Nat.ble i 1 then (bif Nat.ble i 0 then (0, .iload_n 1, 0, 0, 0, []) else (1, .iconst 0, 0, 0, 0, [])) else (bif Nat.ble i 2 then (2, .bipush 7, 0, 0, 7, []) else (bif Nat.ble i 3 then (4, .invokestatic 21, 150, 3, 0, []) else (7, .ireturn, 0, 0, 0, []))))
/-- GridQuarrels$Rows.isMissing(I)Z -/
def cd66 : Nat → mmE := fun i => (bif Nat.ble i 4 then (bif Nat.ble i 1 then (bif Nat.ble i 0 then (0, .aload_n 0, 0, 0, 0, []) else (1, .getfield 18, 2, 4, 0, [])) else (bif Nat.ble i 2 then (4, .iload_n 1, 0, 0, 0, []) else (bif Nat.ble i 3 then (5, .iaload, 0, 0, 0, []) else (6, .iconst (-1), 0, 0, (-1), [])))) else (bif Nat.ble i 6 then (bif Nat.ble i 5 then (7, .if_icmp .ne 7, 8, 0, 0, []) else (10, .iconst 1, 0, 0, 1, [])) else (bif Nat.ble i 7 then (11, .goto 4, 9, 0, 0, []) else (bif Nat.ble i 8 then (14, .iconst 0, 0, 0, 0, []) else (15, .ireturn, 0, 0, 0, [])))))
/-- GridQuarrels$Rows.present()I -/
def cd67 : Nat → mmE := fun i => (bif Nat.ble i 7 then (bif Nat.ble i 3 then (bif Nat.ble i 1 then (bif Nat.ble i 0 then (0, .iconst 0, 0, 0, 0, []) else (1, .istore_n 1, 0, 0, 0, [])) else (bif Nat.ble i 2 then (2, .iconst 0, 0, 0, 0, []) else (3, .istore_n 2, 0, 0, 0, []))) else (bif Nat.ble i 5 then (bif Nat.ble i 4 then (4, .iload_n 2, 0, 0, 0, []) else (5, .bipush 8, 0, 0, 8, [])) else (bif Nat.ble i 6 then (7, .if_icmp .ge 20, 14, 0, 0, []) else (10, .aload_n 0, 0, 0, 0, [])))) else (bif Nat.ble i 11 then (bif Nat.ble i 9 then (bif Nat.ble i 8 then (11, .iload_n 2, 0, 0, 0, []) else (12, .invokevirtual 25, 66, 2, 0, [])) else (bif Nat.ble i 10 then (15, .ifCond .ne 6, 12, 0, 0, []) else (18, .iinc 1 1, 0, 0, 1, []))) else (bif Nat.ble i 13 then (bif Nat.ble i 12 then (21, .iinc 2 1, 0, 0, 1, []) else (24, .goto (-20), 4, 0, 0, [])) else (bif Nat.ble i 14 then (27, .iload_n 1, 0, 0, 0, []) else (28, .ireturn, 0, 0, 0, [])))))
/-- GridQuarrels$Rows.findingOf(III)I -/
def cd68 : Nat → mmE := fun i => (bif Nat.ble i 7 then (bif Nat.ble i 3 then (bif Nat.ble i 1 then (bif Nat.ble i 0 then (0, .aload_n 0, 0, 0, 0, []) else (1, .iload_n 1, 0, 0, 0, [])) else (bif Nat.ble i 2 then (2, .invokevirtual 25, 66, 2, 0, []) else (5, .ifCond .eq 5, 6, 0, 0, []))) else (bif Nat.ble i 5 then (bif Nat.ble i 4 then (8, .iconst 1, 0, 0, 1, []) else (9, .ireturn, 0, 0, 0, [])) else (bif Nat.ble i 6 then (10, .aload_n 0, 0, 0, 0, []) else (11, .iload_n 1, 0, 0, 0, [])))) else (bif Nat.ble i 11 then (bif Nat.ble i 9 then (bif Nat.ble i 8 then (12, .iload_n 2, 0, 0, 0, []) else (13, .iload_n 3, 0, 0, 0, [])) else (bif Nat.ble i 10 then (14, .invokevirtual 29, 70, 4, 0, []) else (17, .ifCond .eq 7, 14, 0, 0, []))) else (bif Nat.ble i 13 then (bif Nat.ble i 12 then (20, .iconst 0, 0, 0, 0, []) else (21, .goto 4, 15, 0, 0, [])) else (bif Nat.ble i 14 then (24, .iconst 2, 0, 0, 2, []) else (25, .ireturn, 0, 0, 0, [])))))
/-- GridQuarrels$Rows.findingOfTwo(IIIII)I -/
def cd69 : Nat → mmE := fun i => (bif Nat.ble i 17 then (bif Nat.ble i 8 then (bif Nat.ble i 3 then (bif Nat.ble i 1 then (bif Nat.ble i 0 then (0, .aload_n 0, 0, 0, 0, []) else (1, .iload_n 1, 0, 0, 0, [])) else (bif Nat.ble i 2 then (2, .invokevirtual 25, 66, 2, 0, []) else (5, .ifCond .ne 11, 8, 0, 0, []))) else (bif Nat.ble i 5 then (bif Nat.ble i 4 then (8, .aload_n 0, 0, 0, 0, []) else (9, .iload_n 3, 0, 0, 0, [])) else (bif Nat.ble i 6 then (10, .invokevirtual 25, 66, 2, 0, []) else (bif Nat.ble i 7 then (13, .ifCond .eq 5, 10, 0, 0, []) else (16, .iconst 1, 0, 0, 1, []))))) else (bif Nat.ble i 12 then (bif Nat.ble i 10 then (bif Nat.ble i 9 then (17, .ireturn, 0, 0, 0, []) else (18, .aload_n 0, 0, 0, 0, [])) else (bif Nat.ble i 11 then (19, .getfield 15, 1, 4, 0, []) else (22, .iload_n 1, 0, 0, 0, []))) else (bif Nat.ble i 14 then (bif Nat.ble i 13 then (23, .iaload, 0, 0, 0, []) else (24, .aload_n 0, 0, 0, 0, [])) else (bif Nat.ble i 15 then (25, .getfield 15, 1, 4, 0, []) else (bif Nat.ble i 16 then (28, .iload_n 3, 0, 0, 0, []) else (29, .iaload, 0, 0, 0, [])))))) else (bif Nat.ble i 26 then (bif Nat.ble i 21 then (bif Nat.ble i 19 then (bif Nat.ble i 18 then (30, .if_icmp .eq 5, 21, 0, 0, []) else (33, .iconst 5, 0, 0, 5, [])) else (bif Nat.ble i 20 then (34, .ireturn, 0, 0, 0, []) else (35, .aload_n 0, 0, 0, 0, []))) else (bif Nat.ble i 23 then (bif Nat.ble i 22 then (36, .iload_n 1, 0, 0, 0, []) else (37, .iload_n 2, 0, 0, 0, [])) else (bif Nat.ble i 24 then (38, .iload 5, 0, 0, 0, []) else (bif Nat.ble i 25 then (40, .invokevirtual 29, 70, 4, 0, []) else (43, .ifCond .eq 19, 35, 0, 0, []))))) else (bif Nat.ble i 31 then (bif Nat.ble i 28 then (bif Nat.ble i 27 then (46, .aload_n 0, 0, 0, 0, []) else (47, .iload_n 3, 0, 0, 0, [])) else (bif Nat.ble i 29 then (48, .iload 4, 0, 0, 0, []) else (bif Nat.ble i 30 then (50, .iload 5, 0, 0, 0, []) else (52, .invokevirtual 29, 70, 4, 0, [])))) else (bif Nat.ble i 33 then (bif Nat.ble i 32 then (55, .ifCond .eq 7, 35, 0, 0, []) else (58, .iconst 0, 0, 0, 0, [])) else (bif Nat.ble i 34 then (59, .goto 4, 36, 0, 0, []) else (bif Nat.ble i 35 then (62, .iconst 2, 0, 0, 2, []) else (63, .ireturn, 0, 0, 0, [])))))))
/-- GridQuarrels$Rows.holds(III)Z -/
def cd70 : Nat → mmE := fun i => (bif Nat.ble i 10 then (bif Nat.ble i 4 then (bif Nat.ble i 1 then (bif Nat.ble i 0 then (0, .iload_n 2, 0, 0, 0, []) else (1, .ifCond .lt 33, 20, 0, 0, [])) else (bif Nat.ble i 2 then (4, .iload_n 3, 0, 0, 0, []) else (bif Nat.ble i 3 then (5, .ifCond .lt 29, 20, 0, 0, []) else (8, .iload_n 3, 0, 0, 0, [])))) else (bif Nat.ble i 7 then (bif Nat.ble i 5 then (9, .aload_n 0, 0, 0, 0, []) else (bif Nat.ble i 6 then (10, .getfield 18, 2, 4, 0, []) else (13, .iload_n 1, 0, 0, 0, []))) else (bif Nat.ble i 8 then (14, .iaload, 0, 0, 0, []) else (bif Nat.ble i 9 then (15, .if_icmp .gt 19, 20, 0, 0, []) else (18, .iload_n 2, 0, 0, 0, []))))) else (bif Nat.ble i 15 then (bif Nat.ble i 12 then (bif Nat.ble i 11 then (19, .aload_n 0, 0, 0, 0, []) else (20, .getfield 18, 2, 4, 0, [])) else (bif Nat.ble i 13 then (23, .iload_n 1, 0, 0, 0, []) else (bif Nat.ble i 14 then (24, .iaload, 0, 0, 0, []) else (25, .iload_n 3, 0, 0, 0, [])))) else (bif Nat.ble i 18 then (bif Nat.ble i 16 then (26, .isub, 0, 0, 0, []) else (bif Nat.ble i 17 then (27, .if_icmp .gt 7, 20, 0, 0, []) else (30, .iconst 1, 0, 0, 1, []))) else (bif Nat.ble i 19 then (31, .goto 4, 21, 0, 0, []) else (bif Nat.ble i 20 then (34, .iconst 0, 0, 0, 0, []) else (35, .ireturn, 0, 0, 0, []))))))
/-- GridQuarrels$Rows.make(III)V -/
def cd71 : Nat → mmE := fun i => (bif Nat.ble i 12 then (bif Nat.ble i 5 then (bif Nat.ble i 2 then (bif Nat.ble i 0 then (0, .aload_n 0, 0, 0, 0, []) else (bif Nat.ble i 1 then (1, .getfield 15, 1, 4, 0, []) else (4, .iload_n 1, 0, 0, 0, []))) else (bif Nat.ble i 3 then (5, .iload_n 2, 0, 0, 0, []) else (bif Nat.ble i 4 then (6, .iastore, 0, 0, 0, []) else (7, .aload_n 0, 0, 0, 0, [])))) else (bif Nat.ble i 8 then (bif Nat.ble i 6 then (8, .getfield 18, 2, 4, 0, []) else (bif Nat.ble i 7 then (11, .iload_n 1, 0, 0, 0, []) else (12, .iload_n 3, 0, 0, 0, []))) else (bif Nat.ble i 10 then (bif Nat.ble i 9 then (13, .iastore, 0, 0, 0, []) else (14, .iconst 0, 0, 0, 0, [])) else (bif Nat.ble i 11 then (15, .istore 4, 0, 0, 0, []) else (17, .iload 4, 0, 0, 0, []))))) else (bif Nat.ble i 19 then (bif Nat.ble i 15 then (bif Nat.ble i 13 then (19, .iload_n 3, 0, 0, 0, []) else (bif Nat.ble i 14 then (20, .if_icmp .ge 22, 26, 0, 0, []) else (23, .aload_n 0, 0, 0, 0, []))) else (bif Nat.ble i 17 then (bif Nat.ble i 16 then (24, .getfield 11, 0, 4, 0, []) else (27, .iload_n 1, 0, 0, 0, [])) else (bif Nat.ble i 18 then (28, .bipush 40, 0, 0, 40, []) else (30, .imul, 0, 0, 0, [])))) else (bif Nat.ble i 22 then (bif Nat.ble i 20 then (31, .iload 4, 0, 0, 0, []) else (bif Nat.ble i 21 then (33, .iadd, 0, 0, 0, []) else (34, .iconst 0, 0, 0, 0, []))) else (bif Nat.ble i 24 then (bif Nat.ble i 23 then (35, .iastore, 0, 0, 0, []) else (36, .iinc 4 1, 0, 0, 1, [])) else (bif Nat.ble i 25 then (39, .goto (-22), 12, 0, 0, []) else (42, .return_, 0, 0, 0, []))))))
/-- GridQuarrels$Rows.remove(I)I -/
def cd72 : Nat → mmE := fun i => (bif Nat.ble i 5 then (bif Nat.ble i 2 then (bif Nat.ble i 0 then (0, .aload_n 0, 0, 0, 0, []) else (bif Nat.ble i 1 then (1, .getfield 18, 2, 4, 0, []) else (4, .iload_n 1, 0, 0, 0, []))) else (bif Nat.ble i 3 then (5, .iaload, 0, 0, 0, []) else (bif Nat.ble i 4 then (6, .istore_n 2, 0, 0, 0, []) else (7, .aload_n 0, 0, 0, 0, [])))) else (bif Nat.ble i 8 then (bif Nat.ble i 6 then (8, .getfield 18, 2, 4, 0, []) else (bif Nat.ble i 7 then (11, .iload_n 1, 0, 0, 0, []) else (12, .iconst (-1), 0, 0, (-1), []))) else (bif Nat.ble i 9 then (13, .iastore, 0, 0, 0, []) else (bif Nat.ble i 10 then (14, .iload_n 2, 0, 0, 0, []) else (15, .ireturn, 0, 0, 0, [])))))
/-- GridQuarrels$Rows.put(III)I -/
def cd73 : Nat → mmE := fun i => (bif Nat.ble i 8 then (bif Nat.ble i 3 then (bif Nat.ble i 1 then (bif Nat.ble i 0 then (0, .aload_n 0, 0, 0, 0, []) else (1, .getfield 15, 1, 4, 0, [])) else (bif Nat.ble i 2 then (4, .iload_n 1, 0, 0, 0, []) else (5, .iaload, 0, 0, 0, []))) else (bif Nat.ble i 5 then (bif Nat.ble i 4 then (6, .iload_n 3, 0, 0, 0, []) else (7, .invokestatic 32, 74, 2, 0, [])) else (bif Nat.ble i 6 then (10, .istore 4, 0, 0, 0, []) else (bif Nat.ble i 7 then (12, .aload_n 0, 0, 0, 0, []) else (13, .getfield 11, 0, 4, 0, []))))) else (bif Nat.ble i 12 then (bif Nat.ble i 10 then (bif Nat.ble i 9 then (16, .iload_n 1, 0, 0, 0, []) else (17, .bipush 40, 0, 0, 40, [])) else (bif Nat.ble i 11 then (19, .imul, 0, 0, 0, []) else (20, .iload_n 2, 0, 0, 0, []))) else (bif Nat.ble i 14 then (bif Nat.ble i 13 then (21, .iadd, 0, 0, 0, []) else (22, .iload 4, 0, 0, 0, [])) else (bif Nat.ble i 15 then (24, .iastore, 0, 0, 0, []) else (bif Nat.ble i 16 then (25, .iload 4, 0, 0, 0, []) else (27, .ireturn, 0, 0, 0, []))))))
/-- GridQuarrels$Rows.cutToLane(II)I -/
def cd74 : Nat → mmE := fun i => (bif Nat.ble i 4 then (bif Nat.ble i 1 then (bif Nat.ble i 0 then (0, .iload_n 0, 0, 0, 0, []) else (1, .lookupswitch 33 #[(0, 27), (1, 30)], 8, 0, 0, [(0, 2), (1, 5)])) else (bif Nat.ble i 2 then (28, .iload_n 1, 0, 0, 0, []) else (bif Nat.ble i 3 then (29, .i2b, 0, 0, 0, []) else (30, .ireturn, 0, 0, 0, [])))) else (bif Nat.ble i 6 then (bif Nat.ble i 5 then (31, .iload_n 1, 0, 0, 0, []) else (32, .i2s, 0, 0, 0, [])) else (bif Nat.ble i 7 then (33, .ireturn, 0, 0, 0, []) else (bif Nat.ble i 8 then (34, .iload_n 1, 0, 0, 0, []) else (35, .ireturn, 0, 0, 0, [])))))
/-- GridQuarrels$Rows.move(IIIII)V -/
def cd75 : Nat → mmE := fun i => (bif Nat.ble i 7 then (bif Nat.ble i 3 then (bif Nat.ble i 1 then (bif Nat.ble i 0 then (0, .aload_n 0, 0, 0, 0, []) else (1, .getfield 11, 0, 4, 0, [])) else (bif Nat.ble i 2 then (4, .iload_n 1, 0, 0, 0, []) else (5, .bipush 40, 0, 0, 40, []))) else (bif Nat.ble i 5 then (bif Nat.ble i 4 then (7, .imul, 0, 0, 0, []) else (8, .iload_n 2, 0, 0, 0, [])) else (bif Nat.ble i 6 then (9, .iadd, 0, 0, 0, []) else (10, .aload_n 0, 0, 0, 0, [])))) else (bif Nat.ble i 11 then (bif Nat.ble i 9 then (bif Nat.ble i 8 then (11, .getfield 11, 0, 4, 0, []) else (14, .iload_n 3, 0, 0, 0, [])) else (bif Nat.ble i 10 then (15, .bipush 40, 0, 0, 40, []) else (17, .imul, 0, 0, 0, []))) else (bif Nat.ble i 13 then (bif Nat.ble i 12 then (18, .iload 4, 0, 0, 0, []) else (20, .iadd, 0, 0, 0, [])) else (bif Nat.ble i 14 then (21, .iload 5, 0, 0, 0, []) else (bif Nat.ble i 15 then (23, .invokestatic 36, 0, 99, 0, []) else (26, .return_, 0, 0, 0, []))))))
/-- GridQuarrels$Rows.tell(III[I)V -/
def cd76 : Nat → mmE := fun i => (bif Nat.ble i 11 then (bif Nat.ble i 5 then (bif Nat.ble i 2 then (bif Nat.ble i 0 then (0, .iconst 0, 0, 0, 0, []) else (bif Nat.ble i 1 then (1, .istore 5, 0, 0, 0, []) else (3, .iload 5, 0, 0, 0, []))) else (bif Nat.ble i 3 then (5, .iload_n 3, 0, 0, 0, []) else (bif Nat.ble i 4 then (6, .if_icmp .ge 36, 24, 0, 0, []) else (9, .iload 5, 0, 0, 0, [])))) else (bif Nat.ble i 8 then (bif Nat.ble i 6 then (11, .aload 4, 0, 0, 0, []) else (bif Nat.ble i 7 then (13, .arraylength, 0, 0, 0, []) else (14, .if_icmp .ge 28, 24, 0, 0, []))) else (bif Nat.ble i 9 then (17, .aload 4, 0, 0, 0, []) else (bif Nat.ble i 10 then (19, .iload 5, 0, 0, 0, []) else (21, .aload_n 0, 0, 0, 0, []))))) else (bif Nat.ble i 17 then (bif Nat.ble i 14 then (bif Nat.ble i 12 then (22, .getfield 11, 0, 4, 0, []) else (bif Nat.ble i 13 then (25, .iload_n 1, 0, 0, 0, []) else (26, .bipush 40, 0, 0, 40, []))) else (bif Nat.ble i 15 then (28, .imul, 0, 0, 0, []) else (bif Nat.ble i 16 then (29, .iload_n 2, 0, 0, 0, []) else (30, .iadd, 0, 0, 0, [])))) else (bif Nat.ble i 20 then (bif Nat.ble i 18 then (31, .iload 5, 0, 0, 0, []) else (bif Nat.ble i 19 then (33, .iadd, 0, 0, 0, []) else (34, .iaload, 0, 0, 0, []))) else (bif Nat.ble i 22 then (bif Nat.ble i 21 then (35, .iastore, 0, 0, 0, []) else (36, .iinc 5 1, 0, 0, 1, [])) else (bif Nat.ble i 23 then (39, .goto (-36), 2, 0, 0, []) else (42, .return_, 0, 0, 0, []))))))
/-- GridQuarrels$Seer.<init>()V -/
def cd77 : Nat → mmE := fun i => (bif Nat.ble i 7 then (bif Nat.ble i 3 then (bif Nat.ble i 1 then (bif Nat.ble i 0 then (0, .aload_n 0, 0, 0, 0, []) else (1, .invokespecial 3, 0, 0, 0, [])) else (bif Nat.ble i 2 then (4, .aload_n 0, 0, 0, 0, []) else (5, .new 9, 2, 0, 0, []))) else (bif Nat.ble i 5 then (bif Nat.ble i 4 then (8, .dup, 0, 0, 0, []) else (9, .invokespecial 11, 14, 1, 0, [])) else (bif Nat.ble i 6 then (12, .putfield 12, 0, 5, 0, []) else (15, .aload_n 0, 0, 0, 0, [])))) else (bif Nat.ble i 11 then (bif Nat.ble i 9 then (bif Nat.ble i 8 then (16, .new 9, 2, 0, 0, []) else (19, .dup, 0, 0, 0, [])) else (bif Nat.ble i 10 then (20, .invokespecial 11, 14, 1, 0, []) else (23, .putfield 18, 1, 5, 0, []))) else (bif Nat.ble i 13 then (bif Nat.ble i 12 then (26, .aload_n 0, 0, 0, 0, []) else (27, .bipush 12, 0, 0, 12, [])) else (bif Nat.ble i 14 then (29, .newarray .int, 0, 0, 0, []) else (bif Nat.ble i 15 then (31, .putfield 21, 2, 5, 0, []) else (34, .return_, 0, 0, 0, []))))))
/-- GridQuarrels$Seer.begin()V -/
def cd78 : Nat → mmE := fun i => (bif Nat.ble i 2 then (bif Nat.ble i 0 then (0, .aload_n 0, 0, 0, 0, []) else (bif Nat.ble i 1 then (1, .getfield 18, 1, 5, 0, []) else (4, .aload_n 0, 0, 0, 0, []))) else (bif Nat.ble i 3 then (5, .getfield 12, 0, 5, 0, []) else (bif Nat.ble i 4 then (8, .invokevirtual 25, 24, 2, 0, []) else (11, .return_, 0, 0, 0, []))))
/-- GridQuarrels$Seer.pass(I)V -/
def cd79 : Nat → mmE := fun i => (bif Nat.ble i 4 then (bif Nat.ble i 1 then (bif Nat.ble i 0 then (0, .iconst 0, 0, 0, 0, []) else (1, .istore_n 2, 0, 0, 0, [])) else (bif Nat.ble i 2 then (2, .iload_n 2, 0, 0, 0, []) else (bif Nat.ble i 3 then (3, .iload_n 1, 0, 0, 0, []) else (4, .if_icmp .ge 16, 10, 0, 0, [])))) else (bif Nat.ble i 7 then (bif Nat.ble i 5 then (7, .aload_n 0, 0, 0, 0, []) else (bif Nat.ble i 6 then (8, .getfield 18, 1, 5, 0, []) else (11, .invokevirtual 29, 32, 1, 0, []))) else (bif Nat.ble i 8 then (14, .iinc 2 1, 0, 0, 1, []) else (bif Nat.ble i 9 then (17, .goto (-15), 2, 0, 0, []) else (20, .return_, 0, 0, 0, [])))))
/-- GridQuarrels$Seer.lookAhead(I)V -/
def cd80 : Nat → mmE := fun i => (bif Nat.ble i 2 then (bif Nat.ble i 0 then (0, .aload_n 0, 0, 0, 0, []) else (bif Nat.ble i 1 then (1, .invokevirtual 32, 78, 1, 0, []) else (4, .aload_n 0, 0, 0, 0, []))) else (bif Nat.ble i 3 then (5, .iload_n 1, 0, 0, 0, []) else (bif Nat.ble i 4 then (6, .invokevirtual 35, 79, 2, 0, []) else (9, .return_, 0, 0, 0, []))))
/-- GridQuarrels$Seer.yearsToDeath(I)I -/
def cd81 : Nat → mmE := fun i => (bif Nat.ble i 8 then (bif Nat.ble i 3 then (bif Nat.ble i 1 then (bif Nat.ble i 0 then (0, .iconst 0, 0, 0, 0, []) else (1, .istore_n 2, 0, 0, 0, [])) else (bif Nat.ble i 2 then (2, .iload_n 2, 0, 0, 0, []) else (3, .bipush 60, 0, 0, 60, []))) else (bif Nat.ble i 5 then (bif Nat.ble i 4 then (5, .if_icmp .gt 29, 17, 0, 0, []) else (8, .aload_n 0, 0, 0, 0, [])) else (bif Nat.ble i 6 then (9, .getfield 18, 1, 5, 0, []) else (bif Nat.ble i 7 then (12, .iload_n 1, 0, 0, 0, []) else (13, .invokevirtual 39, 19, 2, 0, []))))) else (bif Nat.ble i 13 then (bif Nat.ble i 10 then (bif Nat.ble i 9 then (16, .ifCond .eq 5, 12, 0, 0, []) else (19, .iload_n 2, 0, 0, 0, [])) else (bif Nat.ble i 11 then (20, .ireturn, 0, 0, 0, []) else (bif Nat.ble i 12 then (21, .aload_n 0, 0, 0, 0, []) else (22, .getfield 18, 1, 5, 0, [])))) else (bif Nat.ble i 15 then (bif Nat.ble i 14 then (25, .invokevirtual 29, 32, 1, 0, []) else (28, .iinc 2 1, 0, 0, 1, [])) else (bif Nat.ble i 16 then (31, .goto (-29), 2, 0, 0, []) else (bif Nat.ble i 17 then (34, .ldc 43, 0, 0, (-1000000), []) else (36, .ireturn, 0, 0, 0, []))))))
/-- GridQuarrels$Seer.yearsToParish(II)I -/
def cd82 : Nat → mmE := fun i => (bif Nat.ble i 10 then (bif Nat.ble i 4 then (bif Nat.ble i 1 then (bif Nat.ble i 0 then (0, .aload_n 0, 0, 0, 0, []) else (1, .invokevirtual 32, 78, 1, 0, [])) else (bif Nat.ble i 2 then (4, .iconst 0, 0, 0, 0, []) else (bif Nat.ble i 3 then (5, .istore_n 3, 0, 0, 0, []) else (6, .iload_n 3, 0, 0, 0, [])))) else (bif Nat.ble i 7 then (bif Nat.ble i 5 then (7, .bipush 60, 0, 0, 60, []) else (bif Nat.ble i 6 then (9, .if_icmp .gt 30, 20, 0, 0, []) else (12, .aload_n 0, 0, 0, 0, []))) else (bif Nat.ble i 8 then (13, .getfield 18, 1, 5, 0, []) else (bif Nat.ble i 9 then (16, .iload_n 1, 0, 0, 0, []) else (17, .iload_n 2, 0, 0, 0, []))))) else (bif Nat.ble i 15 then (bif Nat.ble i 12 then (bif Nat.ble i 11 then (18, .invokevirtual 44, 38, 3, 0, []) else (21, .ifCond .eq 5, 15, 0, 0, [])) else (bif Nat.ble i 13 then (24, .iload_n 3, 0, 0, 0, []) else (bif Nat.ble i 14 then (25, .ireturn, 0, 0, 0, []) else (26, .aload_n 0, 0, 0, 0, [])))) else (bif Nat.ble i 18 then (bif Nat.ble i 16 then (27, .getfield 18, 1, 5, 0, []) else (bif Nat.ble i 17 then (30, .invokevirtual 29, 32, 1, 0, []) else (33, .iinc 3 1, 0, 0, 1, []))) else (bif Nat.ble i 19 then (36, .goto (-30), 4, 0, 0, []) else (bif Nat.ble i 20 then (39, .ldc 43, 0, 0, (-1000000), []) else (41, .ireturn, 0, 0, 0, []))))))
/-- GridQuarrels$Seer.yearsToMeeting(II)I -/
def cd83 : Nat → mmE := fun i => (bif Nat.ble i 14 then (bif Nat.ble i 6 then (bif Nat.ble i 2 then (bif Nat.ble i 0 then (0, .aload_n 0, 0, 0, 0, []) else (bif Nat.ble i 1 then (1, .invokevirtual 32, 78, 1, 0, []) else (4, .iconst 0, 0, 0, 0, []))) else (bif Nat.ble i 4 then (bif Nat.ble i 3 then (5, .istore_n 3, 0, 0, 0, []) else (6, .iload_n 3, 0, 0, 0, [])) else (bif Nat.ble i 5 then (7, .bipush 60, 0, 0, 60, []) else (9, .if_icmp .gt 49, 29, 0, 0, [])))) else (bif Nat.ble i 10 then (bif Nat.ble i 8 then (bif Nat.ble i 7 then (12, .aload_n 0, 0, 0, 0, []) else (13, .getfield 18, 1, 5, 0, [])) else (bif Nat.ble i 9 then (16, .iload_n 1, 0, 0, 0, []) else (17, .invokevirtual 39, 19, 2, 0, []))) else (bif Nat.ble i 12 then (bif Nat.ble i 11 then (20, .ifCond .ne 25, 24, 0, 0, []) else (23, .aload_n 0, 0, 0, 0, [])) else (bif Nat.ble i 13 then (24, .getfield 18, 1, 5, 0, []) else (27, .iload_n 2, 0, 0, 0, []))))) else (bif Nat.ble i 22 then (bif Nat.ble i 18 then (bif Nat.ble i 16 then (bif Nat.ble i 15 then (28, .aload_n 0, 0, 0, 0, []) else (29, .getfield 18, 1, 5, 0, [])) else (bif Nat.ble i 17 then (32, .getfield 48, 9, 2, 0, []) else (35, .iload_n 1, 0, 0, 0, []))) else (bif Nat.ble i 20 then (bif Nat.ble i 19 then (36, .iaload, 0, 0, 0, []) else (37, .invokevirtual 44, 38, 3, 0, [])) else (bif Nat.ble i 21 then (40, .ifCond .eq 5, 24, 0, 0, []) else (43, .iload_n 3, 0, 0, 0, [])))) else (bif Nat.ble i 26 then (bif Nat.ble i 24 then (bif Nat.ble i 23 then (44, .ireturn, 0, 0, 0, []) else (45, .aload_n 0, 0, 0, 0, [])) else (bif Nat.ble i 25 then (46, .getfield 18, 1, 5, 0, []) else (49, .invokevirtual 29, 32, 1, 0, []))) else (bif Nat.ble i 28 then (bif Nat.ble i 27 then (52, .iinc 3 1, 0, 0, 1, []) else (55, .goto (-49), 4, 0, 0, [])) else (bif Nat.ble i 29 then (58, .ldc 43, 0, 0, (-1000000), []) else (60, .ireturn, 0, 0, 0, []))))))
/-- GridQuarrels$Seer.fewestShut(II)I -/
def cd84 : Nat → mmE := fun i => (bif Nat.ble i 15 then (bif Nat.ble i 7 then (bif Nat.ble i 3 then (bif Nat.ble i 1 then (bif Nat.ble i 0 then (0, .ldc 43, 0, 0, (-1000000), []) else (2, .istore_n 3, 0, 0, 0, [])) else (bif Nat.ble i 2 then (3, .bipush 8, 0, 0, 8, []) else (5, .istore 4, 0, 0, 0, []))) else (bif Nat.ble i 5 then (bif Nat.ble i 4 then (7, .iconst 0, 0, 0, 0, []) else (8, .istore 5, 0, 0, 0, [])) else (bif Nat.ble i 6 then (10, .iload 5, 0, 0, 0, []) else (12, .iconst 1, 0, 0, 1, [])))) else (bif Nat.ble i 11 then (bif Nat.ble i 9 then (bif Nat.ble i 8 then (13, .aload_n 0, 0, 0, 0, []) else (14, .getfield 12, 0, 5, 0, [])) else (bif Nat.ble i 10 then (17, .getfield 51, 1, 2, 0, []) else (20, .ishl, 0, 0, 0, []))) else (bif Nat.ble i 13 then (bif Nat.ble i 12 then (21, .if_icmp .ge 40, 30, 0, 0, []) else (24, .iload 5, 0, 0, 0, [])) else (bif Nat.ble i 14 then (26, .invokestatic 55, 0, 1, 0, []) else (29, .iload 4, 0, 0, 0, []))))) else (bif Nat.ble i 23 then (bif Nat.ble i 19 then (bif Nat.ble i 17 then (bif Nat.ble i 16 then (31, .if_icmp .ge 24, 28, 0, 0, []) else (34, .aload_n 0, 0, 0, 0, [])) else (bif Nat.ble i 18 then (35, .iload 5, 0, 0, 0, []) else (37, .iload_n 1, 0, 0, 0, []))) else (bif Nat.ble i 21 then (bif Nat.ble i 20 then (38, .iload_n 2, 0, 0, 0, []) else (39, .invokevirtual 61, 85, 4, 0, [])) else (bif Nat.ble i 22 then (42, .ifCond .eq 13, 28, 0, 0, []) else (45, .iload 5, 0, 0, 0, [])))) else (bif Nat.ble i 27 then (bif Nat.ble i 25 then (bif Nat.ble i 24 then (47, .istore_n 3, 0, 0, 0, []) else (48, .iload 5, 0, 0, 0, [])) else (bif Nat.ble i 26 then (50, .invokestatic 55, 0, 1, 0, []) else (53, .istore 4, 0, 0, 0, []))) else (bif Nat.ble i 29 then (bif Nat.ble i 28 then (55, .iinc 5 1, 0, 0, 1, []) else (58, .goto (-48), 6, 0, 0, [])) else (bif Nat.ble i 30 then (61, .iload_n 3, 0, 0, 0, []) else (62, .ireturn, 0, 0, 0, []))))))
/-- GridQuarrels$Seer.sparedByShut(III)Z -/
def cd85 : Nat → mmE := fun i => (bif Nat.ble i 11 then (bif Nat.ble i 5 then (bif Nat.ble i 2 then (bif Nat.ble i 0 then (0, .aload_n 0, 0, 0, 0, []) else (bif Nat.ble i 1 then (1, .invokevirtual 32, 78, 1, 0, []) else (4, .aload_n 0, 0, 0, 0, []))) else (bif Nat.ble i 3 then (5, .iload_n 1, 0, 0, 0, []) else (bif Nat.ble i 4 then (6, .bipush 12, 0, 0, 12, []) else (8, .invokevirtual 65, 86, 3, 0, [])))) else (bif Nat.ble i 8 then (bif Nat.ble i 6 then (11, .iconst 0, 0, 0, 0, []) else (bif Nat.ble i 7 then (12, .istore 4, 0, 0, 0, []) else (14, .iload 4, 0, 0, 0, []))) else (bif Nat.ble i 9 then (16, .iload_n 3, 0, 0, 0, []) else (bif Nat.ble i 10 then (17, .if_icmp .ge 26, 22, 0, 0, []) else (20, .aload_n 0, 0, 0, 0, []))))) else (bif Nat.ble i 17 then (bif Nat.ble i 14 then (bif Nat.ble i 12 then (21, .getfield 18, 1, 5, 0, []) else (bif Nat.ble i 13 then (24, .invokevirtual 29, 32, 1, 0, []) else (27, .aload_n 0, 0, 0, 0, []))) else (bif Nat.ble i 15 then (28, .iload_n 2, 0, 0, 0, []) else (bif Nat.ble i 16 then (29, .invokevirtual 69, 87, 2, 0, []) else (32, .ifCond .eq 5, 20, 0, 0, [])))) else (bif Nat.ble i 20 then (bif Nat.ble i 18 then (35, .iconst 0, 0, 0, 0, []) else (bif Nat.ble i 19 then (36, .ireturn, 0, 0, 0, []) else (37, .iinc 4 1, 0, 0, 1, []))) else (bif Nat.ble i 21 then (40, .goto (-26), 8, 0, 0, []) else (bif Nat.ble i 22 then (43, .iconst 1, 0, 0, 1, []) else (44, .ireturn, 0, 0, 0, []))))))
/-- GridQuarrels$Seer.setGrids(II)V -/
def cd86 : Nat → mmE := fun i => (bif Nat.ble i 9 then (bif Nat.ble i 4 then (bif Nat.ble i 1 then (bif Nat.ble i 0 then (0, .iconst 0, 0, 0, 0, []) else (1, .istore_n 3, 0, 0, 0, [])) else (bif Nat.ble i 2 then (2, .iload_n 3, 0, 0, 0, []) else (bif Nat.ble i 3 then (3, .aload_n 0, 0, 0, 0, []) else (4, .getfield 18, 1, 5, 0, [])))) else (bif Nat.ble i 6 then (bif Nat.ble i 5 then (7, .getfield 51, 1, 2, 0, []) else (10, .if_icmp .ge 27, 19, 0, 0, [])) else (bif Nat.ble i 7 then (13, .iload_n 1, 0, 0, 0, []) else (bif Nat.ble i 8 then (14, .iload_n 3, 0, 0, 0, []) else (15, .invokestatic 72, 151, 2, 0, []))))) else (bif Nat.ble i 14 then (bif Nat.ble i 11 then (bif Nat.ble i 10 then (18, .ifCond .eq 13, 17, 0, 0, []) else (21, .aload_n 0, 0, 0, 0, [])) else (bif Nat.ble i 12 then (22, .getfield 18, 1, 5, 0, []) else (bif Nat.ble i 13 then (25, .getfield 75, 7, 2, 0, []) else (28, .iload_n 3, 0, 0, 0, [])))) else (bif Nat.ble i 16 then (bif Nat.ble i 15 then (29, .iload_n 2, 0, 0, 0, []) else (30, .iastore, 0, 0, 0, [])) else (bif Nat.ble i 17 then (31, .iinc 3 1, 0, 0, 1, []) else (bif Nat.ble i 18 then (34, .goto (-32), 2, 0, 0, []) else (37, .return_, 0, 0, 0, []))))))
/-- GridQuarrels$Seer.isEntered(I)Z -/
def cd87 : Nat → mmE := fun i => (bif Nat.ble i 12 then (bif Nat.ble i 5 then (bif Nat.ble i 2 then (bif Nat.ble i 0 then (0, .iconst 0, 0, 0, 0, []) else (bif Nat.ble i 1 then (1, .istore_n 2, 0, 0, 0, []) else (2, .iload_n 2, 0, 0, 0, []))) else (bif Nat.ble i 3 then (3, .aload_n 0, 0, 0, 0, []) else (bif Nat.ble i 4 then (4, .getfield 12, 0, 5, 0, []) else (7, .getfield 78, 2, 2, 0, [])))) else (bif Nat.ble i 8 then (bif Nat.ble i 6 then (10, .if_icmp .ge 37, 25, 0, 0, []) else (bif Nat.ble i 7 then (13, .aload_n 0, 0, 0, 0, []) else (14, .getfield 12, 0, 5, 0, []))) else (bif Nat.ble i 10 then (bif Nat.ble i 9 then (17, .getfield 48, 9, 2, 0, []) else (20, .iload_n 2, 0, 0, 0, [])) else (bif Nat.ble i 11 then (21, .iaload, 0, 0, 0, []) else (22, .iload_n 1, 0, 0, 0, []))))) else (bif Nat.ble i 19 then (bif Nat.ble i 15 then (bif Nat.ble i 13 then (23, .if_icmp .eq 18, 23, 0, 0, []) else (bif Nat.ble i 14 then (26, .aload_n 0, 0, 0, 0, []) else (27, .getfield 18, 1, 5, 0, []))) else (bif Nat.ble i 17 then (bif Nat.ble i 16 then (30, .getfield 48, 9, 2, 0, []) else (33, .iload_n 2, 0, 0, 0, [])) else (bif Nat.ble i 18 then (34, .iaload, 0, 0, 0, []) else (35, .iload_n 1, 0, 0, 0, [])))) else (bif Nat.ble i 22 then (bif Nat.ble i 20 then (36, .if_icmp .ne 5, 23, 0, 0, []) else (bif Nat.ble i 21 then (39, .iconst 1, 0, 0, 1, []) else (40, .ireturn, 0, 0, 0, []))) else (bif Nat.ble i 24 then (bif Nat.ble i 23 then (41, .iinc 2 1, 0, 0, 1, []) else (44, .goto (-42), 2, 0, 0, [])) else (bif Nat.ble i 25 then (47, .iconst 0, 0, 0, 0, []) else (48, .ireturn, 0, 0, 0, []))))))
/-- GridQuarrels$Seer.fewestLures(III)I -/
def cd88 : Nat → mmE := fun i => (bif Nat.ble i 15 then (bif Nat.ble i 7 then (bif Nat.ble i 3 then (bif Nat.ble i 1 then (bif Nat.ble i 0 then (0, .ldc 43, 0, 0, (-1000000), []) else (2, .istore 4, 0, 0, 0, [])) else (bif Nat.ble i 2 then (4, .bipush 8, 0, 0, 8, []) else (6, .istore 5, 0, 0, 0, []))) else (bif Nat.ble i 5 then (bif Nat.ble i 4 then (8, .iconst 0, 0, 0, 0, []) else (9, .istore 6, 0, 0, 0, [])) else (bif Nat.ble i 6 then (11, .iload 6, 0, 0, 0, []) else (13, .iconst 1, 0, 0, 1, [])))) else (bif Nat.ble i 11 then (bif Nat.ble i 9 then (bif Nat.ble i 8 then (14, .aload_n 0, 0, 0, 0, []) else (15, .getfield 12, 0, 5, 0, [])) else (bif Nat.ble i 10 then (18, .getfield 81, 0, 2, 0, []) else (21, .ishl, 0, 0, 0, []))) else (bif Nat.ble i 13 then (bif Nat.ble i 12 then (22, .if_icmp .ge 42, 31, 0, 0, []) else (25, .iload 6, 0, 0, 0, [])) else (bif Nat.ble i 14 then (27, .invokestatic 55, 0, 1, 0, []) else (30, .iload 5, 0, 0, 0, []))))) else (bif Nat.ble i 23 then (bif Nat.ble i 19 then (bif Nat.ble i 17 then (bif Nat.ble i 16 then (32, .if_icmp .ge 26, 29, 0, 0, []) else (35, .aload_n 0, 0, 0, 0, [])) else (bif Nat.ble i 18 then (36, .iload 6, 0, 0, 0, []) else (38, .iload_n 1, 0, 0, 0, []))) else (bif Nat.ble i 21 then (bif Nat.ble i 20 then (39, .iload_n 2, 0, 0, 0, []) else (40, .iload_n 3, 0, 0, 0, [])) else (bif Nat.ble i 22 then (41, .invokevirtual 84, 89, 5, 0, []) else (44, .ifCond .eq 14, 29, 0, 0, [])))) else (bif Nat.ble i 27 then (bif Nat.ble i 25 then (bif Nat.ble i 24 then (47, .iload 6, 0, 0, 0, []) else (49, .istore 4, 0, 0, 0, [])) else (bif Nat.ble i 26 then (51, .iload 6, 0, 0, 0, []) else (53, .invokestatic 55, 0, 1, 0, []))) else (bif Nat.ble i 29 then (bif Nat.ble i 28 then (56, .istore 5, 0, 0, 0, []) else (58, .iinc 6 1, 0, 0, 1, [])) else (bif Nat.ble i 30 then (61, .goto (-50), 6, 0, 0, []) else (bif Nat.ble i 31 then (64, .iload 4, 0, 0, 0, []) else (66, .ireturn, 0, 0, 0, [])))))))
/-- GridQuarrels$Seer.isLured(IIII)Z -/
def cd89 : Nat → mmE := fun i => (bif Nat.ble i 13 then (bif Nat.ble i 6 then (bif Nat.ble i 2 then (bif Nat.ble i 0 then (0, .aload_n 0, 0, 0, 0, []) else (bif Nat.ble i 1 then (1, .invokevirtual 32, 78, 1, 0, []) else (4, .iconst 0, 0, 0, 0, []))) else (bif Nat.ble i 4 then (bif Nat.ble i 3 then (5, .istore 5, 0, 0, 0, []) else (7, .iload 5, 0, 0, 0, [])) else (bif Nat.ble i 5 then (9, .aload_n 0, 0, 0, 0, []) else (10, .getfield 18, 1, 5, 0, [])))) else (bif Nat.ble i 9 then (bif Nat.ble i 7 then (13, .getfield 81, 0, 2, 0, []) else (bif Nat.ble i 8 then (16, .if_icmp .ge 29, 20, 0, 0, []) else (19, .iload_n 1, 0, 0, 0, []))) else (bif Nat.ble i 11 then (bif Nat.ble i 10 then (20, .iload 5, 0, 0, 0, []) else (22, .invokestatic 72, 151, 2, 0, [])) else (bif Nat.ble i 12 then (25, .ifCond .eq 14, 18, 0, 0, []) else (28, .aload_n 0, 0, 0, 0, []))))) else (bif Nat.ble i 20 then (bif Nat.ble i 16 then (bif Nat.ble i 14 then (29, .getfield 18, 1, 5, 0, []) else (bif Nat.ble i 15 then (32, .iload 5, 0, 0, 0, []) else (34, .bipush 9, 0, 0, 9, []))) else (bif Nat.ble i 18 then (bif Nat.ble i 17 then (36, .invokevirtual 88, 35, 3, 0, []) else (39, .iinc 5 1, 0, 0, 1, [])) else (bif Nat.ble i 19 then (42, .goto (-35), 4, 0, 0, []) else (45, .aload_n 0, 0, 0, 0, [])))) else (bif Nat.ble i 24 then (bif Nat.ble i 22 then (bif Nat.ble i 21 then (46, .iload 4, 0, 0, 0, []) else (48, .invokevirtual 35, 79, 2, 0, [])) else (bif Nat.ble i 23 then (51, .aload_n 0, 0, 0, 0, []) else (52, .getfield 18, 1, 5, 0, []))) else (bif Nat.ble i 26 then (bif Nat.ble i 25 then (55, .iload_n 2, 0, 0, 0, []) else (56, .iload_n 3, 0, 0, 0, [])) else (bif Nat.ble i 27 then (57, .invokevirtual 44, 38, 3, 0, []) else (60, .ireturn, 0, 0, 0, []))))))
/-- GridQuarrels$Seer.worstLoss(I)I -/
def cd90 : Nat → mmE := fun i => (bif Nat.ble i 16 then (bif Nat.ble i 7 then (bif Nat.ble i 3 then (bif Nat.ble i 1 then (bif Nat.ble i 0 then (0, .ldc 43, 0, 0, (-1000000), []) else (2, .istore_n 2, 0, 0, 0, [])) else (bif Nat.ble i 2 then (3, .bipush 61, 0, 0, 61, []) else (5, .istore_n 3, 0, 0, 0, []))) else (bif Nat.ble i 5 then (bif Nat.ble i 4 then (6, .iconst 0, 0, 0, 0, []) else (7, .istore 4, 0, 0, 0, [])) else (bif Nat.ble i 6 then (9, .iload 4, 0, 0, 0, []) else (11, .aload_n 0, 0, 0, 0, [])))) else (bif Nat.ble i 11 then (bif Nat.ble i 9 then (bif Nat.ble i 8 then (12, .getfield 12, 0, 5, 0, []) else (15, .getfield 81, 0, 2, 0, [])) else (bif Nat.ble i 10 then (18, .if_icmp .ge 48, 33, 0, 0, []) else (21, .aload_n 0, 0, 0, 0, []))) else (bif Nat.ble i 13 then (bif Nat.ble i 12 then (22, .getfield 12, 0, 5, 0, []) else (25, .iload_n 1, 0, 0, 0, [])) else (bif Nat.ble i 14 then (26, .invokevirtual 39, 19, 2, 0, []) else (bif Nat.ble i 15 then (29, .ifCond .ne 37, 33, 0, 0, []) else (32, .aload_n 0, 0, 0, 0, [])))))) else (bif Nat.ble i 25 then (bif Nat.ble i 20 then (bif Nat.ble i 18 then (bif Nat.ble i 17 then (33, .iload_n 1, 0, 0, 0, []) else (34, .iload 4, 0, 0, 0, [])) else (bif Nat.ble i 19 then (36, .invokevirtual 91, 91, 3, 0, []) else (39, .istore 5, 0, 0, 0, []))) else (bif Nat.ble i 22 then (bif Nat.ble i 21 then (41, .iload 5, 0, 0, 0, []) else (43, .ldc 43, 0, 0, (-1000000), [])) else (bif Nat.ble i 23 then (45, .if_icmp .eq 15, 31, 0, 0, []) else (bif Nat.ble i 24 then (48, .iload 5, 0, 0, 0, []) else (50, .iload_n 3, 0, 0, 0, []))))) else (bif Nat.ble i 29 then (bif Nat.ble i 27 then (bif Nat.ble i 26 then (51, .if_icmp .ge 9, 31, 0, 0, []) else (54, .iload 4, 0, 0, 0, [])) else (bif Nat.ble i 28 then (56, .istore_n 2, 0, 0, 0, []) else (57, .iload 5, 0, 0, 0, []))) else (bif Nat.ble i 31 then (bif Nat.ble i 30 then (59, .istore_n 3, 0, 0, 0, []) else (60, .iinc 4 1, 0, 0, 1, [])) else (bif Nat.ble i 32 then (63, .goto (-54), 6, 0, 0, []) else (bif Nat.ble i 33 then (66, .iload_n 2, 0, 0, 0, []) else (67, .ireturn, 0, 0, 0, [])))))))
/-- GridQuarrels$Seer.deathWithout(II)I -/
def cd91 : Nat → mmE := fun i => (bif Nat.ble i 5 then (bif Nat.ble i 2 then (bif Nat.ble i 0 then (0, .aload_n 0, 0, 0, 0, []) else (bif Nat.ble i 1 then (1, .invokevirtual 32, 78, 1, 0, []) else (4, .aload_n 0, 0, 0, 0, []))) else (bif Nat.ble i 3 then (5, .getfield 18, 1, 5, 0, []) else (bif Nat.ble i 4 then (8, .getfield 95, 4, 2, 0, []) else (11, .iload_n 2, 0, 0, 0, [])))) else (bif Nat.ble i 8 then (bif Nat.ble i 6 then (12, .iconst 0, 0, 0, 0, []) else (bif Nat.ble i 7 then (13, .iastore, 0, 0, 0, []) else (14, .aload_n 0, 0, 0, 0, []))) else (bif Nat.ble i 9 then (15, .iload_n 1, 0, 0, 0, []) else (bif Nat.ble i 10 then (16, .invokevirtual 98, 81, 2, 0, []) else (19, .ireturn, 0, 0, 0, [])))))
/-- GridQuarrels$Seer.fits(II)Z -/
def cd92 : Nat → mmE := fun i => (bif Nat.ble i 12 then (bif Nat.ble i 5 then (bif Nat.ble i 2 then (bif Nat.ble i 0 then (0, .iconst 0, 0, 0, 0, []) else (bif Nat.ble i 1 then (1, .istore_n 3, 0, 0, 0, []) else (2, .iload_n 3, 0, 0, 0, []))) else (bif Nat.ble i 3 then (3, .iload_n 2, 0, 0, 0, []) else (bif Nat.ble i 4 then (4, .if_icmp .ge 42, 25, 0, 0, []) else (7, .iload_n 3, 0, 0, 0, [])))) else (bif Nat.ble i 8 then (bif Nat.ble i 6 then (8, .bipush 12, 0, 0, 12, []) else (bif Nat.ble i 7 then (10, .if_icmp .ge 36, 25, 0, 0, []) else (13, .aload_n 0, 0, 0, 0, []))) else (bif Nat.ble i 10 then (bif Nat.ble i 9 then (14, .getfield 18, 1, 5, 0, []) else (17, .invokevirtual 29, 32, 1, 0, [])) else (bif Nat.ble i 11 then (20, .aload_n 0, 0, 0, 0, []) else (21, .getfield 18, 1, 5, 0, []))))) else (bif Nat.ble i 19 then (bif Nat.ble i 15 then (bif Nat.ble i 13 then (24, .getfield 48, 9, 2, 0, []) else (bif Nat.ble i 14 then (27, .iload_n 1, 0, 0, 0, []) else (28, .iaload, 0, 0, 0, []))) else (bif Nat.ble i 17 then (bif Nat.ble i 16 then (29, .aload_n 0, 0, 0, 0, []) else (30, .getfield 21, 2, 5, 0, [])) else (bif Nat.ble i 18 then (33, .iload_n 3, 0, 0, 0, []) else (34, .iaload, 0, 0, 0, [])))) else (bif Nat.ble i 22 then (bif Nat.ble i 20 then (35, .if_icmp .eq 5, 23, 0, 0, []) else (bif Nat.ble i 21 then (38, .iconst 0, 0, 0, 0, []) else (39, .ireturn, 0, 0, 0, []))) else (bif Nat.ble i 24 then (bif Nat.ble i 23 then (40, .iinc 3 1, 0, 0, 1, []) else (43, .goto (-41), 2, 0, 0, [])) else (bif Nat.ble i 25 then (46, .iconst 1, 0, 0, 1, []) else (47, .ireturn, 0, 0, 0, []))))))
/-- GridQuarrels$Seer.kindsThatFit(II)I -/
def cd93 : Nat → mmE := fun i => (bif Nat.ble i 14 then (bif Nat.ble i 6 then (bif Nat.ble i 2 then (bif Nat.ble i 0 then (0, .iconst 0, 0, 0, 0, []) else (bif Nat.ble i 1 then (1, .istore_n 3, 0, 0, 0, []) else (2, .iconst 1, 0, 0, 1, []))) else (bif Nat.ble i 4 then (bif Nat.ble i 3 then (3, .istore 4, 0, 0, 0, []) else (5, .iload 4, 0, 0, 0, [])) else (bif Nat.ble i 5 then (7, .iconst 5, 0, 0, 5, []) else (8, .if_icmp .gt 40, 28, 0, 0, [])))) else (bif Nat.ble i 10 then (bif Nat.ble i 8 then (bif Nat.ble i 7 then (11, .aload_n 0, 0, 0, 0, []) else (12, .invokevirtual 32, 78, 1, 0, [])) else (bif Nat.ble i 9 then (15, .aload_n 0, 0, 0, 0, []) else (16, .getfield 18, 1, 5, 0, []))) else (bif Nat.ble i 12 then (bif Nat.ble i 11 then (19, .getfield 101, 8, 2, 0, []) else (22, .iload_n 1, 0, 0, 0, [])) else (bif Nat.ble i 13 then (23, .iload 4, 0, 0, 0, []) else (25, .iastore, 0, 0, 0, []))))) else (bif Nat.ble i 21 then (bif Nat.ble i 17 then (bif Nat.ble i 15 then (26, .aload_n 0, 0, 0, 0, []) else (bif Nat.ble i 16 then (27, .iload_n 1, 0, 0, 0, []) else (28, .iload_n 2, 0, 0, 0, []))) else (bif Nat.ble i 19 then (bif Nat.ble i 18 then (29, .invokevirtual 104, 92, 3, 0, []) else (32, .ifCond .eq 10, 26, 0, 0, [])) else (bif Nat.ble i 20 then (35, .iload_n 3, 0, 0, 0, []) else (36, .iconst 1, 0, 0, 1, [])))) else (bif Nat.ble i 25 then (bif Nat.ble i 23 then (bif Nat.ble i 22 then (37, .iload 4, 0, 0, 0, []) else (39, .ishl, 0, 0, 0, [])) else (bif Nat.ble i 24 then (40, .ior, 0, 0, 0, []) else (41, .istore_n 3, 0, 0, 0, []))) else (bif Nat.ble i 27 then (bif Nat.ble i 26 then (42, .iinc 4 1, 0, 0, 1, []) else (45, .goto (-40), 4, 0, 0, [])) else (bif Nat.ble i 28 then (48, .iload_n 3, 0, 0, 0, []) else (49, .ireturn, 0, 0, 0, []))))))
/-- GridQuarrels$Seer.sizesThatFit(II)I -/
def cd94 : Nat → mmE := fun i => (bif Nat.ble i 14 then (bif Nat.ble i 6 then (bif Nat.ble i 2 then (bif Nat.ble i 0 then (0, .iconst 0, 0, 0, 0, []) else (bif Nat.ble i 1 then (1, .istore_n 3, 0, 0, 0, []) else (2, .iconst 1, 0, 0, 1, []))) else (bif Nat.ble i 4 then (bif Nat.ble i 3 then (3, .istore 4, 0, 0, 0, []) else (5, .iload 4, 0, 0, 0, [])) else (bif Nat.ble i 5 then (7, .bipush 9, 0, 0, 9, []) else (9, .if_icmp .gt 40, 28, 0, 0, [])))) else (bif Nat.ble i 10 then (bif Nat.ble i 8 then (bif Nat.ble i 7 then (12, .aload_n 0, 0, 0, 0, []) else (13, .invokevirtual 32, 78, 1, 0, [])) else (bif Nat.ble i 9 then (16, .aload_n 0, 0, 0, 0, []) else (17, .getfield 18, 1, 5, 0, []))) else (bif Nat.ble i 12 then (bif Nat.ble i 11 then (20, .getfield 107, 10, 2, 0, []) else (23, .iload_n 1, 0, 0, 0, [])) else (bif Nat.ble i 13 then (24, .iload 4, 0, 0, 0, []) else (26, .iastore, 0, 0, 0, []))))) else (bif Nat.ble i 21 then (bif Nat.ble i 17 then (bif Nat.ble i 15 then (27, .aload_n 0, 0, 0, 0, []) else (bif Nat.ble i 16 then (28, .iload_n 1, 0, 0, 0, []) else (29, .iload_n 2, 0, 0, 0, []))) else (bif Nat.ble i 19 then (bif Nat.ble i 18 then (30, .invokevirtual 104, 92, 3, 0, []) else (33, .ifCond .eq 10, 26, 0, 0, [])) else (bif Nat.ble i 20 then (36, .iload_n 3, 0, 0, 0, []) else (37, .iconst 1, 0, 0, 1, [])))) else (bif Nat.ble i 25 then (bif Nat.ble i 23 then (bif Nat.ble i 22 then (38, .iload 4, 0, 0, 0, []) else (40, .ishl, 0, 0, 0, [])) else (bif Nat.ble i 24 then (41, .ior, 0, 0, 0, []) else (42, .istore_n 3, 0, 0, 0, []))) else (bif Nat.ble i 27 then (bif Nat.ble i 26 then (43, .iinc 4 1, 0, 0, 1, []) else (46, .goto (-41), 4, 0, 0, [])) else (bif Nat.ble i 28 then (49, .iload_n 3, 0, 0, 0, []) else (50, .ireturn, 0, 0, 0, []))))))
/-- GridQuarrels$Seer.placesThatFit(II)I -/
def cd95 : Nat → mmE := fun i => (bif Nat.ble i 15 then (bif Nat.ble i 7 then (bif Nat.ble i 3 then (bif Nat.ble i 1 then (bif Nat.ble i 0 then (0, .iconst 0, 0, 0, 0, []) else (1, .istore_n 3, 0, 0, 0, [])) else (bif Nat.ble i 2 then (2, .iconst 0, 0, 0, 0, []) else (3, .istore 4, 0, 0, 0, []))) else (bif Nat.ble i 5 then (bif Nat.ble i 4 then (5, .iload 4, 0, 0, 0, []) else (7, .aload_n 0, 0, 0, 0, [])) else (bif Nat.ble i 6 then (8, .getfield 12, 0, 5, 0, []) else (11, .getfield 81, 0, 2, 0, [])))) else (bif Nat.ble i 11 then (bif Nat.ble i 9 then (bif Nat.ble i 8 then (14, .if_icmp .ge 40, 30, 0, 0, []) else (17, .aload_n 0, 0, 0, 0, [])) else (bif Nat.ble i 10 then (18, .invokevirtual 32, 78, 1, 0, []) else (21, .aload_n 0, 0, 0, 0, []))) else (bif Nat.ble i 13 then (bif Nat.ble i 12 then (22, .getfield 18, 1, 5, 0, []) else (25, .getfield 48, 9, 2, 0, [])) else (bif Nat.ble i 14 then (28, .iload_n 1, 0, 0, 0, []) else (29, .iload 4, 0, 0, 0, []))))) else (bif Nat.ble i 23 then (bif Nat.ble i 19 then (bif Nat.ble i 17 then (bif Nat.ble i 16 then (31, .iastore, 0, 0, 0, []) else (32, .aload_n 0, 0, 0, 0, [])) else (bif Nat.ble i 18 then (33, .iload_n 1, 0, 0, 0, []) else (34, .iload_n 2, 0, 0, 0, []))) else (bif Nat.ble i 21 then (bif Nat.ble i 20 then (35, .invokevirtual 104, 92, 3, 0, []) else (38, .ifCond .eq 10, 28, 0, 0, [])) else (bif Nat.ble i 22 then (41, .iload_n 3, 0, 0, 0, []) else (42, .iconst 1, 0, 0, 1, [])))) else (bif Nat.ble i 27 then (bif Nat.ble i 25 then (bif Nat.ble i 24 then (43, .iload 4, 0, 0, 0, []) else (45, .ishl, 0, 0, 0, [])) else (bif Nat.ble i 26 then (46, .ior, 0, 0, 0, []) else (47, .istore_n 3, 0, 0, 0, []))) else (bif Nat.ble i 29 then (bif Nat.ble i 28 then (48, .iinc 4 1, 0, 0, 1, []) else (51, .goto (-46), 4, 0, 0, [])) else (bif Nat.ble i 30 then (54, .iload_n 3, 0, 0, 0, []) else (55, .ireturn, 0, 0, 0, []))))))
/-- GridQuarrels$Seer.gridsThatFit(III)I -/
def cd96 : Nat → mmE := fun i => (bif Nat.ble i 14 then (bif Nat.ble i 6 then (bif Nat.ble i 2 then (bif Nat.ble i 0 then (0, .iconst 0, 0, 0, 0, []) else (bif Nat.ble i 1 then (1, .istore 4, 0, 0, 0, []) else (3, .iconst 0, 0, 0, 0, []))) else (bif Nat.ble i 4 then (bif Nat.ble i 3 then (4, .istore 5, 0, 0, 0, []) else (6, .iload 5, 0, 0, 0, [])) else (bif Nat.ble i 5 then (8, .bipush 9, 0, 0, 9, []) else (10, .if_icmp .gt 42, 28, 0, 0, [])))) else (bif Nat.ble i 10 then (bif Nat.ble i 8 then (bif Nat.ble i 7 then (13, .aload_n 0, 0, 0, 0, []) else (14, .invokevirtual 32, 78, 1, 0, [])) else (bif Nat.ble i 9 then (17, .aload_n 0, 0, 0, 0, []) else (18, .getfield 18, 1, 5, 0, []))) else (bif Nat.ble i 12 then (bif Nat.ble i 11 then (21, .getfield 75, 7, 2, 0, []) else (24, .iload_n 1, 0, 0, 0, [])) else (bif Nat.ble i 13 then (25, .iload 5, 0, 0, 0, []) else (27, .iastore, 0, 0, 0, []))))) else (bif Nat.ble i 21 then (bif Nat.ble i 17 then (bif Nat.ble i 15 then (28, .aload_n 0, 0, 0, 0, []) else (bif Nat.ble i 16 then (29, .iload_n 2, 0, 0, 0, []) else (30, .iload_n 3, 0, 0, 0, []))) else (bif Nat.ble i 19 then (bif Nat.ble i 18 then (31, .invokevirtual 104, 92, 3, 0, []) else (34, .ifCond .eq 12, 26, 0, 0, [])) else (bif Nat.ble i 20 then (37, .iload 4, 0, 0, 0, []) else (39, .iconst 1, 0, 0, 1, [])))) else (bif Nat.ble i 25 then (bif Nat.ble i 23 then (bif Nat.ble i 22 then (40, .iload 5, 0, 0, 0, []) else (42, .ishl, 0, 0, 0, [])) else (bif Nat.ble i 24 then (43, .ior, 0, 0, 0, []) else (44, .istore 4, 0, 0, 0, []))) else (bif Nat.ble i 27 then (bif Nat.ble i 26 then (46, .iinc 5 1, 0, 0, 1, []) else (49, .goto (-43), 4, 0, 0, [])) else (bif Nat.ble i 28 then (52, .iload 4, 0, 0, 0, []) else (54, .ireturn, 0, 0, 0, []))))))
/-- GridQuarrels$Seer.quarrelsThatFit(I)I -/
def cd97 : Nat → mmE := fun i => (bif Nat.ble i 12 then (bif Nat.ble i 5 then (bif Nat.ble i 2 then (bif Nat.ble i 0 then (0, .iconst 0, 0, 0, 0, []) else (bif Nat.ble i 1 then (1, .istore_n 2, 0, 0, 0, []) else (2, .iconst 0, 0, 0, 0, []))) else (bif Nat.ble i 3 then (3, .istore_n 3, 0, 0, 0, []) else (bif Nat.ble i 4 then (4, .iload_n 3, 0, 0, 0, []) else (5, .aload_n 0, 0, 0, 0, [])))) else (bif Nat.ble i 8 then (bif Nat.ble i 6 then (6, .getfield 12, 0, 5, 0, []) else (bif Nat.ble i 7 then (9, .getfield 78, 2, 2, 0, []) else (12, .if_icmp .ge 28, 24, 0, 0, []))) else (bif Nat.ble i 10 then (bif Nat.ble i 9 then (15, .aload_n 0, 0, 0, 0, []) else (16, .invokevirtual 32, 78, 1, 0, [])) else (bif Nat.ble i 11 then (19, .aload_n 0, 0, 0, 0, []) else (20, .iload_n 3, 0, 0, 0, []))))) else (bif Nat.ble i 18 then (bif Nat.ble i 15 then (bif Nat.ble i 13 then (21, .iload_n 1, 0, 0, 0, []) else (bif Nat.ble i 14 then (22, .invokevirtual 104, 92, 3, 0, []) else (25, .ifCond .eq 9, 22, 0, 0, []))) else (bif Nat.ble i 16 then (28, .iload_n 2, 0, 0, 0, []) else (bif Nat.ble i 17 then (29, .iconst 1, 0, 0, 1, []) else (30, .iload_n 3, 0, 0, 0, [])))) else (bif Nat.ble i 21 then (bif Nat.ble i 19 then (31, .ishl, 0, 0, 0, []) else (bif Nat.ble i 20 then (32, .ior, 0, 0, 0, []) else (33, .istore_n 2, 0, 0, 0, []))) else (bif Nat.ble i 23 then (bif Nat.ble i 22 then (34, .iinc 3 1, 0, 0, 1, []) else (37, .goto (-33), 4, 0, 0, [])) else (bif Nat.ble i 24 then (40, .iload_n 2, 0, 0, 0, []) else (41, .ireturn, 0, 0, 0, []))))))
/-- GridQuarrels$Seer.roadsWithBars()I -/
def cd98 : Nat → mmE := fun i => (bif Nat.ble i 11 then (bif Nat.ble i 5 then (bif Nat.ble i 2 then (bif Nat.ble i 0 then (0, .iconst 0, 0, 0, 0, []) else (bif Nat.ble i 1 then (1, .istore_n 1, 0, 0, 0, []) else (2, .iconst 0, 0, 0, 0, []))) else (bif Nat.ble i 3 then (3, .istore_n 2, 0, 0, 0, []) else (bif Nat.ble i 4 then (4, .iload_n 2, 0, 0, 0, []) else (5, .aload_n 0, 0, 0, 0, [])))) else (bif Nat.ble i 8 then (bif Nat.ble i 6 then (6, .getfield 12, 0, 5, 0, []) else (bif Nat.ble i 7 then (9, .getfield 51, 1, 2, 0, []) else (12, .if_icmp .ge 27, 23, 0, 0, []))) else (bif Nat.ble i 9 then (15, .aload_n 0, 0, 0, 0, []) else (bif Nat.ble i 10 then (16, .getfield 12, 0, 5, 0, []) else (19, .getfield 75, 7, 2, 0, []))))) else (bif Nat.ble i 17 then (bif Nat.ble i 14 then (bif Nat.ble i 12 then (22, .iload_n 2, 0, 0, 0, []) else (bif Nat.ble i 13 then (23, .iaload, 0, 0, 0, []) else (24, .ifCond .le 9, 21, 0, 0, []))) else (bif Nat.ble i 15 then (27, .iload_n 1, 0, 0, 0, []) else (bif Nat.ble i 16 then (28, .iconst 1, 0, 0, 1, []) else (29, .iload_n 2, 0, 0, 0, [])))) else (bif Nat.ble i 20 then (bif Nat.ble i 18 then (30, .ishl, 0, 0, 0, []) else (bif Nat.ble i 19 then (31, .ior, 0, 0, 0, []) else (32, .istore_n 1, 0, 0, 0, []))) else (bif Nat.ble i 22 then (bif Nat.ble i 21 then (33, .iinc 2 1, 0, 0, 1, []) else (36, .goto (-32), 4, 0, 0, [])) else (bif Nat.ble i 23 then (39, .iload_n 1, 0, 0, 0, []) else (40, .ireturn, 0, 0, 0, []))))))
/-- GridQuarrels$Seer.allCases()J -/
def cd99 : Nat → mmE := fun i => (bif Nat.ble i 2 then (bif Nat.ble i 0 then (0, .bipush 10, 0, 0, 10, []) else (bif Nat.ble i 1 then (2, .aload_n 0, 0, 0, 0, []) else (3, .invokevirtual 110, 98, 1, 0, []))) else (bif Nat.ble i 3 then (6, .invokestatic 55, 0, 1, 0, []) else (bif Nat.ble i 4 then (9, .invokestatic 114, 103, 2, 0, []) else (12, .lreturn, 0, 0, 0, []))))
/-- GridQuarrels$Seer.snowyCases(IIII)J -/
def cd100 : Nat → mmE := fun i => (bif Nat.ble i 22 then (bif Nat.ble i 10 then (bif Nat.ble i 4 then (bif Nat.ble i 1 then (bif Nat.ble i 0 then (0, .aload_n 0, 0, 0, 0, []) else (1, .invokevirtual 110, 98, 1, 0, [])) else (bif Nat.ble i 2 then (4, .istore 5, 0, 0, 0, []) else (bif Nat.ble i 3 then (6, .lconst 0, 0, 0, 0, []) else (7, .lstore 6, 0, 0, 0, [])))) else (bif Nat.ble i 7 then (bif Nat.ble i 5 then (9, .iconst 0, 0, 0, 0, []) else (bif Nat.ble i 6 then (10, .istore 8, 0, 0, 0, []) else (12, .iload 8, 0, 0, 0, []))) else (bif Nat.ble i 8 then (14, .iconst 1, 0, 0, 1, []) else (bif Nat.ble i 9 then (15, .aload_n 0, 0, 0, 0, []) else (16, .getfield 12, 0, 5, 0, []))))) else (bif Nat.ble i 16 then (bif Nat.ble i 13 then (bif Nat.ble i 11 then (19, .getfield 51, 1, 2, 0, []) else (bif Nat.ble i 12 then (22, .ishl, 0, 0, 0, []) else (23, .if_icmp .ge 60, 44, 0, 0, []))) else (bif Nat.ble i 14 then (26, .iload 8, 0, 0, 0, []) else (bif Nat.ble i 15 then (28, .iload 5, 0, 0, 0, []) else (30, .iconst (-1), 0, 0, (-1), [])))) else (bif Nat.ble i 19 then (bif Nat.ble i 17 then (31, .ixor, 0, 0, 0, []) else (bif Nat.ble i 18 then (32, .iand, 0, 0, 0, []) else (33, .ifCond .ne 15, 25, 0, 0, []))) else (bif Nat.ble i 20 then (36, .iload 8, 0, 0, 0, []) else (bif Nat.ble i 21 then (38, .iload 5, 0, 0, 0, []) else (40, .iload 4, 0, 0, 0, [])))))) else (bif Nat.ble i 33 then (bif Nat.ble i 27 then (bif Nat.ble i 24 then (bif Nat.ble i 23 then (42, .invokestatic 118, 101, 3, 0, []) else (45, .goto 4, 26, 0, 0, [])) else (bif Nat.ble i 25 then (48, .lconst 0, 0, 0, 0, []) else (bif Nat.ble i 26 then (49, .lstore 9, 0, 0, 0, []) else (51, .lload 9, 0, 0, 0, [])))) else (bif Nat.ble i 30 then (bif Nat.ble i 28 then (53, .lconst 0, 0, 0, 0, []) else (bif Nat.ble i 29 then (54, .lcmp, 0, 0, 0, []) else (55, .ifCond .le 22, 42, 0, 0, []))) else (bif Nat.ble i 31 then (58, .aload_n 0, 0, 0, 0, []) else (bif Nat.ble i 32 then (59, .iload 8, 0, 0, 0, []) else (61, .iload_n 1, 0, 0, 0, []))))) else (bif Nat.ble i 39 then (bif Nat.ble i 36 then (bif Nat.ble i 34 then (62, .iload_n 2, 0, 0, 0, []) else (bif Nat.ble i 35 then (63, .iload_n 3, 0, 0, 0, []) else (64, .invokevirtual 122, 102, 5, 0, []))) else (bif Nat.ble i 37 then (67, .ifCond .eq 10, 42, 0, 0, []) else (bif Nat.ble i 38 then (70, .lload 6, 0, 0, 0, []) else (72, .lload 9, 0, 0, 0, [])))) else (bif Nat.ble i 42 then (bif Nat.ble i 40 then (74, .ladd, 0, 0, 0, []) else (bif Nat.ble i 41 then (75, .lstore 6, 0, 0, 0, []) else (77, .iinc 8 1, 0, 0, 1, []))) else (bif Nat.ble i 43 then (80, .goto (-68), 7, 0, 0, []) else (bif Nat.ble i 44 then (83, .lload 6, 0, 0, 0, []) else (85, .lreturn, 0, 0, 0, [])))))))
/-- GridQuarrels$Seer.casesOf(III)J -/
def cd101 : Nat → mmE := fun i => (bif Nat.ble i 8 then (bif Nat.ble i 3 then (bif Nat.ble i 1 then (bif Nat.ble i 0 then (0, .iload_n 1, 0, 0, 0, []) else (1, .iload_n 0, 0, 0, 0, [])) else (bif Nat.ble i 2 then (2, .iconst (-1), 0, 0, (-1), []) else (3, .ixor, 0, 0, 0, []))) else (bif Nat.ble i 5 then (bif Nat.ble i 4 then (4, .iand, 0, 0, 0, []) else (5, .invokestatic 55, 0, 1, 0, [])) else (bif Nat.ble i 6 then (8, .istore_n 3, 0, 0, 0, []) else (bif Nat.ble i 7 then (9, .iload_n 2, 0, 0, 0, []) else (10, .iload_n 0, 0, 0, 0, []))))) else (bif Nat.ble i 12 then (bif Nat.ble i 10 then (bif Nat.ble i 9 then (11, .invokestatic 55, 0, 1, 0, []) else (14, .invokestatic 114, 103, 2, 0, [])) else (bif Nat.ble i 11 then (17, .bipush 10, 0, 0, 10, []) else (19, .iload_n 2, 0, 0, 0, []))) else (bif Nat.ble i 14 then (bif Nat.ble i 13 then (20, .isub, 0, 0, 0, []) else (21, .iload_n 3, 0, 0, 0, [])) else (bif Nat.ble i 15 then (22, .invokestatic 114, 103, 2, 0, []) else (bif Nat.ble i 16 then (25, .lmul, 0, 0, 0, []) else (26, .lreturn, 0, 0, 0, []))))))
/-- GridQuarrels$Seer.isThereIfFilled(IIII)Z -/
def cd102 : Nat → mmE := fun i => (bif Nat.ble i 6 then (bif Nat.ble i 2 then (bif Nat.ble i 0 then (0, .aload_n 0, 0, 0, 0, []) else (bif Nat.ble i 1 then (1, .invokevirtual 32, 78, 1, 0, []) else (4, .aload_n 0, 0, 0, 0, []))) else (bif Nat.ble i 4 then (bif Nat.ble i 3 then (5, .iload_n 1, 0, 0, 0, []) else (6, .iconst 0, 0, 0, 0, [])) else (bif Nat.ble i 5 then (7, .invokevirtual 65, 86, 3, 0, []) else (10, .aload_n 0, 0, 0, 0, [])))) else (bif Nat.ble i 10 then (bif Nat.ble i 8 then (bif Nat.ble i 7 then (11, .iload 4, 0, 0, 0, []) else (13, .invokevirtual 35, 79, 2, 0, [])) else (bif Nat.ble i 9 then (16, .aload_n 0, 0, 0, 0, []) else (17, .getfield 18, 1, 5, 0, []))) else (bif Nat.ble i 12 then (bif Nat.ble i 11 then (20, .iload_n 2, 0, 0, 0, []) else (21, .iload_n 3, 0, 0, 0, [])) else (bif Nat.ble i 13 then (22, .invokevirtual 44, 38, 3, 0, []) else (25, .ireturn, 0, 0, 0, [])))))
/-- GridQuarrels$Seer.power(II)J -/
def cd103 : Nat → mmE := fun i => (bif Nat.ble i 7 then (bif Nat.ble i 3 then (bif Nat.ble i 1 then (bif Nat.ble i 0 then (0, .lconst 1, 0, 0, 1, []) else (1, .lstore_n 2, 0, 0, 0, [])) else (bif Nat.ble i 2 then (2, .iconst 0, 0, 0, 0, []) else (3, .istore 4, 0, 0, 0, []))) else (bif Nat.ble i 5 then (bif Nat.ble i 4 then (5, .iload 4, 0, 0, 0, []) else (7, .iload_n 1, 0, 0, 0, [])) else (bif Nat.ble i 6 then (8, .if_icmp .ge 14, 14, 0, 0, []) else (11, .lload_n 2, 0, 0, 0, [])))) else (bif Nat.ble i 11 then (bif Nat.ble i 9 then (bif Nat.ble i 8 then (12, .iload_n 0, 0, 0, 0, []) else (13, .i2l, 0, 0, 0, [])) else (bif Nat.ble i 10 then (14, .lmul, 0, 0, 0, []) else (15, .lstore_n 2, 0, 0, 0, []))) else (bif Nat.ble i 13 then (bif Nat.ble i 12 then (16, .iinc 4 1, 0, 0, 1, []) else (19, .goto (-14), 4, 0, 0, [])) else (bif Nat.ble i 14 then (22, .lload_n 2, 0, 0, 0, []) else (23, .lreturn, 0, 0, 0, [])))))
/-- GridQuarrels$Seer.draw(II)V -/
def cd104 : Nat → mmE := fun i => (bif Nat.ble i 31 then (bif Nat.ble i 15 then (bif Nat.ble i 7 then (bif Nat.ble i 3 then (bif Nat.ble i 1 then (bif Nat.ble i 0 then (0, .aload_n 0, 0, 0, 0, []) else (1, .invokevirtual 32, 78, 1, 0, [])) else (bif Nat.ble i 2 then (4, .aload_n 0, 0, 0, 0, []) else (5, .getfield 18, 1, 5, 0, []))) else (bif Nat.ble i 5 then (bif Nat.ble i 4 then (8, .getfield 81, 0, 2, 0, []) else (11, .iconst 1, 0, 0, 1, [])) else (bif Nat.ble i 6 then (12, .if_icmp .lt 14, 12, 0, 0, []) else (15, .aload_n 0, 0, 0, 0, [])))) else (bif Nat.ble i 11 then (bif Nat.ble i 9 then (bif Nat.ble i 8 then (16, .getfield 18, 1, 5, 0, []) else (19, .getfield 51, 1, 2, 0, [])) else (bif Nat.ble i 10 then (22, .iconst 1, 0, 0, 1, []) else (23, .if_icmp .ge 4, 13, 0, 0, []))) else (bif Nat.ble i 13 then (bif Nat.ble i 12 then (26, .return_, 0, 0, 0, []) else (27, .iload_n 2, 0, 0, 0, [])) else (bif Nat.ble i 14 then (28, .i2l, 0, 0, 0, []) else (29, .lstore_n 3, 0, 0, 0, []))))) else (bif Nat.ble i 23 then (bif Nat.ble i 19 then (bif Nat.ble i 17 then (bif Nat.ble i 16 then (30, .iconst 0, 0, 0, 0, []) else (31, .istore 5, 0, 0, 0, [])) else (bif Nat.ble i 18 then (33, .iload 5, 0, 0, 0, []) else (35, .iload_n 1, 0, 0, 0, []))) else (bif Nat.ble i 21 then (bif Nat.ble i 20 then (36, .if_icmp .ge 80, 64, 0, 0, []) else (39, .lload_n 3, 0, 0, 0, [])) else (bif Nat.ble i 22 then (40, .ldc2_w 125, 0, 0, 16807, []) else (43, .lmul, 0, 0, 0, [])))) else (bif Nat.ble i 27 then (bif Nat.ble i 25 then (bif Nat.ble i 24 then (44, .ldc2_w 127, 0, 0, 2147483647, []) else (47, .lrem, 0, 0, 0, [])) else (bif Nat.ble i 26 then (48, .lstore_n 3, 0, 0, 0, []) else (49, .aload_n 0, 0, 0, 0, []))) else (bif Nat.ble i 29 then (bif Nat.ble i 28 then (50, .getfield 18, 1, 5, 0, []) else (53, .lload_n 3, 0, 0, 0, [])) else (bif Nat.ble i 30 then (54, .aload_n 0, 0, 0, 0, []) else (55, .getfield 18, 1, 5, 0, [])))))) else (bif Nat.ble i 47 then (bif Nat.ble i 39 then (bif Nat.ble i 35 then (bif Nat.ble i 33 then (bif Nat.ble i 32 then (58, .getfield 81, 0, 2, 0, []) else (61, .i2l, 0, 0, 0, [])) else (bif Nat.ble i 34 then (62, .lrem, 0, 0, 0, []) else (63, .l2i, 0, 0, 0, []))) else (bif Nat.ble i 37 then (bif Nat.ble i 36 then (64, .lload_n 3, 0, 0, 0, []) else (65, .ldc2_w 129, 0, 0, 5, [])) else (bif Nat.ble i 38 then (68, .lrem, 0, 0, 0, []) else (69, .l2i, 0, 0, 0, [])))) else (bif Nat.ble i 43 then (bif Nat.ble i 41 then (bif Nat.ble i 40 then (70, .invokevirtual 88, 35, 3, 0, []) else (73, .lload_n 3, 0, 0, 0, [])) else (bif Nat.ble i 42 then (74, .ldc2_w 131, 0, 0, 6, []) else (77, .lrem, 0, 0, 0, []))) else (bif Nat.ble i 45 then (bif Nat.ble i 44 then (78, .lconst 0, 0, 0, 0, []) else (79, .lcmp, 0, 0, 0, [])) else (bif Nat.ble i 46 then (80, .ifCond .ne 23, 59, 0, 0, []) else (83, .aload_n 0, 0, 0, 0, []))))) else (bif Nat.ble i 55 then (bif Nat.ble i 51 then (bif Nat.ble i 49 then (bif Nat.ble i 48 then (84, .getfield 18, 1, 5, 0, []) else (87, .getfield 75, 7, 2, 0, [])) else (bif Nat.ble i 50 then (90, .lload_n 3, 0, 0, 0, []) else (91, .aload_n 0, 0, 0, 0, []))) else (bif Nat.ble i 53 then (bif Nat.ble i 52 then (92, .getfield 18, 1, 5, 0, []) else (95, .getfield 51, 1, 2, 0, [])) else (bif Nat.ble i 54 then (98, .i2l, 0, 0, 0, []) else (99, .lrem, 0, 0, 0, [])))) else (bif Nat.ble i 59 then (bif Nat.ble i 57 then (bif Nat.ble i 56 then (100, .l2i, 0, 0, 0, []) else (101, .iconst 0, 0, 0, 0, [])) else (bif Nat.ble i 58 then (102, .iastore, 0, 0, 0, []) else (103, .aload_n 0, 0, 0, 0, []))) else (bif Nat.ble i 61 then (bif Nat.ble i 60 then (104, .getfield 18, 1, 5, 0, []) else (107, .invokevirtual 29, 32, 1, 0, [])) else (bif Nat.ble i 62 then (110, .iinc 5 1, 0, 0, 1, []) else (bif Nat.ble i 63 then (113, .goto (-80), 18, 0, 0, []) else (116, .return_, 0, 0, 0, []))))))))
/-- GridQuarrels.<init>()V -/
def cd105 : Nat → mmE := fun i => (bif Nat.ble i 24 then (bif Nat.ble i 11 then (bif Nat.ble i 5 then (bif Nat.ble i 2 then (bif Nat.ble i 0 then (0, .aload_n 0, 0, 0, 0, []) else (bif Nat.ble i 1 then (1, .invokespecial 1, 0, 0, 0, []) else (4, .aload_n 0, 0, 0, 0, []))) else (bif Nat.ble i 3 then (5, .new 7, 4, 0, 0, []) else (bif Nat.ble i 4 then (8, .dup, 0, 0, 0, []) else (9, .invokespecial 9, 64, 1, 0, [])))) else (bif Nat.ble i 8 then (bif Nat.ble i 6 then (12, .putfield 10, 0, 6, 0, []) else (bif Nat.ble i 7 then (15, .aload_n 0, 0, 0, 0, []) else (16, .new 16, 3, 0, 0, []))) else (bif Nat.ble i 9 then (19, .dup, 0, 0, 0, []) else (bif Nat.ble i 10 then (20, .invokespecial 18, 47, 1, 0, []) else (23, .putfield 19, 1, 6, 0, []))))) else (bif Nat.ble i 17 then (bif Nat.ble i 14 then (bif Nat.ble i 12 then (26, .aload_n 0, 0, 0, 0, []) else (bif Nat.ble i 13 then (27, .new 23, 0, 0, 0, []) else (30, .dup, 0, 0, 0, []))) else (bif Nat.ble i 15 then (31, .invokespecial 25, 3, 1, 0, []) else (bif Nat.ble i 16 then (34, .putfield 26, 2, 6, 0, []) else (37, .aload_n 0, 0, 0, 0, [])))) else (bif Nat.ble i 20 then (bif Nat.ble i 18 then (38, .new 30, 5, 0, 0, []) else (bif Nat.ble i 19 then (41, .dup, 0, 0, 0, []) else (42, .invokespecial 32, 77, 1, 0, []))) else (bif Nat.ble i 22 then (bif Nat.ble i 21 then (45, .putfield 33, 3, 6, 0, []) else (48, .aload_n 0, 0, 0, 0, [])) else (bif Nat.ble i 23 then (49, .aload_n 0, 0, 0, 0, []) else (50, .getfield 33, 3, 6, 0, [])))))) else (bif Nat.ble i 37 then (bif Nat.ble i 30 then (bif Nat.ble i 27 then (bif Nat.ble i 25 then (53, .getfield 37, 0, 5, 0, []) else (bif Nat.ble i 26 then (56, .putfield 41, 4, 6, 0, []) else (59, .aload_n 0, 0, 0, 0, []))) else (bif Nat.ble i 28 then (60, .new 42, 1, 0, 0, []) else (bif Nat.ble i 29 then (63, .dup, 0, 0, 0, []) else (64, .invokespecial 44, 7, 1, 0, [])))) else (bif Nat.ble i 33 then (bif Nat.ble i 31 then (67, .putfield 45, 5, 6, 0, []) else (bif Nat.ble i 32 then (70, .aload_n 0, 0, 0, 0, []) else (71, .iconst 2, 0, 0, 2, []))) else (bif Nat.ble i 35 then (bif Nat.ble i 34 then (72, .anewarray 49, 0, 0, 0, []) else (75, .putfield 51, 6, 6, 0, [])) else (bif Nat.ble i 36 then (78, .iconst 0, 0, 0, 0, []) else (79, .istore_n 1, 0, 0, 0, []))))) else (bif Nat.ble i 43 then (bif Nat.ble i 40 then (bif Nat.ble i 38 then (80, .iload_n 1, 0, 0, 0, []) else (bif Nat.ble i 39 then (81, .iconst 2, 0, 0, 2, []) else (82, .if_icmp .ge 22, 50, 0, 0, []))) else (bif Nat.ble i 41 then (85, .aload_n 0, 0, 0, 0, []) else (bif Nat.ble i 42 then (86, .getfield 51, 6, 6, 0, []) else (89, .iload_n 1, 0, 0, 0, [])))) else (bif Nat.ble i 46 then (bif Nat.ble i 44 then (90, .new 49, 2, 0, 0, []) else (bif Nat.ble i 45 then (93, .dup, 0, 0, 0, []) else (94, .invokespecial 55, 14, 1, 0, []))) else (bif Nat.ble i 48 then (bif Nat.ble i 47 then (97, .aastore, 0, 0, 0, []) else (98, .iinc 1 1, 0, 0, 1, [])) else (bif Nat.ble i 49 then (101, .goto (-21), 38, 0, 0, []) else (104, .return_, 0, 0, 0, [])))))))
/-- GridQuarrels.row(III)I -/
def cd106 : Nat → mmE := fun i => (bif Nat.ble i 14 then (bif Nat.ble i 6 then (bif Nat.ble i 2 then (bif Nat.ble i 0 then (0, .aload_n 0, 0, 0, 0, []) else (bif Nat.ble i 1 then (1, .getfield 10, 0, 6, 0, []) else (4, .iload_n 1, 0, 0, 0, []))) else (bif Nat.ble i 4 then (bif Nat.ble i 3 then (5, .invokevirtual 56, 65, 2, 0, []) else (8, .ifCond .eq 18, 13, 0, 0, [])) else (bif Nat.ble i 5 then (11, .iload_n 2, 0, 0, 0, []) else (12, .iconst 0, 0, 0, 0, [])))) else (bif Nat.ble i 10 then (bif Nat.ble i 8 then (bif Nat.ble i 7 then (13, .iconst 2, 0, 0, 2, []) else (14, .invokestatic 60, 150, 3, 0, [])) else (bif Nat.ble i 9 then (17, .ifCond .eq 9, 13, 0, 0, []) else (20, .iload_n 3, 0, 0, 0, []))) else (bif Nat.ble i 12 then (bif Nat.ble i 11 then (21, .bipush 40, 0, 0, 40, []) else (23, .if_icmp .le 6, 15, 0, 0, [])) else (bif Nat.ble i 13 then (26, .ldc 64, 0, 0, (-1000001), []) else (28, .ireturn, 0, 0, 0, []))))) else (bif Nat.ble i 22 then (bif Nat.ble i 18 then (bif Nat.ble i 16 then (bif Nat.ble i 15 then (29, .iload_n 3, 0, 0, 0, []) else (30, .ifCond .ge 9, 21, 0, 0, [])) else (bif Nat.ble i 17 then (33, .aload_n 0, 0, 0, 0, []) else (34, .iconst 4, 0, 0, 4, []))) else (bif Nat.ble i 20 then (bif Nat.ble i 19 then (35, .invokevirtual 65, 148, 2, 0, []) else (38, .ireturn, 0, 0, 0, [])) else (bif Nat.ble i 21 then (39, .aload_n 0, 0, 0, 0, []) else (40, .getfield 10, 0, 6, 0, [])))) else (bif Nat.ble i 26 then (bif Nat.ble i 24 then (bif Nat.ble i 23 then (43, .iload_n 1, 0, 0, 0, []) else (44, .iload_n 2, 0, 0, 0, [])) else (bif Nat.ble i 25 then (45, .iload_n 3, 0, 0, 0, []) else (46, .invokevirtual 69, 71, 4, 0, []))) else (bif Nat.ble i 28 then (bif Nat.ble i 27 then (49, .aload_n 0, 0, 0, 0, []) else (50, .iload_n 3, 0, 0, 0, [])) else (bif Nat.ble i 29 then (51, .invokevirtual 73, 149, 2, 0, []) else (54, .ireturn, 0, 0, 0, []))))))
/-- GridQuarrels.set(III)I -/
def cd107 : Nat → mmE := fun i => (bif Nat.ble i 13 then (bif Nat.ble i 6 then (bif Nat.ble i 2 then (bif Nat.ble i 0 then (0, .aload_n 0, 0, 0, 0, []) else (bif Nat.ble i 1 then (1, .getfield 10, 0, 6, 0, []) else (4, .iload_n 1, 0, 0, 0, []))) else (bif Nat.ble i 4 then (bif Nat.ble i 3 then (5, .invokevirtual 56, 65, 2, 0, []) else (8, .ifCond .ne 6, 7, 0, 0, [])) else (bif Nat.ble i 5 then (11, .ldc 64, 0, 0, (-1000001), []) else (13, .ireturn, 0, 0, 0, [])))) else (bif Nat.ble i 9 then (bif Nat.ble i 7 then (14, .aload_n 0, 0, 0, 0, []) else (bif Nat.ble i 8 then (15, .getfield 10, 0, 6, 0, []) else (18, .iload_n 1, 0, 0, 0, []))) else (bif Nat.ble i 11 then (bif Nat.ble i 10 then (19, .iload_n 2, 0, 0, 0, []) else (20, .iconst 1, 0, 0, 1, [])) else (bif Nat.ble i 12 then (21, .invokevirtual 76, 68, 4, 0, []) else (24, .istore 4, 0, 0, 0, []))))) else (bif Nat.ble i 20 then (bif Nat.ble i 16 then (bif Nat.ble i 14 then (26, .iload 4, 0, 0, 0, []) else (bif Nat.ble i 15 then (28, .ifCond .eq 10, 20, 0, 0, []) else (31, .aload_n 0, 0, 0, 0, []))) else (bif Nat.ble i 18 then (bif Nat.ble i 17 then (32, .iload 4, 0, 0, 0, []) else (34, .invokevirtual 65, 148, 2, 0, [])) else (bif Nat.ble i 19 then (37, .ireturn, 0, 0, 0, []) else (38, .aload_n 0, 0, 0, 0, [])))) else (bif Nat.ble i 24 then (bif Nat.ble i 22 then (bif Nat.ble i 21 then (39, .aload_n 0, 0, 0, 0, []) else (40, .getfield 10, 0, 6, 0, [])) else (bif Nat.ble i 23 then (43, .iload_n 1, 0, 0, 0, []) else (44, .iload_n 2, 0, 0, 0, []))) else (bif Nat.ble i 26 then (bif Nat.ble i 25 then (45, .iload_n 3, 0, 0, 0, []) else (46, .invokevirtual 80, 73, 4, 0, [])) else (bif Nat.ble i 27 then (49, .invokevirtual 73, 149, 2, 0, []) else (52, .ireturn, 0, 0, 0, []))))))
/-- GridQuarrels.copy(IIIII)I -/
def cd108 : Nat → mmE := fun i => (bif Nat.ble i 18 then (bif Nat.ble i 8 then (bif Nat.ble i 3 then (bif Nat.ble i 1 then (bif Nat.ble i 0 then (0, .aload_n 0, 0, 0, 0, []) else (1, .getfield 10, 0, 6, 0, [])) else (bif Nat.ble i 2 then (4, .iload_n 1, 0, 0, 0, []) else (5, .invokevirtual 56, 65, 2, 0, []))) else (bif Nat.ble i 5 then (bif Nat.ble i 4 then (8, .ifCond .eq 14, 10, 0, 0, []) else (11, .aload_n 0, 0, 0, 0, [])) else (bif Nat.ble i 6 then (12, .getfield 10, 0, 6, 0, []) else (bif Nat.ble i 7 then (15, .iload_n 3, 0, 0, 0, []) else (16, .invokevirtual 56, 65, 2, 0, []))))) else (bif Nat.ble i 13 then (bif Nat.ble i 10 then (bif Nat.ble i 9 then (19, .ifCond .ne 6, 12, 0, 0, []) else (22, .ldc 64, 0, 0, (-1000001), [])) else (bif Nat.ble i 11 then (24, .ireturn, 0, 0, 0, []) else (bif Nat.ble i 12 then (25, .aload_n 0, 0, 0, 0, []) else (26, .getfield 10, 0, 6, 0, [])))) else (bif Nat.ble i 15 then (bif Nat.ble i 14 then (29, .iload_n 1, 0, 0, 0, []) else (30, .iload_n 2, 0, 0, 0, [])) else (bif Nat.ble i 16 then (31, .iload_n 3, 0, 0, 0, []) else (bif Nat.ble i 17 then (32, .iload 4, 0, 0, 0, []) else (34, .iload 5, 0, 0, 0, [])))))) else (bif Nat.ble i 28 then (bif Nat.ble i 23 then (bif Nat.ble i 20 then (bif Nat.ble i 19 then (36, .invokevirtual 83, 69, 6, 0, []) else (39, .istore 6, 0, 0, 0, [])) else (bif Nat.ble i 21 then (41, .iload 6, 0, 0, 0, []) else (bif Nat.ble i 22 then (43, .ifCond .eq 10, 27, 0, 0, []) else (46, .aload_n 0, 0, 0, 0, [])))) else (bif Nat.ble i 25 then (bif Nat.ble i 24 then (47, .iload 6, 0, 0, 0, []) else (49, .invokevirtual 65, 148, 2, 0, [])) else (bif Nat.ble i 26 then (52, .ireturn, 0, 0, 0, []) else (bif Nat.ble i 27 then (53, .aload_n 0, 0, 0, 0, []) else (54, .getfield 10, 0, 6, 0, []))))) else (bif Nat.ble i 33 then (bif Nat.ble i 30 then (bif Nat.ble i 29 then (57, .iload_n 1, 0, 0, 0, []) else (58, .iload_n 2, 0, 0, 0, [])) else (bif Nat.ble i 31 then (59, .iload_n 3, 0, 0, 0, []) else (bif Nat.ble i 32 then (60, .iload 4, 0, 0, 0, []) else (62, .iload 5, 0, 0, 0, [])))) else (bif Nat.ble i 35 then (bif Nat.ble i 34 then (64, .invokevirtual 87, 75, 6, 0, []) else (67, .aload_n 0, 0, 0, 0, [])) else (bif Nat.ble i 36 then (68, .iload 5, 0, 0, 0, []) else (bif Nat.ble i 37 then (70, .invokevirtual 73, 149, 2, 0, []) else (73, .ireturn, 0, 0, 0, [])))))))
/-- GridQuarrels.drop(I)I -/
def cd109 : Nat → mmE := fun i => (bif Nat.ble i 10 then (bif Nat.ble i 4 then (bif Nat.ble i 1 then (bif Nat.ble i 0 then (0, .aload_n 0, 0, 0, 0, []) else (1, .getfield 10, 0, 6, 0, [])) else (bif Nat.ble i 2 then (4, .iload_n 1, 0, 0, 0, []) else (bif Nat.ble i 3 then (5, .invokevirtual 56, 65, 2, 0, []) else (8, .ifCond .ne 6, 7, 0, 0, [])))) else (bif Nat.ble i 7 then (bif Nat.ble i 5 then (11, .ldc 64, 0, 0, (-1000001), []) else (bif Nat.ble i 6 then (13, .ireturn, 0, 0, 0, []) else (14, .aload_n 0, 0, 0, 0, []))) else (bif Nat.ble i 8 then (15, .getfield 10, 0, 6, 0, []) else (bif Nat.ble i 9 then (18, .iload_n 1, 0, 0, 0, []) else (19, .invokevirtual 91, 66, 2, 0, []))))) else (bif Nat.ble i 16 then (bif Nat.ble i 13 then (bif Nat.ble i 11 then (22, .ifCond .eq 9, 16, 0, 0, []) else (bif Nat.ble i 12 then (25, .aload_n 0, 0, 0, 0, []) else (26, .iconst 1, 0, 0, 1, []))) else (bif Nat.ble i 14 then (27, .invokevirtual 65, 148, 2, 0, []) else (bif Nat.ble i 15 then (30, .ireturn, 0, 0, 0, []) else (31, .aload_n 0, 0, 0, 0, [])))) else (bif Nat.ble i 19 then (bif Nat.ble i 17 then (32, .aload_n 0, 0, 0, 0, []) else (bif Nat.ble i 18 then (33, .getfield 10, 0, 6, 0, []) else (36, .iload_n 1, 0, 0, 0, []))) else (bif Nat.ble i 20 then (37, .invokevirtual 94, 72, 2, 0, []) else (bif Nat.ble i 21 then (40, .invokevirtual 73, 149, 2, 0, []) else (43, .ireturn, 0, 0, 0, []))))))
/-- GridQuarrels.feed(I)I -/
def cd110 : Nat → mmE := fun i => (bif Nat.ble i 8 then (bif Nat.ble i 3 then (bif Nat.ble i 1 then (bif Nat.ble i 0 then (0, .iload_n 1, 0, 0, 0, []) else (1, .iconst 0, 0, 0, 0, [])) else (bif Nat.ble i 2 then (2, .sipush 255, 0, 0, 255, []) else (5, .invokestatic 60, 150, 3, 0, []))) else (bif Nat.ble i 5 then (bif Nat.ble i 4 then (8, .ifCond .ne 6, 7, 0, 0, []) else (11, .ldc 64, 0, 0, (-1000001), [])) else (bif Nat.ble i 6 then (13, .ireturn, 0, 0, 0, []) else (bif Nat.ble i 7 then (14, .aload_n 0, 0, 0, 0, []) else (15, .getfield 19, 1, 6, 0, []))))) else (bif Nat.ble i 12 then (bif Nat.ble i 10 then (bif Nat.ble i 9 then (18, .invokevirtual 97, 48, 1, 0, []) else (21, .ifCond .eq 6, 13, 0, 0, [])) else (bif Nat.ble i 11 then (24, .ldc 101, 0, 0, (-1000003), []) else (26, .ireturn, 0, 0, 0, []))) else (bif Nat.ble i 14 then (bif Nat.ble i 13 then (27, .aload_n 0, 0, 0, 0, []) else (28, .getfield 19, 1, 6, 0, [])) else (bif Nat.ble i 15 then (31, .iload_n 1, 0, 0, 0, []) else (bif Nat.ble i 16 then (32, .invokevirtual 102, 49, 2, 0, []) else (35, .ireturn, 0, 0, 0, []))))))
/-- GridQuarrels.county()I -/
def cd111 : Nat → mmE := fun i => (bif Nat.ble i 11 then (bif Nat.ble i 5 then (bif Nat.ble i 2 then (bif Nat.ble i 0 then (0, .aload_n 0, 0, 0, 0, []) else (bif Nat.ble i 1 then (1, .getfield 19, 1, 6, 0, []) else (4, .invokevirtual 105, 50, 1, 0, []))) else (bif Nat.ble i 3 then (7, .istore_n 1, 0, 0, 0, []) else (bif Nat.ble i 4 then (8, .iload_n 1, 0, 0, 0, []) else (9, .ldc 109, 0, 0, (-1000000), [])))) else (bif Nat.ble i 8 then (bif Nat.ble i 6 then (11, .if_icmp .eq 8, 11, 0, 0, []) else (bif Nat.ble i 7 then (14, .ldc 110, 0, 0, (-1000100), []) else (16, .iload_n 1, 0, 0, 0, []))) else (bif Nat.ble i 9 then (17, .isub, 0, 0, 0, []) else (bif Nat.ble i 10 then (18, .ireturn, 0, 0, 0, []) else (19, .aload_n 0, 0, 0, 0, []))))) else (bif Nat.ble i 17 then (bif Nat.ble i 14 then (bif Nat.ble i 12 then (20, .getfield 41, 4, 6, 0, []) else (bif Nat.ble i 13 then (23, .aload_n 0, 0, 0, 0, []) else (24, .getfield 19, 1, 6, 0, []))) else (bif Nat.ble i 15 then (27, .getfield 111, 0, 3, 0, []) else (bif Nat.ble i 16 then (30, .invokevirtual 114, 24, 2, 0, []) else (33, .aload_n 0, 0, 0, 0, [])))) else (bif Nat.ble i 20 then (bif Nat.ble i 18 then (34, .getfield 26, 2, 6, 0, []) else (bif Nat.ble i 19 then (37, .invokevirtual 118, 4, 1, 0, []) else (40, .aload_n 0, 0, 0, 0, []))) else (bif Nat.ble i 21 then (41, .getfield 41, 4, 6, 0, []) else (bif Nat.ble i 22 then (44, .getfield 121, 2, 2, 0, []) else (47, .ireturn, 0, 0, 0, []))))))
/-- GridQuarrels.fault()I -/
def cd112 : Nat → mmE := fun i => (bif Nat.ble i 1 then (bif Nat.ble i 0 then (0, .aload_n 0, 0, 0, 0, []) else (1, .getfield 19, 1, 6, 0, [])) else (bif Nat.ble i 2 then (4, .getfield 125, 2, 3, 0, []) else (7, .ireturn, 0, 0, 0, [])))
/-- GridQuarrels.undo()I -/
def cd113 : Nat → mmE := fun i => (bif Nat.ble i 6 then (bif Nat.ble i 2 then (bif Nat.ble i 0 then (0, .aload_n 0, 0, 0, 0, []) else (bif Nat.ble i 1 then (1, .getfield 26, 2, 6, 0, []) else (4, .getfield 128, 0, 0, 0, []))) else (bif Nat.ble i 4 then (bif Nat.ble i 3 then (7, .ifCond .ne 6, 6, 0, 0, []) else (10, .ldc 131, 0, 0, (-1000002), [])) else (bif Nat.ble i 5 then (12, .ireturn, 0, 0, 0, []) else (13, .aload_n 0, 0, 0, 0, [])))) else (bif Nat.ble i 10 then (bif Nat.ble i 8 then (bif Nat.ble i 7 then (14, .getfield 26, 2, 6, 0, []) else (17, .aload_n 0, 0, 0, 0, [])) else (bif Nat.ble i 9 then (18, .getfield 41, 4, 6, 0, []) else (21, .invokevirtual 132, 6, 2, 0, []))) else (bif Nat.ble i 12 then (bif Nat.ble i 11 then (24, .aload_n 0, 0, 0, 0, []) else (25, .getfield 26, 2, 6, 0, [])) else (bif Nat.ble i 13 then (28, .getfield 128, 0, 0, 0, []) else (31, .ireturn, 0, 0, 0, [])))))
/-- GridQuarrels.years(I)I -/
def cd114 : Nat → mmE := fun i => (bif Nat.ble i 19 then (bif Nat.ble i 9 then (bif Nat.ble i 4 then (bif Nat.ble i 1 then (bif Nat.ble i 0 then (0, .aload_n 0, 0, 0, 0, []) else (1, .getfield 41, 4, 6, 0, [])) else (bif Nat.ble i 2 then (4, .invokevirtual 135, 15, 1, 0, []) else (bif Nat.ble i 3 then (7, .ifCond .ne 6, 6, 0, 0, []) else (10, .ldc 131, 0, 0, (-1000002), [])))) else (bif Nat.ble i 6 then (bif Nat.ble i 5 then (12, .ireturn, 0, 0, 0, []) else (13, .iload_n 1, 0, 0, 0, [])) else (bif Nat.ble i 7 then (14, .iconst 1, 0, 0, 1, []) else (bif Nat.ble i 8 then (15, .bipush 24, 0, 0, 24, []) else (17, .invokestatic 60, 150, 3, 0, []))))) else (bif Nat.ble i 14 then (bif Nat.ble i 11 then (bif Nat.ble i 10 then (20, .ifCond .ne 6, 13, 0, 0, []) else (23, .ldc 64, 0, 0, (-1000001), [])) else (bif Nat.ble i 12 then (25, .ireturn, 0, 0, 0, []) else (bif Nat.ble i 13 then (26, .aload_n 0, 0, 0, 0, []) else (27, .getfield 41, 4, 6, 0, [])))) else (bif Nat.ble i 16 then (bif Nat.ble i 15 then (30, .getfield 138, 3, 2, 0, []) else (33, .iload_n 1, 0, 0, 0, [])) else (bif Nat.ble i 17 then (34, .iadd, 0, 0, 0, []) else (bif Nat.ble i 18 then (35, .sipush 999, 0, 0, 999, []) else (38, .if_icmp .le 6, 22, 0, 0, [])))))) else (bif Nat.ble i 29 then (bif Nat.ble i 24 then (bif Nat.ble i 21 then (bif Nat.ble i 20 then (41, .ldc 101, 0, 0, (-1000003), []) else (43, .ireturn, 0, 0, 0, [])) else (bif Nat.ble i 22 then (44, .iconst 0, 0, 0, 0, []) else (bif Nat.ble i 23 then (45, .istore_n 2, 0, 0, 0, []) else (46, .iload_n 2, 0, 0, 0, [])))) else (bif Nat.ble i 26 then (bif Nat.ble i 25 then (47, .iload_n 1, 0, 0, 0, []) else (48, .if_icmp .ge 27, 37, 0, 0, [])) else (bif Nat.ble i 27 then (51, .aload_n 0, 0, 0, 0, []) else (bif Nat.ble i 28 then (52, .getfield 26, 2, 6, 0, []) else (55, .aload_n 0, 0, 0, 0, []))))) else (bif Nat.ble i 34 then (bif Nat.ble i 31 then (bif Nat.ble i 30 then (56, .getfield 41, 4, 6, 0, []) else (59, .invokevirtual 141, 5, 2, 0, [])) else (bif Nat.ble i 32 then (62, .aload_n 0, 0, 0, 0, []) else (bif Nat.ble i 33 then (63, .getfield 41, 4, 6, 0, []) else (66, .invokevirtual 144, 32, 1, 0, [])))) else (bif Nat.ble i 37 then (bif Nat.ble i 35 then (69, .iinc 2 1, 0, 0, 1, []) else (bif Nat.ble i 36 then (72, .goto (-26), 24, 0, 0, []) else (75, .aload_n 0, 0, 0, 0, []))) else (bif Nat.ble i 38 then (76, .getfield 41, 4, 6, 0, []) else (bif Nat.ble i 39 then (79, .invokevirtual 147, 37, 1, 0, []) else (82, .ireturn, 0, 0, 0, [])))))))
/-- GridQuarrels.hay(II)I -/
def cd115 : Nat → mmE := fun i => (bif Nat.ble i 13 then (bif Nat.ble i 6 then (bif Nat.ble i 2 then (bif Nat.ble i 0 then (0, .aload_n 0, 0, 0, 0, []) else (bif Nat.ble i 1 then (1, .getfield 41, 4, 6, 0, []) else (4, .iload_n 1, 0, 0, 0, []))) else (bif Nat.ble i 4 then (bif Nat.ble i 3 then (5, .invokevirtual 150, 16, 2, 0, []) else (8, .ifCond .eq 13, 10, 0, 0, [])) else (bif Nat.ble i 5 then (11, .iload_n 2, 0, 0, 0, []) else (12, .iconst 1, 0, 0, 1, [])))) else (bif Nat.ble i 9 then (bif Nat.ble i 7 then (13, .bipush 9, 0, 0, 9, []) else (bif Nat.ble i 8 then (15, .invokestatic 60, 150, 3, 0, []) else (18, .ifCond .ne 6, 12, 0, 0, []))) else (bif Nat.ble i 11 then (bif Nat.ble i 10 then (21, .ldc 64, 0, 0, (-1000001), []) else (23, .ireturn, 0, 0, 0, [])) else (bif Nat.ble i 12 then (24, .aload_n 0, 0, 0, 0, []) else (25, .getfield 26, 2, 6, 0, []))))) else (bif Nat.ble i 20 then (bif Nat.ble i 16 then (bif Nat.ble i 14 then (28, .aload_n 0, 0, 0, 0, []) else (bif Nat.ble i 15 then (29, .getfield 41, 4, 6, 0, []) else (32, .invokevirtual 141, 5, 2, 0, []))) else (bif Nat.ble i 18 then (bif Nat.ble i 17 then (35, .aload_n 0, 0, 0, 0, []) else (36, .getfield 41, 4, 6, 0, [])) else (bif Nat.ble i 19 then (39, .iload_n 1, 0, 0, 0, []) else (40, .iload_n 2, 0, 0, 0, [])))) else (bif Nat.ble i 23 then (bif Nat.ble i 21 then (41, .invokevirtual 153, 35, 3, 0, []) else (bif Nat.ble i 22 then (44, .aload_n 0, 0, 0, 0, []) else (45, .getfield 41, 4, 6, 0, []))) else (bif Nat.ble i 25 then (bif Nat.ble i 24 then (48, .getfield 157, 4, 2, 0, []) else (51, .iload_n 1, 0, 0, 0, [])) else (bif Nat.ble i 26 then (52, .iaload, 0, 0, 0, []) else (53, .ireturn, 0, 0, 0, []))))))
/-- GridQuarrels.grid(II)I -/
def cd116 : Nat → mmE := fun i => (bif Nat.ble i 14 then (bif Nat.ble i 6 then (bif Nat.ble i 2 then (bif Nat.ble i 0 then (0, .aload_n 0, 0, 0, 0, []) else (bif Nat.ble i 1 then (1, .getfield 41, 4, 6, 0, []) else (4, .iload_n 1, 0, 0, 0, []))) else (bif Nat.ble i 4 then (bif Nat.ble i 3 then (5, .invokevirtual 161, 17, 2, 0, []) else (8, .ifCond .eq 13, 10, 0, 0, [])) else (bif Nat.ble i 5 then (11, .iload_n 2, 0, 0, 0, []) else (12, .iconst 0, 0, 0, 0, [])))) else (bif Nat.ble i 10 then (bif Nat.ble i 8 then (bif Nat.ble i 7 then (13, .bipush 9, 0, 0, 9, []) else (15, .invokestatic 60, 150, 3, 0, [])) else (bif Nat.ble i 9 then (18, .ifCond .ne 6, 12, 0, 0, []) else (21, .ldc 64, 0, 0, (-1000001), []))) else (bif Nat.ble i 12 then (bif Nat.ble i 11 then (23, .ireturn, 0, 0, 0, []) else (24, .aload_n 0, 0, 0, 0, [])) else (bif Nat.ble i 13 then (25, .getfield 41, 4, 6, 0, []) else (28, .getfield 164, 7, 2, 0, []))))) else (bif Nat.ble i 22 then (bif Nat.ble i 18 then (bif Nat.ble i 16 then (bif Nat.ble i 15 then (31, .iload_n 1, 0, 0, 0, []) else (32, .iaload, 0, 0, 0, [])) else (bif Nat.ble i 17 then (33, .istore_n 3, 0, 0, 0, []) else (34, .aload_n 0, 0, 0, 0, []))) else (bif Nat.ble i 20 then (bif Nat.ble i 19 then (35, .getfield 26, 2, 6, 0, []) else (38, .aload_n 0, 0, 0, 0, [])) else (bif Nat.ble i 21 then (39, .getfield 41, 4, 6, 0, []) else (42, .invokevirtual 141, 5, 2, 0, [])))) else (bif Nat.ble i 26 then (bif Nat.ble i 24 then (bif Nat.ble i 23 then (45, .aload_n 0, 0, 0, 0, []) else (46, .getfield 41, 4, 6, 0, [])) else (bif Nat.ble i 25 then (49, .getfield 164, 7, 2, 0, []) else (52, .iload_n 1, 0, 0, 0, []))) else (bif Nat.ble i 28 then (bif Nat.ble i 27 then (53, .iload_n 2, 0, 0, 0, []) else (54, .iastore, 0, 0, 0, [])) else (bif Nat.ble i 29 then (55, .iload_n 3, 0, 0, 0, []) else (56, .ireturn, 0, 0, 0, []))))))
/-- GridQuarrels.drive(II)I -/
def cd117 : Nat → mmE := fun i => (bif Nat.ble i 25 then (bif Nat.ble i 12 then (bif Nat.ble i 5 then (bif Nat.ble i 2 then (bif Nat.ble i 0 then (0, .aload_n 0, 0, 0, 0, []) else (bif Nat.ble i 1 then (1, .getfield 41, 4, 6, 0, []) else (4, .iload_n 1, 0, 0, 0, []))) else (bif Nat.ble i 3 then (5, .invokevirtual 167, 18, 2, 0, []) else (bif Nat.ble i 4 then (8, .ifCond .eq 14, 10, 0, 0, []) else (11, .aload_n 0, 0, 0, 0, [])))) else (bif Nat.ble i 8 then (bif Nat.ble i 6 then (12, .getfield 41, 4, 6, 0, []) else (bif Nat.ble i 7 then (15, .iload_n 2, 0, 0, 0, []) else (16, .invokevirtual 161, 17, 2, 0, []))) else (bif Nat.ble i 10 then (bif Nat.ble i 9 then (19, .ifCond .ne 6, 12, 0, 0, []) else (22, .ldc 64, 0, 0, (-1000001), [])) else (bif Nat.ble i 11 then (24, .ireturn, 0, 0, 0, []) else (25, .aload_n 0, 0, 0, 0, []))))) else (bif Nat.ble i 18 then (bif Nat.ble i 15 then (bif Nat.ble i 13 then (26, .getfield 41, 4, 6, 0, []) else (bif Nat.ble i 14 then (29, .getfield 170, 9, 2, 0, []) else (32, .iload_n 1, 0, 0, 0, []))) else (bif Nat.ble i 16 then (33, .iaload, 0, 0, 0, []) else (bif Nat.ble i 17 then (34, .istore_n 3, 0, 0, 0, []) else (35, .aload_n 0, 0, 0, 0, [])))) else (bif Nat.ble i 21 then (bif Nat.ble i 19 then (36, .getfield 41, 4, 6, 0, []) else (bif Nat.ble i 20 then (39, .iload_n 1, 0, 0, 0, []) else (40, .invokevirtual 173, 19, 2, 0, []))) else (bif Nat.ble i 23 then (bif Nat.ble i 22 then (43, .ifCond .ne 15, 29, 0, 0, []) else (46, .aload_n 0, 0, 0, 0, [])) else (bif Nat.ble i 24 then (47, .getfield 41, 4, 6, 0, []) else (50, .iload_n 2, 0, 0, 0, [])))))) else (bif Nat.ble i 38 then (bif Nat.ble i 31 then (bif Nat.ble i 28 then (bif Nat.ble i 26 then (51, .iload_n 3, 0, 0, 0, []) else (bif Nat.ble i 27 then (52, .invokevirtual 176, 27, 3, 0, []) else (55, .ifCond .ne 6, 31, 0, 0, []))) else (bif Nat.ble i 29 then (58, .ldc 131, 0, 0, (-1000002), []) else (bif Nat.ble i 30 then (60, .ireturn, 0, 0, 0, []) else (61, .aload_n 0, 0, 0, 0, [])))) else (bif Nat.ble i 34 then (bif Nat.ble i 32 then (62, .getfield 26, 2, 6, 0, []) else (bif Nat.ble i 33 then (65, .aload_n 0, 0, 0, 0, []) else (66, .getfield 41, 4, 6, 0, []))) else (bif Nat.ble i 36 then (bif Nat.ble i 35 then (69, .invokevirtual 141, 5, 2, 0, []) else (72, .aload_n 0, 0, 0, 0, [])) else (bif Nat.ble i 37 then (73, .getfield 41, 4, 6, 0, []) else (76, .getfield 170, 9, 2, 0, []))))) else (bif Nat.ble i 44 then (bif Nat.ble i 41 then (bif Nat.ble i 39 then (79, .iload_n 1, 0, 0, 0, []) else (bif Nat.ble i 40 then (80, .aload_n 0, 0, 0, 0, []) else (81, .getfield 41, 4, 6, 0, []))) else (bif Nat.ble i 42 then (84, .iload_n 2, 0, 0, 0, []) else (bif Nat.ble i 43 then (85, .iload_n 3, 0, 0, 0, []) else (86, .invokevirtual 180, 28, 3, 0, [])))) else (bif Nat.ble i 47 then (bif Nat.ble i 45 then (89, .iastore, 0, 0, 0, []) else (bif Nat.ble i 46 then (90, .aload_n 0, 0, 0, 0, []) else (91, .getfield 41, 4, 6, 0, []))) else (bif Nat.ble i 49 then (bif Nat.ble i 48 then (94, .getfield 170, 9, 2, 0, []) else (97, .iload_n 1, 0, 0, 0, [])) else (bif Nat.ble i 50 then (98, .iaload, 0, 0, 0, []) else (99, .ireturn, 0, 0, 0, [])))))))
/-- GridQuarrels.grow(II)I -/
def cd118 : Nat → mmE := fun i => (bif Nat.ble i 18 then (bif Nat.ble i 8 then (bif Nat.ble i 3 then (bif Nat.ble i 1 then (bif Nat.ble i 0 then (0, .aload_n 0, 0, 0, 0, []) else (1, .getfield 41, 4, 6, 0, [])) else (bif Nat.ble i 2 then (4, .iload_n 1, 0, 0, 0, []) else (5, .invokevirtual 167, 18, 2, 0, []))) else (bif Nat.ble i 5 then (bif Nat.ble i 4 then (8, .ifCond .eq 13, 10, 0, 0, []) else (11, .iload_n 2, 0, 0, 0, [])) else (bif Nat.ble i 6 then (12, .iconst 1, 0, 0, 1, []) else (bif Nat.ble i 7 then (13, .bipush 9, 0, 0, 9, []) else (15, .invokestatic 60, 150, 3, 0, []))))) else (bif Nat.ble i 13 then (bif Nat.ble i 10 then (bif Nat.ble i 9 then (18, .ifCond .ne 6, 12, 0, 0, []) else (21, .ldc 64, 0, 0, (-1000001), [])) else (bif Nat.ble i 11 then (23, .ireturn, 0, 0, 0, []) else (bif Nat.ble i 12 then (24, .aload_n 0, 0, 0, 0, []) else (25, .getfield 41, 4, 6, 0, [])))) else (bif Nat.ble i 15 then (bif Nat.ble i 14 then (28, .iload_n 1, 0, 0, 0, []) else (29, .invokevirtual 173, 19, 2, 0, [])) else (bif Nat.ble i 16 then (32, .ifCond .eq 6, 19, 0, 0, []) else (bif Nat.ble i 17 then (35, .ldc 131, 0, 0, (-1000002), []) else (37, .ireturn, 0, 0, 0, [])))))) else (bif Nat.ble i 27 then (bif Nat.ble i 22 then (bif Nat.ble i 20 then (bif Nat.ble i 19 then (38, .aload_n 0, 0, 0, 0, []) else (39, .getfield 41, 4, 6, 0, [])) else (bif Nat.ble i 21 then (42, .getfield 184, 10, 2, 0, []) else (45, .iload_n 1, 0, 0, 0, []))) else (bif Nat.ble i 24 then (bif Nat.ble i 23 then (46, .iaload, 0, 0, 0, []) else (47, .istore_n 3, 0, 0, 0, [])) else (bif Nat.ble i 25 then (48, .aload_n 0, 0, 0, 0, []) else (bif Nat.ble i 26 then (49, .getfield 26, 2, 6, 0, []) else (52, .aload_n 0, 0, 0, 0, []))))) else (bif Nat.ble i 32 then (bif Nat.ble i 29 then (bif Nat.ble i 28 then (53, .getfield 41, 4, 6, 0, []) else (56, .invokevirtual 141, 5, 2, 0, [])) else (bif Nat.ble i 30 then (59, .aload_n 0, 0, 0, 0, []) else (bif Nat.ble i 31 then (60, .getfield 41, 4, 6, 0, []) else (63, .getfield 184, 10, 2, 0, [])))) else (bif Nat.ble i 34 then (bif Nat.ble i 33 then (66, .iload_n 1, 0, 0, 0, []) else (67, .iload_n 2, 0, 0, 0, [])) else (bif Nat.ble i 35 then (68, .iastore, 0, 0, 0, []) else (bif Nat.ble i 36 then (69, .iload_n 3, 0, 0, 0, []) else (70, .ireturn, 0, 0, 0, [])))))))
/-- GridQuarrels.quarrel(II)I -/
def cd119 : Nat → mmE := fun i => (bif Nat.ble i 18 then (bif Nat.ble i 8 then (bif Nat.ble i 3 then (bif Nat.ble i 1 then (bif Nat.ble i 0 then (0, .aload_n 0, 0, 0, 0, []) else (1, .getfield 41, 4, 6, 0, [])) else (bif Nat.ble i 2 then (4, .iload_n 1, 0, 0, 0, []) else (5, .invokevirtual 167, 18, 2, 0, []))) else (bif Nat.ble i 5 then (bif Nat.ble i 4 then (8, .ifCond .ne 6, 7, 0, 0, []) else (11, .ldc 64, 0, 0, (-1000001), [])) else (bif Nat.ble i 6 then (13, .ireturn, 0, 0, 0, []) else (bif Nat.ble i 7 then (14, .iload_n 2, 0, 0, 0, []) else (15, .tableswitch 81 0 4 #[33, 43, 53, 63, 72], 37, 0, 0, [(0, 9), (1, 15), (2, 21), (3, 27), (4, 32)]))))) else (bif Nat.ble i 13 then (bif Nat.ble i 10 then (bif Nat.ble i 9 then (48, .aload_n 0, 0, 0, 0, []) else (49, .getfield 41, 4, 6, 0, [])) else (bif Nat.ble i 11 then (52, .getfield 170, 9, 2, 0, []) else (bif Nat.ble i 12 then (55, .iload_n 1, 0, 0, 0, []) else (56, .iaload, 0, 0, 0, [])))) else (bif Nat.ble i 15 then (bif Nat.ble i 14 then (57, .ireturn, 0, 0, 0, []) else (58, .aload_n 0, 0, 0, 0, [])) else (bif Nat.ble i 16 then (59, .getfield 41, 4, 6, 0, []) else (bif Nat.ble i 17 then (62, .getfield 184, 10, 2, 0, []) else (65, .iload_n 1, 0, 0, 0, [])))))) else (bif Nat.ble i 28 then (bif Nat.ble i 23 then (bif Nat.ble i 20 then (bif Nat.ble i 19 then (66, .iaload, 0, 0, 0, []) else (67, .ireturn, 0, 0, 0, [])) else (bif Nat.ble i 21 then (68, .aload_n 0, 0, 0, 0, []) else (bif Nat.ble i 22 then (69, .getfield 41, 4, 6, 0, []) else (72, .getfield 187, 11, 2, 0, [])))) else (bif Nat.ble i 25 then (bif Nat.ble i 24 then (75, .iload_n 1, 0, 0, 0, []) else (76, .iaload, 0, 0, 0, [])) else (bif Nat.ble i 26 then (77, .ireturn, 0, 0, 0, []) else (bif Nat.ble i 27 then (78, .aload_n 0, 0, 0, 0, []) else (79, .getfield 41, 4, 6, 0, []))))) else (bif Nat.ble i 33 then (bif Nat.ble i 30 then (bif Nat.ble i 29 then (82, .iload_n 1, 0, 0, 0, []) else (83, .invokevirtual 190, 42, 2, 0, [])) else (bif Nat.ble i 31 then (86, .ireturn, 0, 0, 0, []) else (bif Nat.ble i 32 then (87, .aload_n 0, 0, 0, 0, []) else (88, .getfield 41, 4, 6, 0, [])))) else (bif Nat.ble i 35 then (bif Nat.ble i 34 then (91, .iload_n 1, 0, 0, 0, []) else (92, .invokevirtual 193, 31, 2, 0, [])) else (bif Nat.ble i 36 then (95, .ireturn, 0, 0, 0, []) else (bif Nat.ble i 37 then (96, .ldc 64, 0, 0, (-1000001), []) else (98, .ireturn, 0, 0, 0, [])))))))
/-- GridQuarrels.road(II)I -/
def cd120 : Nat → mmE := fun i => (bif Nat.ble i 13 then (bif Nat.ble i 6 then (bif Nat.ble i 2 then (bif Nat.ble i 0 then (0, .aload_n 0, 0, 0, 0, []) else (bif Nat.ble i 1 then (1, .getfield 41, 4, 6, 0, []) else (4, .iload_n 1, 0, 0, 0, []))) else (bif Nat.ble i 4 then (bif Nat.ble i 3 then (5, .invokevirtual 161, 17, 2, 0, []) else (8, .ifCond .ne 6, 7, 0, 0, [])) else (bif Nat.ble i 5 then (11, .ldc 64, 0, 0, (-1000001), []) else (13, .ireturn, 0, 0, 0, [])))) else (bif Nat.ble i 9 then (bif Nat.ble i 7 then (14, .iload_n 2, 0, 0, 0, []) else (bif Nat.ble i 8 then (15, .tableswitch 55 0 2 #[25, 35, 45], 27, 0, 0, [(0, 9), (1, 15), (2, 21)]) else (40, .aload_n 0, 0, 0, 0, []))) else (bif Nat.ble i 11 then (bif Nat.ble i 10 then (41, .getfield 41, 4, 6, 0, []) else (44, .getfield 196, 5, 2, 0, [])) else (bif Nat.ble i 12 then (47, .iload_n 1, 0, 0, 0, []) else (48, .iaload, 0, 0, 0, []))))) else (bif Nat.ble i 20 then (bif Nat.ble i 16 then (bif Nat.ble i 14 then (49, .ireturn, 0, 0, 0, []) else (bif Nat.ble i 15 then (50, .aload_n 0, 0, 0, 0, []) else (51, .getfield 41, 4, 6, 0, []))) else (bif Nat.ble i 18 then (bif Nat.ble i 17 then (54, .getfield 199, 6, 2, 0, []) else (57, .iload_n 1, 0, 0, 0, [])) else (bif Nat.ble i 19 then (58, .iaload, 0, 0, 0, []) else (59, .ireturn, 0, 0, 0, [])))) else (bif Nat.ble i 24 then (bif Nat.ble i 22 then (bif Nat.ble i 21 then (60, .aload_n 0, 0, 0, 0, []) else (61, .getfield 41, 4, 6, 0, [])) else (bif Nat.ble i 23 then (64, .getfield 164, 7, 2, 0, []) else (67, .iload_n 1, 0, 0, 0, []))) else (bif Nat.ble i 26 then (bif Nat.ble i 25 then (68, .iaload, 0, 0, 0, []) else (69, .ireturn, 0, 0, 0, [])) else (bif Nat.ble i 27 then (70, .ldc 64, 0, 0, (-1000001), []) else (72, .ireturn, 0, 0, 0, []))))))
/-- GridQuarrels.parish(II)I -/
def cd121 : Nat → mmE := fun i => (bif Nat.ble i 12 then (bif Nat.ble i 5 then (bif Nat.ble i 2 then (bif Nat.ble i 0 then (0, .aload_n 0, 0, 0, 0, []) else (bif Nat.ble i 1 then (1, .getfield 41, 4, 6, 0, []) else (4, .iload_n 1, 0, 0, 0, []))) else (bif Nat.ble i 3 then (5, .invokevirtual 150, 16, 2, 0, []) else (bif Nat.ble i 4 then (8, .ifCond .ne 6, 7, 0, 0, []) else (11, .ldc 64, 0, 0, (-1000001), [])))) else (bif Nat.ble i 8 then (bif Nat.ble i 6 then (13, .ireturn, 0, 0, 0, []) else (bif Nat.ble i 7 then (14, .iload_n 2, 0, 0, 0, []) else (15, .tableswitch 53 0 2 #[25, 35, 44], 25, 0, 0, [(0, 9), (1, 15), (2, 20)]))) else (bif Nat.ble i 10 then (bif Nat.ble i 9 then (40, .aload_n 0, 0, 0, 0, []) else (41, .getfield 41, 4, 6, 0, [])) else (bif Nat.ble i 11 then (44, .getfield 157, 4, 2, 0, []) else (47, .iload_n 1, 0, 0, 0, []))))) else (bif Nat.ble i 19 then (bif Nat.ble i 15 then (bif Nat.ble i 13 then (48, .iaload, 0, 0, 0, []) else (bif Nat.ble i 14 then (49, .ireturn, 0, 0, 0, []) else (50, .aload_n 0, 0, 0, 0, []))) else (bif Nat.ble i 17 then (bif Nat.ble i 16 then (51, .getfield 41, 4, 6, 0, []) else (54, .iload_n 1, 0, 0, 0, [])) else (bif Nat.ble i 18 then (55, .invokevirtual 202, 39, 2, 0, []) else (58, .ireturn, 0, 0, 0, [])))) else (bif Nat.ble i 22 then (bif Nat.ble i 20 then (59, .aload_n 0, 0, 0, 0, []) else (bif Nat.ble i 21 then (60, .getfield 41, 4, 6, 0, []) else (63, .iload_n 1, 0, 0, 0, []))) else (bif Nat.ble i 24 then (bif Nat.ble i 23 then (64, .invokevirtual 205, 41, 2, 0, []) else (67, .ireturn, 0, 0, 0, [])) else (bif Nat.ble i 25 then (68, .ldc 64, 0, 0, (-1000001), []) else (70, .ireturn, 0, 0, 0, []))))))
/-- GridQuarrels.ahead(III)I -/
def cd122 : Nat → mmE := fun i => (bif Nat.ble i 17 then (bif Nat.ble i 8 then (bif Nat.ble i 3 then (bif Nat.ble i 1 then (bif Nat.ble i 0 then (0, .aload_n 0, 0, 0, 0, []) else (1, .getfield 41, 4, 6, 0, [])) else (bif Nat.ble i 2 then (4, .iload_n 1, 0, 0, 0, []) else (5, .invokevirtual 167, 18, 2, 0, []))) else (bif Nat.ble i 5 then (bif Nat.ble i 4 then (8, .ifCond .eq 22, 15, 0, 0, []) else (11, .iload_n 2, 0, 0, 0, [])) else (bif Nat.ble i 6 then (12, .iconst 0, 0, 0, 0, []) else (bif Nat.ble i 7 then (13, .bipush 60, 0, 0, 60, []) else (15, .invokestatic 60, 150, 3, 0, []))))) else (bif Nat.ble i 12 then (bif Nat.ble i 10 then (bif Nat.ble i 9 then (18, .ifCond .eq 12, 15, 0, 0, []) else (21, .iload_n 3, 0, 0, 0, [])) else (bif Nat.ble i 11 then (22, .iconst 0, 0, 0, 0, []) else (23, .iconst 1, 0, 0, 1, []))) else (bif Nat.ble i 14 then (bif Nat.ble i 13 then (24, .invokestatic 60, 150, 3, 0, []) else (27, .ifCond .ne 6, 17, 0, 0, [])) else (bif Nat.ble i 15 then (30, .ldc 64, 0, 0, (-1000001), []) else (bif Nat.ble i 16 then (32, .ireturn, 0, 0, 0, []) else (33, .aload_n 0, 0, 0, 0, [])))))) else (bif Nat.ble i 26 then (bif Nat.ble i 21 then (bif Nat.ble i 19 then (bif Nat.ble i 18 then (34, .getfield 33, 3, 6, 0, []) else (37, .iload_n 2, 0, 0, 0, [])) else (bif Nat.ble i 20 then (38, .invokevirtual 208, 80, 2, 0, []) else (41, .iload_n 3, 0, 0, 0, []))) else (bif Nat.ble i 23 then (bif Nat.ble i 22 then (42, .ifCond .ne 18, 30, 0, 0, []) else (45, .aload_n 0, 0, 0, 0, [])) else (bif Nat.ble i 24 then (46, .getfield 33, 3, 6, 0, []) else (bif Nat.ble i 25 then (49, .getfield 212, 1, 5, 0, []) else (52, .getfield 170, 9, 2, 0, []))))) else (bif Nat.ble i 31 then (bif Nat.ble i 28 then (bif Nat.ble i 27 then (55, .iload_n 1, 0, 0, 0, []) else (56, .iaload, 0, 0, 0, [])) else (bif Nat.ble i 29 then (57, .goto 15, 36, 0, 0, []) else (bif Nat.ble i 30 then (60, .aload_n 0, 0, 0, 0, []) else (61, .getfield 33, 3, 6, 0, [])))) else (bif Nat.ble i 33 then (bif Nat.ble i 32 then (64, .getfield 212, 1, 5, 0, []) else (67, .getfield 184, 10, 2, 0, [])) else (bif Nat.ble i 34 then (70, .iload_n 1, 0, 0, 0, []) else (bif Nat.ble i 35 then (71, .iaload, 0, 0, 0, []) else (72, .ireturn, 0, 0, 0, [])))))))
/-- GridQuarrels.hayAhead(II)I -/
def cd123 : Nat → mmE := fun i => (bif Nat.ble i 10 then (bif Nat.ble i 4 then (bif Nat.ble i 1 then (bif Nat.ble i 0 then (0, .aload_n 0, 0, 0, 0, []) else (1, .getfield 41, 4, 6, 0, [])) else (bif Nat.ble i 2 then (4, .iload_n 1, 0, 0, 0, []) else (bif Nat.ble i 3 then (5, .invokevirtual 150, 16, 2, 0, []) else (8, .ifCond .eq 13, 10, 0, 0, [])))) else (bif Nat.ble i 7 then (bif Nat.ble i 5 then (11, .iload_n 2, 0, 0, 0, []) else (bif Nat.ble i 6 then (12, .iconst 0, 0, 0, 0, []) else (13, .bipush 60, 0, 0, 60, []))) else (bif Nat.ble i 8 then (15, .invokestatic 60, 150, 3, 0, []) else (bif Nat.ble i 9 then (18, .ifCond .ne 6, 12, 0, 0, []) else (21, .ldc 64, 0, 0, (-1000001), []))))) else (bif Nat.ble i 16 then (bif Nat.ble i 13 then (bif Nat.ble i 11 then (23, .ireturn, 0, 0, 0, []) else (bif Nat.ble i 12 then (24, .aload_n 0, 0, 0, 0, []) else (25, .getfield 33, 3, 6, 0, []))) else (bif Nat.ble i 14 then (28, .iload_n 2, 0, 0, 0, []) else (bif Nat.ble i 15 then (29, .invokevirtual 208, 80, 2, 0, []) else (32, .aload_n 0, 0, 0, 0, [])))) else (bif Nat.ble i 19 then (bif Nat.ble i 17 then (33, .getfield 33, 3, 6, 0, []) else (bif Nat.ble i 18 then (36, .getfield 212, 1, 5, 0, []) else (39, .getfield 157, 4, 2, 0, []))) else (bif Nat.ble i 20 then (42, .iload_n 1, 0, 0, 0, []) else (bif Nat.ble i 21 then (43, .iaload, 0, 0, 0, []) else (44, .ireturn, 0, 0, 0, []))))))
/-- GridQuarrels.dies(I)I -/
def cd124 : Nat → mmE := fun i => (bif Nat.ble i 6 then (bif Nat.ble i 2 then (bif Nat.ble i 0 then (0, .aload_n 0, 0, 0, 0, []) else (bif Nat.ble i 1 then (1, .getfield 41, 4, 6, 0, []) else (4, .iload_n 1, 0, 0, 0, []))) else (bif Nat.ble i 4 then (bif Nat.ble i 3 then (5, .invokevirtual 167, 18, 2, 0, []) else (8, .ifCond .ne 6, 7, 0, 0, [])) else (bif Nat.ble i 5 then (11, .ldc 64, 0, 0, (-1000001), []) else (13, .ireturn, 0, 0, 0, [])))) else (bif Nat.ble i 10 then (bif Nat.ble i 8 then (bif Nat.ble i 7 then (14, .aload_n 0, 0, 0, 0, []) else (15, .getfield 33, 3, 6, 0, [])) else (bif Nat.ble i 9 then (18, .invokevirtual 215, 78, 1, 0, []) else (21, .aload_n 0, 0, 0, 0, []))) else (bif Nat.ble i 12 then (bif Nat.ble i 11 then (22, .getfield 33, 3, 6, 0, []) else (25, .iload_n 1, 0, 0, 0, [])) else (bif Nat.ble i 13 then (26, .invokevirtual 218, 81, 2, 0, []) else (29, .ireturn, 0, 0, 0, [])))))
/-- GridQuarrels.comes(II)I -/
def cd125 : Nat → mmE := fun i => (bif Nat.ble i 8 then (bif Nat.ble i 3 then (bif Nat.ble i 1 then (bif Nat.ble i 0 then (0, .aload_n 0, 0, 0, 0, []) else (1, .getfield 41, 4, 6, 0, [])) else (bif Nat.ble i 2 then (4, .iload_n 1, 0, 0, 0, []) else (5, .invokevirtual 167, 18, 2, 0, []))) else (bif Nat.ble i 5 then (bif Nat.ble i 4 then (8, .ifCond .eq 14, 10, 0, 0, []) else (11, .aload_n 0, 0, 0, 0, [])) else (bif Nat.ble i 6 then (12, .getfield 41, 4, 6, 0, []) else (bif Nat.ble i 7 then (15, .iload_n 2, 0, 0, 0, []) else (16, .invokevirtual 150, 16, 2, 0, []))))) else (bif Nat.ble i 12 then (bif Nat.ble i 10 then (bif Nat.ble i 9 then (19, .ifCond .ne 6, 12, 0, 0, []) else (22, .ldc 64, 0, 0, (-1000001), [])) else (bif Nat.ble i 11 then (24, .ireturn, 0, 0, 0, []) else (25, .aload_n 0, 0, 0, 0, []))) else (bif Nat.ble i 14 then (bif Nat.ble i 13 then (26, .getfield 33, 3, 6, 0, []) else (29, .iload_n 1, 0, 0, 0, [])) else (bif Nat.ble i 15 then (30, .iload_n 2, 0, 0, 0, []) else (bif Nat.ble i 16 then (31, .invokevirtual 221, 82, 3, 0, []) else (34, .ireturn, 0, 0, 0, []))))))
/-- GridQuarrels.meet(II)I -/
def cd126 : Nat → mmE := fun i => (bif Nat.ble i 9 then (bif Nat.ble i 4 then (bif Nat.ble i 1 then (bif Nat.ble i 0 then (0, .aload_n 0, 0, 0, 0, []) else (1, .getfield 41, 4, 6, 0, [])) else (bif Nat.ble i 2 then (4, .iload_n 1, 0, 0, 0, []) else (bif Nat.ble i 3 then (5, .invokevirtual 167, 18, 2, 0, []) else (8, .ifCond .eq 19, 13, 0, 0, [])))) else (bif Nat.ble i 6 then (bif Nat.ble i 5 then (11, .aload_n 0, 0, 0, 0, []) else (12, .getfield 41, 4, 6, 0, [])) else (bif Nat.ble i 7 then (15, .iload_n 2, 0, 0, 0, []) else (bif Nat.ble i 8 then (16, .invokevirtual 167, 18, 2, 0, []) else (19, .ifCond .eq 8, 13, 0, 0, []))))) else (bif Nat.ble i 14 then (bif Nat.ble i 11 then (bif Nat.ble i 10 then (22, .iload_n 1, 0, 0, 0, []) else (23, .iload_n 2, 0, 0, 0, [])) else (bif Nat.ble i 12 then (24, .if_icmp .ne 6, 15, 0, 0, []) else (bif Nat.ble i 13 then (27, .ldc 64, 0, 0, (-1000001), []) else (29, .ireturn, 0, 0, 0, [])))) else (bif Nat.ble i 17 then (bif Nat.ble i 15 then (30, .aload_n 0, 0, 0, 0, []) else (bif Nat.ble i 16 then (31, .getfield 33, 3, 6, 0, []) else (34, .iload_n 1, 0, 0, 0, []))) else (bif Nat.ble i 18 then (35, .iload_n 2, 0, 0, 0, []) else (bif Nat.ble i 19 then (36, .invokevirtual 224, 83, 3, 0, []) else (39, .ireturn, 0, 0, 0, []))))))
/-- GridQuarrels.grazed(I)I -/
def cd127 : Nat → mmE := fun i => (bif Nat.ble i 10 then (bif Nat.ble i 4 then (bif Nat.ble i 1 then (bif Nat.ble i 0 then (0, .aload_n 0, 0, 0, 0, []) else (1, .getfield 41, 4, 6, 0, [])) else (bif Nat.ble i 2 then (4, .invokevirtual 135, 15, 1, 0, []) else (bif Nat.ble i 3 then (7, .ifCond .ne 6, 6, 0, 0, []) else (10, .ldc 131, 0, 0, (-1000002), [])))) else (bif Nat.ble i 7 then (bif Nat.ble i 5 then (12, .ireturn, 0, 0, 0, []) else (bif Nat.ble i 6 then (13, .iload_n 1, 0, 0, 0, []) else (14, .iconst 1, 0, 0, 1, []))) else (bif Nat.ble i 8 then (15, .bipush 60, 0, 0, 60, []) else (bif Nat.ble i 9 then (17, .invokestatic 60, 150, 3, 0, []) else (20, .ifCond .ne 6, 13, 0, 0, []))))) else (bif Nat.ble i 15 then (bif Nat.ble i 12 then (bif Nat.ble i 11 then (23, .ldc 64, 0, 0, (-1000001), []) else (25, .ireturn, 0, 0, 0, [])) else (bif Nat.ble i 13 then (26, .aload_n 0, 0, 0, 0, []) else (bif Nat.ble i 14 then (27, .getfield 33, 3, 6, 0, []) else (30, .iload_n 1, 0, 0, 0, [])))) else (bif Nat.ble i 18 then (bif Nat.ble i 16 then (31, .invokevirtual 208, 80, 2, 0, []) else (bif Nat.ble i 17 then (34, .aload_n 0, 0, 0, 0, []) else (35, .getfield 33, 3, 6, 0, []))) else (bif Nat.ble i 19 then (38, .getfield 212, 1, 5, 0, []) else (bif Nat.ble i 20 then (41, .getfield 227, 12, 2, 0, []) else (44, .ireturn, 0, 0, 0, []))))))
/-- GridQuarrels.shuts(III)I -/
def cd128 : Nat → mmE := fun i => (bif Nat.ble i 11 then (bif Nat.ble i 5 then (bif Nat.ble i 2 then (bif Nat.ble i 0 then (0, .aload_n 0, 0, 0, 0, []) else (bif Nat.ble i 1 then (1, .getfield 41, 4, 6, 0, []) else (4, .iload_n 1, 0, 0, 0, []))) else (bif Nat.ble i 3 then (5, .invokevirtual 150, 16, 2, 0, []) else (bif Nat.ble i 4 then (8, .ifCond .eq 22, 15, 0, 0, []) else (11, .iload_n 2, 0, 0, 0, [])))) else (bif Nat.ble i 8 then (bif Nat.ble i 6 then (12, .iconst 1, 0, 0, 1, []) else (bif Nat.ble i 7 then (13, .bipush 30, 0, 0, 30, []) else (15, .invokestatic 60, 150, 3, 0, []))) else (bif Nat.ble i 9 then (18, .ifCond .eq 12, 15, 0, 0, []) else (bif Nat.ble i 10 then (21, .iload_n 3, 0, 0, 0, []) else (22, .iconst 0, 0, 0, 0, []))))) else (bif Nat.ble i 17 then (bif Nat.ble i 14 then (bif Nat.ble i 12 then (23, .iconst 1, 0, 0, 1, []) else (bif Nat.ble i 13 then (24, .invokestatic 60, 150, 3, 0, []) else (27, .ifCond .ne 6, 17, 0, 0, []))) else (bif Nat.ble i 15 then (30, .ldc 64, 0, 0, (-1000001), []) else (bif Nat.ble i 16 then (32, .ireturn, 0, 0, 0, []) else (33, .aload_n 0, 0, 0, 0, [])))) else (bif Nat.ble i 20 then (bif Nat.ble i 18 then (34, .getfield 33, 3, 6, 0, []) else (bif Nat.ble i 19 then (37, .iload_n 1, 0, 0, 0, []) else (38, .iload_n 2, 0, 0, 0, []))) else (bif Nat.ble i 22 then (bif Nat.ble i 21 then (39, .invokevirtual 230, 84, 3, 0, []) else (42, .iload_n 3, 0, 0, 0, [])) else (bif Nat.ble i 23 then (43, .invokestatic 233, 152, 2, 0, []) else (46, .ireturn, 0, 0, 0, []))))))
/-- GridQuarrels.lures(IIII)I -/
def cd129 : Nat → mmE := fun i => (bif Nat.ble i 15 then (bif Nat.ble i 7 then (bif Nat.ble i 3 then (bif Nat.ble i 1 then (bif Nat.ble i 0 then (0, .aload_n 0, 0, 0, 0, []) else (1, .getfield 41, 4, 6, 0, [])) else (bif Nat.ble i 2 then (4, .iload_n 1, 0, 0, 0, []) else (5, .invokevirtual 167, 18, 2, 0, []))) else (bif Nat.ble i 5 then (bif Nat.ble i 4 then (8, .ifCond .eq 14, 10, 0, 0, []) else (11, .aload_n 0, 0, 0, 0, [])) else (bif Nat.ble i 6 then (12, .getfield 41, 4, 6, 0, []) else (15, .iload_n 2, 0, 0, 0, [])))) else (bif Nat.ble i 11 then (bif Nat.ble i 9 then (bif Nat.ble i 8 then (16, .invokevirtual 150, 16, 2, 0, []) else (19, .ifCond .ne 6, 12, 0, 0, [])) else (bif Nat.ble i 10 then (22, .ldc 64, 0, 0, (-1000001), []) else (24, .ireturn, 0, 0, 0, []))) else (bif Nat.ble i 13 then (bif Nat.ble i 12 then (25, .iload_n 3, 0, 0, 0, []) else (26, .iconst 1, 0, 0, 1, [])) else (bif Nat.ble i 14 then (27, .bipush 30, 0, 0, 30, []) else (29, .invokestatic 60, 150, 3, 0, []))))) else (bif Nat.ble i 23 then (bif Nat.ble i 19 then (bif Nat.ble i 17 then (bif Nat.ble i 16 then (32, .ifCond .eq 13, 22, 0, 0, []) else (35, .iload 4, 0, 0, 0, [])) else (bif Nat.ble i 18 then (37, .iconst 0, 0, 0, 0, []) else (38, .iconst 1, 0, 0, 1, []))) else (bif Nat.ble i 21 then (bif Nat.ble i 20 then (39, .invokestatic 60, 150, 3, 0, []) else (42, .ifCond .ne 6, 24, 0, 0, [])) else (bif Nat.ble i 22 then (45, .ldc 64, 0, 0, (-1000001), []) else (47, .ireturn, 0, 0, 0, [])))) else (bif Nat.ble i 27 then (bif Nat.ble i 25 then (bif Nat.ble i 24 then (48, .aload_n 0, 0, 0, 0, []) else (49, .getfield 33, 3, 6, 0, [])) else (bif Nat.ble i 26 then (52, .iload_n 1, 0, 0, 0, []) else (53, .iload_n 2, 0, 0, 0, []))) else (bif Nat.ble i 29 then (bif Nat.ble i 28 then (54, .iload_n 3, 0, 0, 0, []) else (55, .invokevirtual 236, 88, 4, 0, [])) else (bif Nat.ble i 30 then (58, .iload 4, 0, 0, 0, []) else (bif Nat.ble i 31 then (60, .invokestatic 233, 152, 2, 0, []) else (63, .ireturn, 0, 0, 0, [])))))))
/-- GridQuarrels.starve(II)I -/
def cd130 : Nat → mmE := fun i => (bif Nat.ble i 14 then (bif Nat.ble i 6 then (bif Nat.ble i 2 then (bif Nat.ble i 0 then (0, .aload_n 0, 0, 0, 0, []) else (bif Nat.ble i 1 then (1, .getfield 41, 4, 6, 0, []) else (4, .iload_n 1, 0, 0, 0, []))) else (bif Nat.ble i 4 then (bif Nat.ble i 3 then (5, .invokevirtual 167, 18, 2, 0, []) else (8, .ifCond .eq 12, 10, 0, 0, [])) else (bif Nat.ble i 5 then (11, .iload_n 2, 0, 0, 0, []) else (12, .iconst 0, 0, 0, 0, [])))) else (bif Nat.ble i 10 then (bif Nat.ble i 8 then (bif Nat.ble i 7 then (13, .iconst 1, 0, 0, 1, []) else (14, .invokestatic 60, 150, 3, 0, [])) else (bif Nat.ble i 9 then (17, .ifCond .ne 6, 12, 0, 0, []) else (20, .ldc 64, 0, 0, (-1000001), []))) else (bif Nat.ble i 12 then (bif Nat.ble i 11 then (22, .ireturn, 0, 0, 0, []) else (23, .aload_n 0, 0, 0, 0, [])) else (bif Nat.ble i 13 then (24, .getfield 33, 3, 6, 0, []) else (27, .iload_n 1, 0, 0, 0, []))))) else (bif Nat.ble i 21 then (bif Nat.ble i 17 then (bif Nat.ble i 15 then (28, .invokevirtual 239, 90, 2, 0, []) else (bif Nat.ble i 16 then (31, .istore_n 3, 0, 0, 0, []) else (32, .iload_n 2, 0, 0, 0, []))) else (bif Nat.ble i 19 then (bif Nat.ble i 18 then (33, .ifCond .eq 9, 22, 0, 0, []) else (36, .iload_n 3, 0, 0, 0, [])) else (bif Nat.ble i 20 then (37, .ldc 109, 0, 0, (-1000000), []) else (39, .if_icmp .ne 5, 24, 0, 0, [])))) else (bif Nat.ble i 25 then (bif Nat.ble i 23 then (bif Nat.ble i 22 then (42, .iload_n 3, 0, 0, 0, []) else (43, .ireturn, 0, 0, 0, [])) else (bif Nat.ble i 24 then (44, .aload_n 0, 0, 0, 0, []) else (45, .getfield 33, 3, 6, 0, []))) else (bif Nat.ble i 27 then (bif Nat.ble i 26 then (48, .iload_n 1, 0, 0, 0, []) else (49, .iload_n 3, 0, 0, 0, [])) else (bif Nat.ble i 28 then (50, .invokevirtual 242, 91, 3, 0, []) else (53, .ireturn, 0, 0, 0, []))))))
/-- GridQuarrels.way(II)I -/
def cd131 : Nat → mmE := fun i => (bif Nat.ble i 11 then (bif Nat.ble i 5 then (bif Nat.ble i 2 then (bif Nat.ble i 0 then (0, .aload_n 0, 0, 0, 0, []) else (bif Nat.ble i 1 then (1, .getfield 41, 4, 6, 0, []) else (4, .iload_n 1, 0, 0, 0, []))) else (bif Nat.ble i 3 then (5, .invokevirtual 167, 18, 2, 0, []) else (bif Nat.ble i 4 then (8, .ifCond .eq 14, 10, 0, 0, []) else (11, .aload_n 0, 0, 0, 0, [])))) else (bif Nat.ble i 8 then (bif Nat.ble i 6 then (12, .getfield 41, 4, 6, 0, []) else (bif Nat.ble i 7 then (15, .iload_n 2, 0, 0, 0, []) else (16, .invokevirtual 150, 16, 2, 0, []))) else (bif Nat.ble i 9 then (19, .ifCond .ne 6, 12, 0, 0, []) else (bif Nat.ble i 10 then (22, .ldc 64, 0, 0, (-1000001), []) else (24, .ireturn, 0, 0, 0, []))))) else (bif Nat.ble i 17 then (bif Nat.ble i 14 then (bif Nat.ble i 12 then (25, .aload_n 0, 0, 0, 0, []) else (bif Nat.ble i 13 then (26, .getfield 41, 4, 6, 0, []) else (29, .iload_n 1, 0, 0, 0, []))) else (bif Nat.ble i 15 then (30, .invokevirtual 173, 19, 2, 0, []) else (bif Nat.ble i 16 then (33, .ifCond .eq 6, 19, 0, 0, []) else (36, .ldc 131, 0, 0, (-1000002), [])))) else (bif Nat.ble i 20 then (bif Nat.ble i 18 then (38, .ireturn, 0, 0, 0, []) else (bif Nat.ble i 19 then (39, .aload_n 0, 0, 0, 0, []) else (40, .getfield 41, 4, 6, 0, []))) else (bif Nat.ble i 22 then (bif Nat.ble i 21 then (43, .iload_n 1, 0, 0, 0, []) else (44, .iload_n 2, 0, 0, 0, [])) else (bif Nat.ble i 23 then (45, .invokevirtual 245, 45, 3, 0, []) else (48, .ireturn, 0, 0, 0, []))))))
/-- GridQuarrels.reach(I)I -/
def cd132 : Nat → mmE := fun i => (bif Nat.ble i 8 then (bif Nat.ble i 3 then (bif Nat.ble i 1 then (bif Nat.ble i 0 then (0, .aload_n 0, 0, 0, 0, []) else (1, .getfield 41, 4, 6, 0, [])) else (bif Nat.ble i 2 then (4, .iload_n 1, 0, 0, 0, []) else (5, .invokevirtual 167, 18, 2, 0, []))) else (bif Nat.ble i 5 then (bif Nat.ble i 4 then (8, .ifCond .ne 6, 7, 0, 0, []) else (11, .ldc 64, 0, 0, (-1000001), [])) else (bif Nat.ble i 6 then (13, .ireturn, 0, 0, 0, []) else (bif Nat.ble i 7 then (14, .aload_n 0, 0, 0, 0, []) else (15, .getfield 41, 4, 6, 0, []))))) else (bif Nat.ble i 13 then (bif Nat.ble i 10 then (bif Nat.ble i 9 then (18, .iload_n 1, 0, 0, 0, []) else (19, .invokevirtual 173, 19, 2, 0, [])) else (bif Nat.ble i 11 then (22, .ifCond .eq 6, 14, 0, 0, []) else (bif Nat.ble i 12 then (25, .ldc 131, 0, 0, (-1000002), []) else (27, .ireturn, 0, 0, 0, [])))) else (bif Nat.ble i 15 then (bif Nat.ble i 14 then (28, .aload_n 0, 0, 0, 0, []) else (29, .getfield 41, 4, 6, 0, [])) else (bif Nat.ble i 16 then (32, .iload_n 1, 0, 0, 0, []) else (bif Nat.ble i 17 then (33, .invokevirtual 248, 46, 2, 0, []) else (36, .ireturn, 0, 0, 0, []))))))
/-- GridQuarrels.home()I -/
def cd133 : Nat → mmE := fun i => (bif Nat.ble i 4 then (bif Nat.ble i 1 then (bif Nat.ble i 0 then (0, .aload_n 0, 0, 0, 0, []) else (1, .getfield 41, 4, 6, 0, [])) else (bif Nat.ble i 2 then (4, .invokevirtual 135, 15, 1, 0, []) else (bif Nat.ble i 3 then (7, .ifCond .ne 6, 6, 0, 0, []) else (10, .ldc 131, 0, 0, (-1000002), [])))) else (bif Nat.ble i 6 then (bif Nat.ble i 5 then (12, .ireturn, 0, 0, 0, []) else (13, .aload_n 0, 0, 0, 0, [])) else (bif Nat.ble i 7 then (14, .getfield 41, 4, 6, 0, []) else (bif Nat.ble i 8 then (17, .invokevirtual 251, 40, 1, 0, []) else (20, .ireturn, 0, 0, 0, [])))))
/-- GridQuarrels.fed(II)I -/
def cd134 : Nat → mmE := fun i => (bif Nat.ble i 18 then (bif Nat.ble i 8 then (bif Nat.ble i 3 then (bif Nat.ble i 1 then (bif Nat.ble i 0 then (0, .aload_n 0, 0, 0, 0, []) else (1, .getfield 41, 4, 6, 0, [])) else (bif Nat.ble i 2 then (4, .invokevirtual 135, 15, 1, 0, []) else (7, .ifCond .ne 6, 6, 0, 0, []))) else (bif Nat.ble i 5 then (bif Nat.ble i 4 then (10, .ldc 131, 0, 0, (-1000002), []) else (12, .ireturn, 0, 0, 0, [])) else (bif Nat.ble i 6 then (13, .iload_n 1, 0, 0, 0, []) else (bif Nat.ble i 7 then (14, .iconst 1, 0, 0, 1, []) else (15, .bipush 60, 0, 0, 60, []))))) else (bif Nat.ble i 13 then (bif Nat.ble i 10 then (bif Nat.ble i 9 then (17, .invokestatic 60, 150, 3, 0, []) else (20, .ifCond .eq 12, 16, 0, 0, [])) else (bif Nat.ble i 11 then (23, .iload_n 2, 0, 0, 0, []) else (bif Nat.ble i 12 then (24, .iconst 0, 0, 0, 0, []) else (25, .iconst 1, 0, 0, 1, [])))) else (bif Nat.ble i 15 then (bif Nat.ble i 14 then (26, .invokestatic 60, 150, 3, 0, []) else (29, .ifCond .ne 6, 18, 0, 0, [])) else (bif Nat.ble i 16 then (32, .ldc 64, 0, 0, (-1000001), []) else (bif Nat.ble i 17 then (34, .ireturn, 0, 0, 0, []) else (35, .aload_n 0, 0, 0, 0, [])))))) else (bif Nat.ble i 27 then (bif Nat.ble i 22 then (bif Nat.ble i 20 then (bif Nat.ble i 19 then (36, .getfield 33, 3, 6, 0, []) else (39, .iload_n 1, 0, 0, 0, [])) else (bif Nat.ble i 21 then (40, .invokevirtual 208, 80, 2, 0, []) else (43, .aload_n 0, 0, 0, 0, []))) else (bif Nat.ble i 24 then (bif Nat.ble i 23 then (44, .getfield 33, 3, 6, 0, []) else (47, .getfield 212, 1, 5, 0, [])) else (bif Nat.ble i 25 then (50, .invokevirtual 254, 43, 1, 0, []) else (bif Nat.ble i 26 then (53, .istore_n 3, 0, 0, 0, []) else (54, .iload_n 2, 0, 0, 0, []))))) else (bif Nat.ble i 32 then (bif Nat.ble i 29 then (bif Nat.ble i 28 then (55, .ifCond .ne 7, 31, 0, 0, []) else (58, .iload_n 3, 0, 0, 0, [])) else (bif Nat.ble i 30 then (59, .goto 15, 37, 0, 0, []) else (bif Nat.ble i 31 then (62, .aload_n 0, 0, 0, 0, []) else (63, .getfield 33, 3, 6, 0, [])))) else (bif Nat.ble i 34 then (bif Nat.ble i 33 then (66, .getfield 212, 1, 5, 0, []) else (69, .getfield 257, 14, 2, 0, [])) else (bif Nat.ble i 35 then (72, .iload_n 3, 0, 0, 0, []) else (bif Nat.ble i 36 then (73, .iaload, 0, 0, 0, []) else (74, .ireturn, 0, 0, 0, [])))))))
/-- GridQuarrels.who(IIIII)I -/
def cd135 : Nat → mmE := fun i => (bif Nat.ble i 38 then (bif Nat.ble i 18 then (bif Nat.ble i 8 then (bif Nat.ble i 3 then (bif Nat.ble i 1 then (bif Nat.ble i 0 then (0, .aload_n 0, 0, 0, 0, []) else (1, .getfield 41, 4, 6, 0, [])) else (bif Nat.ble i 2 then (4, .iload_n 1, 0, 0, 0, []) else (5, .invokevirtual 167, 18, 2, 0, []))) else (bif Nat.ble i 5 then (bif Nat.ble i 4 then (8, .ifCond .eq 12, 10, 0, 0, []) else (11, .iload_n 2, 0, 0, 0, [])) else (bif Nat.ble i 6 then (12, .iconst 0, 0, 0, 0, []) else (bif Nat.ble i 7 then (13, .iconst 2, 0, 0, 2, []) else (14, .invokestatic 60, 150, 3, 0, []))))) else (bif Nat.ble i 13 then (bif Nat.ble i 10 then (bif Nat.ble i 9 then (17, .ifCond .ne 6, 12, 0, 0, []) else (20, .ldc 64, 0, 0, (-1000001), [])) else (bif Nat.ble i 11 then (22, .ireturn, 0, 0, 0, []) else (bif Nat.ble i 12 then (23, .aload_n 0, 0, 0, 0, []) else (24, .getfield 10, 0, 6, 0, [])))) else (bif Nat.ble i 15 then (bif Nat.ble i 14 then (27, .iload_n 3, 0, 0, 0, []) else (28, .invokevirtual 56, 65, 2, 0, [])) else (bif Nat.ble i 16 then (31, .ifCond .eq 14, 22, 0, 0, []) else (bif Nat.ble i 17 then (34, .iload 5, 0, 0, 0, []) else (36, .iconst 1, 0, 0, 1, [])))))) else (bif Nat.ble i 28 then (bif Nat.ble i 23 then (bif Nat.ble i 20 then (bif Nat.ble i 19 then (37, .bipush 12, 0, 0, 12, []) else (39, .invokestatic 60, 150, 3, 0, [])) else (bif Nat.ble i 21 then (42, .ifCond .ne 6, 24, 0, 0, []) else (bif Nat.ble i 22 then (45, .ldc 64, 0, 0, (-1000001), []) else (47, .ireturn, 0, 0, 0, [])))) else (bif Nat.ble i 25 then (bif Nat.ble i 24 then (48, .aload_n 0, 0, 0, 0, []) else (49, .getfield 41, 4, 6, 0, [])) else (bif Nat.ble i 26 then (52, .iload_n 1, 0, 0, 0, []) else (bif Nat.ble i 27 then (53, .invokevirtual 173, 19, 2, 0, []) else (56, .ifCond .eq 6, 31, 0, 0, []))))) else (bif Nat.ble i 33 then (bif Nat.ble i 30 then (bif Nat.ble i 29 then (59, .ldc 131, 0, 0, (-1000002), []) else (61, .ireturn, 0, 0, 0, [])) else (bif Nat.ble i 31 then (62, .aload_n 0, 0, 0, 0, []) else (bif Nat.ble i 32 then (63, .getfield 10, 0, 6, 0, []) else (66, .iload_n 3, 0, 0, 0, [])))) else (bif Nat.ble i 35 then (bif Nat.ble i 34 then (67, .iload 4, 0, 0, 0, []) else (69, .iload 5, 0, 0, 0, [])) else (bif Nat.ble i 36 then (71, .invokevirtual 76, 68, 4, 0, []) else (bif Nat.ble i 37 then (74, .istore 6, 0, 0, 0, []) else (76, .iload 6, 0, 0, 0, []))))))) else (bif Nat.ble i 58 then (bif Nat.ble i 48 then (bif Nat.ble i 43 then (bif Nat.ble i 40 then (bif Nat.ble i 39 then (78, .ifCond .eq 10, 44, 0, 0, []) else (81, .aload_n 0, 0, 0, 0, [])) else (bif Nat.ble i 41 then (82, .iload 6, 0, 0, 0, []) else (bif Nat.ble i 42 then (84, .invokevirtual 65, 148, 2, 0, []) else (87, .ireturn, 0, 0, 0, [])))) else (bif Nat.ble i 45 then (bif Nat.ble i 44 then (88, .aload_n 0, 0, 0, 0, []) else (89, .getfield 10, 0, 6, 0, [])) else (bif Nat.ble i 46 then (92, .iload_n 3, 0, 0, 0, []) else (bif Nat.ble i 47 then (93, .iload 4, 0, 0, 0, []) else (95, .iload 5, 0, 0, 0, []))))) else (bif Nat.ble i 53 then (bif Nat.ble i 50 then (bif Nat.ble i 49 then (97, .aload_n 0, 0, 0, 0, []) else (98, .getfield 33, 3, 6, 0, [])) else (bif Nat.ble i 51 then (101, .getfield 260, 2, 5, 0, []) else (bif Nat.ble i 52 then (104, .invokevirtual 263, 76, 5, 0, []) else (107, .iload_n 2, 0, 0, 0, [])))) else (bif Nat.ble i 55 then (bif Nat.ble i 54 then (108, .lookupswitch 58 #[(0, 28), (1, 43)], 71, 0, 0, [(0, 55), (1, 63)]) else (136, .aload_n 0, 0, 0, 0, [])) else (bif Nat.ble i 56 then (137, .aload_n 0, 0, 0, 0, []) else (bif Nat.ble i 57 then (138, .getfield 33, 3, 6, 0, []) else (141, .iload_n 1, 0, 0, 0, [])))))) else (bif Nat.ble i 68 then (bif Nat.ble i 63 then (bif Nat.ble i 60 then (bif Nat.ble i 59 then (142, .iload 5, 0, 0, 0, []) else (144, .invokevirtual 267, 93, 3, 0, [])) else (bif Nat.ble i 61 then (147, .invokevirtual 73, 149, 2, 0, []) else (bif Nat.ble i 62 then (150, .ireturn, 0, 0, 0, []) else (151, .aload_n 0, 0, 0, 0, [])))) else (bif Nat.ble i 65 then (bif Nat.ble i 64 then (152, .aload_n 0, 0, 0, 0, []) else (153, .getfield 33, 3, 6, 0, [])) else (bif Nat.ble i 66 then (156, .iload_n 1, 0, 0, 0, []) else (bif Nat.ble i 67 then (157, .iload 5, 0, 0, 0, []) else (159, .invokevirtual 270, 94, 3, 0, []))))) else (bif Nat.ble i 73 then (bif Nat.ble i 70 then (bif Nat.ble i 69 then (162, .invokevirtual 73, 149, 2, 0, []) else (165, .ireturn, 0, 0, 0, [])) else (bif Nat.ble i 71 then (166, .aload_n 0, 0, 0, 0, []) else (bif Nat.ble i 72 then (167, .aload_n 0, 0, 0, 0, []) else (168, .getfield 33, 3, 6, 0, [])))) else (bif Nat.ble i 75 then (bif Nat.ble i 74 then (171, .iload_n 1, 0, 0, 0, []) else (172, .iload 5, 0, 0, 0, [])) else (bif Nat.ble i 76 then (174, .invokevirtual 273, 95, 3, 0, []) else (bif Nat.ble i 77 then (177, .invokevirtual 73, 149, 2, 0, []) else (180, .ireturn, 0, 0, 0, []))))))))
/-- GridQuarrels.grids(IIIII)I -/
def cd136 : Nat → mmE := fun i => (bif Nat.ble i 26 then (bif Nat.ble i 12 then (bif Nat.ble i 5 then (bif Nat.ble i 2 then (bif Nat.ble i 0 then (0, .aload_n 0, 0, 0, 0, []) else (bif Nat.ble i 1 then (1, .getfield 41, 4, 6, 0, []) else (4, .iload_n 1, 0, 0, 0, []))) else (bif Nat.ble i 3 then (5, .invokevirtual 161, 17, 2, 0, []) else (bif Nat.ble i 4 then (8, .ifCond .eq 14, 10, 0, 0, []) else (11, .aload_n 0, 0, 0, 0, [])))) else (bif Nat.ble i 8 then (bif Nat.ble i 6 then (12, .getfield 41, 4, 6, 0, []) else (bif Nat.ble i 7 then (15, .iload_n 2, 0, 0, 0, []) else (16, .invokevirtual 167, 18, 2, 0, []))) else (bif Nat.ble i 10 then (bif Nat.ble i 9 then (19, .ifCond .ne 6, 12, 0, 0, []) else (22, .ldc 64, 0, 0, (-1000001), [])) else (bif Nat.ble i 11 then (24, .ireturn, 0, 0, 0, []) else (25, .aload_n 0, 0, 0, 0, []))))) else (bif Nat.ble i 19 then (bif Nat.ble i 15 then (bif Nat.ble i 13 then (26, .getfield 10, 0, 6, 0, []) else (bif Nat.ble i 14 then (29, .iload_n 3, 0, 0, 0, []) else (30, .invokevirtual 56, 65, 2, 0, []))) else (bif Nat.ble i 17 then (bif Nat.ble i 16 then (33, .ifCond .eq 14, 22, 0, 0, []) else (36, .iload 5, 0, 0, 0, [])) else (bif Nat.ble i 18 then (38, .iconst 1, 0, 0, 1, []) else (39, .bipush 12, 0, 0, 12, [])))) else (bif Nat.ble i 22 then (bif Nat.ble i 20 then (41, .invokestatic 60, 150, 3, 0, []) else (bif Nat.ble i 21 then (44, .ifCond .ne 6, 24, 0, 0, []) else (47, .ldc 64, 0, 0, (-1000001), []))) else (bif Nat.ble i 24 then (bif Nat.ble i 23 then (49, .ireturn, 0, 0, 0, []) else (50, .aload_n 0, 0, 0, 0, [])) else (bif Nat.ble i 25 then (51, .getfield 10, 0, 6, 0, []) else (54, .iload_n 3, 0, 0, 0, [])))))) else (bif Nat.ble i 40 then (bif Nat.ble i 33 then (bif Nat.ble i 29 then (bif Nat.ble i 27 then (55, .iload 4, 0, 0, 0, []) else (bif Nat.ble i 28 then (57, .iload 5, 0, 0, 0, []) else (59, .invokevirtual 76, 68, 4, 0, []))) else (bif Nat.ble i 31 then (bif Nat.ble i 30 then (62, .istore 6, 0, 0, 0, []) else (64, .iload 6, 0, 0, 0, [])) else (bif Nat.ble i 32 then (66, .ifCond .eq 10, 37, 0, 0, []) else (69, .aload_n 0, 0, 0, 0, [])))) else (bif Nat.ble i 36 then (bif Nat.ble i 34 then (70, .iload 6, 0, 0, 0, []) else (bif Nat.ble i 35 then (72, .invokevirtual 65, 148, 2, 0, []) else (75, .ireturn, 0, 0, 0, []))) else (bif Nat.ble i 38 then (bif Nat.ble i 37 then (76, .aload_n 0, 0, 0, 0, []) else (77, .getfield 10, 0, 6, 0, [])) else (bif Nat.ble i 39 then (80, .iload_n 3, 0, 0, 0, []) else (81, .iload 4, 0, 0, 0, []))))) else (bif Nat.ble i 47 then (bif Nat.ble i 43 then (bif Nat.ble i 41 then (83, .iload 5, 0, 0, 0, []) else (bif Nat.ble i 42 then (85, .aload_n 0, 0, 0, 0, []) else (86, .getfield 33, 3, 6, 0, []))) else (bif Nat.ble i 45 then (bif Nat.ble i 44 then (89, .getfield 260, 2, 5, 0, []) else (92, .invokevirtual 263, 76, 5, 0, [])) else (bif Nat.ble i 46 then (95, .aload_n 0, 0, 0, 0, []) else (96, .aload_n 0, 0, 0, 0, [])))) else (bif Nat.ble i 50 then (bif Nat.ble i 48 then (97, .getfield 33, 3, 6, 0, []) else (bif Nat.ble i 49 then (100, .iload_n 1, 0, 0, 0, []) else (101, .iload_n 2, 0, 0, 0, []))) else (bif Nat.ble i 52 then (bif Nat.ble i 51 then (102, .iload 5, 0, 0, 0, []) else (104, .invokevirtual 276, 96, 4, 0, [])) else (bif Nat.ble i 53 then (107, .invokevirtual 73, 149, 2, 0, []) else (110, .ireturn, 0, 0, 0, [])))))))
/-- GridQuarrels.which(III)I -/
def cd137 : Nat → mmE := fun i => (bif Nat.ble i 22 then (bif Nat.ble i 10 then (bif Nat.ble i 4 then (bif Nat.ble i 1 then (bif Nat.ble i 0 then (0, .aload_n 0, 0, 0, 0, []) else (1, .getfield 41, 4, 6, 0, [])) else (bif Nat.ble i 2 then (4, .invokevirtual 135, 15, 1, 0, []) else (bif Nat.ble i 3 then (7, .ifCond .ne 6, 6, 0, 0, []) else (10, .ldc 131, 0, 0, (-1000002), [])))) else (bif Nat.ble i 7 then (bif Nat.ble i 5 then (12, .ireturn, 0, 0, 0, []) else (bif Nat.ble i 6 then (13, .aload_n 0, 0, 0, 0, []) else (14, .getfield 10, 0, 6, 0, []))) else (bif Nat.ble i 8 then (17, .iload_n 1, 0, 0, 0, []) else (bif Nat.ble i 9 then (18, .invokevirtual 56, 65, 2, 0, []) else (21, .ifCond .eq 13, 16, 0, 0, []))))) else (bif Nat.ble i 16 then (bif Nat.ble i 13 then (bif Nat.ble i 11 then (24, .iload_n 3, 0, 0, 0, []) else (bif Nat.ble i 12 then (25, .iconst 1, 0, 0, 1, []) else (26, .bipush 12, 0, 0, 12, []))) else (bif Nat.ble i 14 then (28, .invokestatic 60, 150, 3, 0, []) else (bif Nat.ble i 15 then (31, .ifCond .ne 6, 18, 0, 0, []) else (34, .ldc 64, 0, 0, (-1000001), [])))) else (bif Nat.ble i 19 then (bif Nat.ble i 17 then (36, .ireturn, 0, 0, 0, []) else (bif Nat.ble i 18 then (37, .aload_n 0, 0, 0, 0, []) else (38, .getfield 10, 0, 6, 0, []))) else (bif Nat.ble i 20 then (41, .iload_n 1, 0, 0, 0, []) else (bif Nat.ble i 21 then (42, .iload_n 2, 0, 0, 0, []) else (43, .iload_n 3, 0, 0, 0, [])))))) else (bif Nat.ble i 34 then (bif Nat.ble i 28 then (bif Nat.ble i 25 then (bif Nat.ble i 23 then (44, .invokevirtual 76, 68, 4, 0, []) else (bif Nat.ble i 24 then (47, .istore 4, 0, 0, 0, []) else (49, .iload 4, 0, 0, 0, []))) else (bif Nat.ble i 26 then (51, .ifCond .eq 10, 31, 0, 0, []) else (bif Nat.ble i 27 then (54, .aload_n 0, 0, 0, 0, []) else (55, .iload 4, 0, 0, 0, [])))) else (bif Nat.ble i 31 then (bif Nat.ble i 29 then (57, .invokevirtual 65, 148, 2, 0, []) else (bif Nat.ble i 30 then (60, .ireturn, 0, 0, 0, []) else (61, .aload_n 0, 0, 0, 0, []))) else (bif Nat.ble i 32 then (62, .getfield 10, 0, 6, 0, []) else (bif Nat.ble i 33 then (65, .iload_n 1, 0, 0, 0, []) else (66, .iload_n 2, 0, 0, 0, []))))) else (bif Nat.ble i 40 then (bif Nat.ble i 37 then (bif Nat.ble i 35 then (67, .iload_n 3, 0, 0, 0, []) else (bif Nat.ble i 36 then (68, .aload_n 0, 0, 0, 0, []) else (69, .getfield 33, 3, 6, 0, []))) else (bif Nat.ble i 38 then (72, .getfield 260, 2, 5, 0, []) else (bif Nat.ble i 39 then (75, .invokevirtual 263, 76, 5, 0, []) else (78, .aload_n 0, 0, 0, 0, [])))) else (bif Nat.ble i 43 then (bif Nat.ble i 41 then (79, .aload_n 0, 0, 0, 0, []) else (bif Nat.ble i 42 then (80, .getfield 33, 3, 6, 0, []) else (83, .iload_n 3, 0, 0, 0, []))) else (bif Nat.ble i 44 then (84, .invokevirtual 279, 97, 2, 0, []) else (bif Nat.ble i 45 then (87, .invokevirtual 73, 149, 2, 0, []) else (90, .ireturn, 0, 0, 0, [])))))))
/-- GridQuarrels.snow(IIIII)J -/
def cd138 : Nat → mmE := fun i => (bif Nat.ble i 29 then (bif Nat.ble i 14 then (bif Nat.ble i 6 then (bif Nat.ble i 2 then (bif Nat.ble i 0 then (0, .aload_n 0, 0, 0, 0, []) else (bif Nat.ble i 1 then (1, .getfield 41, 4, 6, 0, []) else (4, .iload_n 1, 0, 0, 0, []))) else (bif Nat.ble i 4 then (bif Nat.ble i 3 then (5, .invokevirtual 167, 18, 2, 0, []) else (8, .ifCond .eq 14, 10, 0, 0, [])) else (bif Nat.ble i 5 then (11, .aload_n 0, 0, 0, 0, []) else (12, .getfield 41, 4, 6, 0, [])))) else (bif Nat.ble i 10 then (bif Nat.ble i 8 then (bif Nat.ble i 7 then (15, .iload_n 2, 0, 0, 0, []) else (16, .invokevirtual 150, 16, 2, 0, [])) else (bif Nat.ble i 9 then (19, .ifCond .ne 7, 12, 0, 0, []) else (22, .ldc2_w 282, 0, 0, (-1000001), []))) else (bif Nat.ble i 12 then (bif Nat.ble i 11 then (25, .lreturn, 0, 0, 0, []) else (26, .iload_n 3, 0, 0, 0, [])) else (bif Nat.ble i 13 then (27, .iconst 0, 0, 0, 0, []) else (28, .bipush 30, 0, 0, 30, []))))) else (bif Nat.ble i 21 then (bif Nat.ble i 17 then (bif Nat.ble i 15 then (30, .invokestatic 60, 150, 3, 0, []) else (bif Nat.ble i 16 then (33, .ifCond .eq 24, 27, 0, 0, []) else (36, .iload 4, 0, 0, 0, []))) else (bif Nat.ble i 19 then (bif Nat.ble i 18 then (38, .iconst 0, 0, 0, 0, []) else (39, .bipush 10, 0, 0, 10, [])) else (bif Nat.ble i 20 then (41, .invokestatic 60, 150, 3, 0, []) else (44, .ifCond .eq 13, 27, 0, 0, [])))) else (bif Nat.ble i 25 then (bif Nat.ble i 23 then (bif Nat.ble i 22 then (47, .iload 5, 0, 0, 0, []) else (49, .iconst 0, 0, 0, 0, [])) else (bif Nat.ble i 24 then (50, .iconst 1, 0, 0, 1, []) else (51, .invokestatic 60, 150, 3, 0, []))) else (bif Nat.ble i 27 then (bif Nat.ble i 26 then (54, .ifCond .ne 7, 29, 0, 0, []) else (57, .ldc2_w 282, 0, 0, (-1000001), [])) else (bif Nat.ble i 28 then (60, .lreturn, 0, 0, 0, []) else (61, .aload_n 0, 0, 0, 0, [])))))) else (bif Nat.ble i 44 then (bif Nat.ble i 36 then (bif Nat.ble i 32 then (bif Nat.ble i 30 then (62, .getfield 33, 3, 6, 0, []) else (bif Nat.ble i 31 then (65, .iload_n 1, 0, 0, 0, []) else (66, .iload_n 2, 0, 0, 0, []))) else (bif Nat.ble i 34 then (bif Nat.ble i 33 then (67, .iload_n 3, 0, 0, 0, []) else (68, .iload 4, 0, 0, 0, [])) else (bif Nat.ble i 35 then (70, .invokevirtual 284, 100, 5, 0, []) else (73, .lstore 6, 0, 0, 0, [])))) else (bif Nat.ble i 40 then (bif Nat.ble i 38 then (bif Nat.ble i 37 then (75, .aload_n 0, 0, 0, 0, []) else (76, .getfield 33, 3, 6, 0, [])) else (bif Nat.ble i 39 then (79, .invokevirtual 288, 99, 1, 0, []) else (82, .lstore 8, 0, 0, 0, []))) else (bif Nat.ble i 42 then (bif Nat.ble i 41 then (84, .lload 6, 0, 0, 0, []) else (86, .lload 8, 0, 0, 0, [])) else (bif Nat.ble i 43 then (88, .invokestatic 292, 154, 2, 0, []) else (91, .lstore 10, 0, 0, 0, []))))) else (bif Nat.ble i 52 then (bif Nat.ble i 48 then (bif Nat.ble i 46 then (bif Nat.ble i 45 then (93, .lload 10, 0, 0, 0, []) else (95, .lconst 0, 0, 0, 0, [])) else (bif Nat.ble i 47 then (96, .lcmp, 0, 0, 0, []) else (97, .ifCond .ne 7, 51, 0, 0, []))) else (bif Nat.ble i 50 then (bif Nat.ble i 49 then (100, .ldc2_w 282, 0, 0, (-1000001), []) else (103, .lreturn, 0, 0, 0, [])) else (bif Nat.ble i 51 then (104, .iload 5, 0, 0, 0, []) else (106, .ifCond .ne 11, 57, 0, 0, [])))) else (bif Nat.ble i 56 then (bif Nat.ble i 54 then (bif Nat.ble i 53 then (109, .lload 6, 0, 0, 0, []) else (111, .lload 10, 0, 0, 0, [])) else (bif Nat.ble i 55 then (113, .ldiv, 0, 0, 0, []) else (114, .goto 8, 60, 0, 0, []))) else (bif Nat.ble i 58 then (bif Nat.ble i 57 then (117, .lload 8, 0, 0, 0, []) else (119, .lload 10, 0, 0, 0, [])) else (bif Nat.ble i 59 then (121, .ldiv, 0, 0, 0, []) else (122, .lreturn, 0, 0, 0, [])))))))
/-- GridQuarrels.drawn(III)I -/
def cd139 : Nat → mmE := fun i => (bif Nat.ble i 19 then (bif Nat.ble i 9 then (bif Nat.ble i 4 then (bif Nat.ble i 1 then (bif Nat.ble i 0 then (0, .aload_n 0, 0, 0, 0, []) else (1, .getfield 41, 4, 6, 0, [])) else (bif Nat.ble i 2 then (4, .invokevirtual 135, 15, 1, 0, []) else (bif Nat.ble i 3 then (7, .ifCond .ne 6, 6, 0, 0, []) else (10, .ldc 131, 0, 0, (-1000002), [])))) else (bif Nat.ble i 6 then (bif Nat.ble i 5 then (12, .ireturn, 0, 0, 0, []) else (13, .iload_n 1, 0, 0, 0, [])) else (bif Nat.ble i 7 then (14, .iconst 0, 0, 0, 0, []) else (bif Nat.ble i 8 then (15, .bipush 60, 0, 0, 60, []) else (17, .invokestatic 60, 150, 3, 0, []))))) else (bif Nat.ble i 14 then (bif Nat.ble i 11 then (bif Nat.ble i 10 then (20, .ifCond .eq 23, 21, 0, 0, []) else (23, .iload_n 2, 0, 0, 0, [])) else (bif Nat.ble i 12 then (24, .iconst 1, 0, 0, 1, []) else (bif Nat.ble i 13 then (25, .ldc_w 296, 0, 0, 999999, []) else (28, .invokestatic 60, 150, 3, 0, [])))) else (bif Nat.ble i 16 then (bif Nat.ble i 15 then (31, .ifCond .eq 12, 21, 0, 0, []) else (34, .iload_n 3, 0, 0, 0, [])) else (bif Nat.ble i 17 then (35, .iconst 0, 0, 0, 0, []) else (bif Nat.ble i 18 then (36, .iconst 1, 0, 0, 1, []) else (37, .invokestatic 60, 150, 3, 0, [])))))) else (bif Nat.ble i 29 then (bif Nat.ble i 24 then (bif Nat.ble i 21 then (bif Nat.ble i 20 then (40, .ifCond .ne 6, 23, 0, 0, []) else (43, .ldc 64, 0, 0, (-1000001), [])) else (bif Nat.ble i 22 then (45, .ireturn, 0, 0, 0, []) else (bif Nat.ble i 23 then (46, .aload_n 0, 0, 0, 0, []) else (47, .getfield 33, 3, 6, 0, [])))) else (bif Nat.ble i 26 then (bif Nat.ble i 25 then (50, .iload_n 1, 0, 0, 0, []) else (51, .iload_n 2, 0, 0, 0, [])) else (bif Nat.ble i 27 then (52, .invokevirtual 297, 104, 3, 0, []) else (bif Nat.ble i 28 then (55, .iload_n 3, 0, 0, 0, []) else (56, .ifCond .ne 16, 35, 0, 0, []))))) else (bif Nat.ble i 34 then (bif Nat.ble i 31 then (bif Nat.ble i 30 then (59, .aload_n 0, 0, 0, 0, []) else (60, .getfield 33, 3, 6, 0, [])) else (bif Nat.ble i 32 then (63, .getfield 212, 1, 5, 0, []) else (bif Nat.ble i 33 then (66, .invokevirtual 147, 37, 1, 0, []) else (69, .goto 13, 39, 0, 0, [])))) else (bif Nat.ble i 36 then (bif Nat.ble i 35 then (72, .aload_n 0, 0, 0, 0, []) else (73, .getfield 33, 3, 6, 0, [])) else (bif Nat.ble i 37 then (76, .getfield 212, 1, 5, 0, []) else (bif Nat.ble i 38 then (79, .getfield 300, 13, 2, 0, []) else (82, .ireturn, 0, 0, 0, [])))))))
/-- GridQuarrels.image(I)I -/
def cd140 : Nat → mmE := fun i => (bif Nat.ble i 10 then (bif Nat.ble i 4 then (bif Nat.ble i 1 then (bif Nat.ble i 0 then (0, .iload_n 1, 0, 0, 0, []) else (1, .iconst 0, 0, 0, 0, [])) else (bif Nat.ble i 2 then (2, .iconst 1, 0, 0, 1, []) else (bif Nat.ble i 3 then (3, .invokestatic 60, 150, 3, 0, []) else (6, .ifCond .ne 6, 7, 0, 0, [])))) else (bif Nat.ble i 7 then (bif Nat.ble i 5 then (9, .ldc 64, 0, 0, (-1000001), []) else (bif Nat.ble i 6 then (11, .ireturn, 0, 0, 0, []) else (12, .aload_n 0, 0, 0, 0, []))) else (bif Nat.ble i 8 then (13, .getfield 41, 4, 6, 0, []) else (bif Nat.ble i 9 then (16, .invokevirtual 135, 15, 1, 0, []) else (19, .ifCond .ne 6, 13, 0, 0, []))))) else (bif Nat.ble i 15 then (bif Nat.ble i 12 then (bif Nat.ble i 11 then (22, .ldc 131, 0, 0, (-1000002), []) else (24, .ireturn, 0, 0, 0, [])) else (bif Nat.ble i 13 then (25, .aload_n 0, 0, 0, 0, []) else (bif Nat.ble i 14 then (26, .getfield 51, 6, 6, 0, []) else (29, .iload_n 1, 0, 0, 0, [])))) else (bif Nat.ble i 18 then (bif Nat.ble i 16 then (30, .aaload, 0, 0, 0, []) else (bif Nat.ble i 17 then (31, .aload_n 0, 0, 0, 0, []) else (32, .getfield 41, 4, 6, 0, []))) else (bif Nat.ble i 19 then (35, .invokevirtual 114, 24, 2, 0, []) else (bif Nat.ble i 20 then (38, .iconst 1, 0, 0, 1, []) else (39, .ireturn, 0, 0, 0, []))))))
/-- GridQuarrels.restore(I)I -/
def cd141 : Nat → mmE := fun i => (bif Nat.ble i 12 then (bif Nat.ble i 5 then (bif Nat.ble i 2 then (bif Nat.ble i 0 then (0, .iload_n 1, 0, 0, 0, []) else (bif Nat.ble i 1 then (1, .iconst 0, 0, 0, 0, []) else (2, .iconst 1, 0, 0, 1, []))) else (bif Nat.ble i 3 then (3, .invokestatic 60, 150, 3, 0, []) else (bif Nat.ble i 4 then (6, .ifCond .ne 6, 7, 0, 0, []) else (9, .ldc 64, 0, 0, (-1000001), [])))) else (bif Nat.ble i 8 then (bif Nat.ble i 6 then (11, .ireturn, 0, 0, 0, []) else (bif Nat.ble i 7 then (12, .aload_n 0, 0, 0, 0, []) else (13, .getfield 51, 6, 6, 0, []))) else (bif Nat.ble i 10 then (bif Nat.ble i 9 then (16, .iload_n 1, 0, 0, 0, []) else (17, .aaload, 0, 0, 0, [])) else (bif Nat.ble i 11 then (18, .invokevirtual 135, 15, 1, 0, []) else (21, .ifCond .ne 6, 15, 0, 0, []))))) else (bif Nat.ble i 19 then (bif Nat.ble i 15 then (bif Nat.ble i 13 then (24, .ldc 131, 0, 0, (-1000002), []) else (bif Nat.ble i 14 then (26, .ireturn, 0, 0, 0, []) else (27, .aload_n 0, 0, 0, 0, []))) else (bif Nat.ble i 17 then (bif Nat.ble i 16 then (28, .getfield 41, 4, 6, 0, []) else (31, .aload_n 0, 0, 0, 0, [])) else (bif Nat.ble i 18 then (32, .getfield 51, 6, 6, 0, []) else (35, .iload_n 1, 0, 0, 0, [])))) else (bif Nat.ble i 22 then (bif Nat.ble i 20 then (36, .aaload, 0, 0, 0, []) else (bif Nat.ble i 21 then (37, .invokevirtual 114, 24, 2, 0, []) else (40, .aload_n 0, 0, 0, 0, []))) else (bif Nat.ble i 24 then (bif Nat.ble i 23 then (41, .getfield 26, 2, 6, 0, []) else (44, .invokevirtual 118, 4, 1, 0, [])) else (bif Nat.ble i 25 then (47, .iconst 1, 0, 0, 1, []) else (48, .ireturn, 0, 0, 0, []))))))
/-- GridQuarrels.kind(I)I -/
def cd142 : Nat → mmE := fun i => (bif Nat.ble i 5 then (bif Nat.ble i 2 then (bif Nat.ble i 0 then (0, .aload_n 0, 0, 0, 0, []) else (bif Nat.ble i 1 then (1, .getfield 41, 4, 6, 0, []) else (4, .iload_n 1, 0, 0, 0, []))) else (bif Nat.ble i 3 then (5, .invokevirtual 167, 18, 2, 0, []) else (bif Nat.ble i 4 then (8, .ifCond .eq 15, 11, 0, 0, []) else (11, .aload_n 0, 0, 0, 0, [])))) else (bif Nat.ble i 8 then (bif Nat.ble i 6 then (12, .getfield 41, 4, 6, 0, []) else (bif Nat.ble i 7 then (15, .getfield 303, 8, 2, 0, []) else (18, .iload_n 1, 0, 0, 0, []))) else (bif Nat.ble i 10 then (bif Nat.ble i 9 then (19, .iaload, 0, 0, 0, []) else (20, .goto 5, 12, 0, 0, [])) else (bif Nat.ble i 11 then (23, .ldc 64, 0, 0, (-1000001), []) else (25, .ireturn, 0, 0, 0, [])))))
/-- GridQuarrels.as(II)I -/
def cd143 : Nat → mmE := fun i => (bif Nat.ble i 13 then (bif Nat.ble i 6 then (bif Nat.ble i 2 then (bif Nat.ble i 0 then (0, .aload_n 0, 0, 0, 0, []) else (bif Nat.ble i 1 then (1, .getfield 41, 4, 6, 0, []) else (4, .iload_n 1, 0, 0, 0, []))) else (bif Nat.ble i 4 then (bif Nat.ble i 3 then (5, .invokevirtual 167, 18, 2, 0, []) else (8, .ifCond .eq 12, 10, 0, 0, [])) else (bif Nat.ble i 5 then (11, .iload_n 2, 0, 0, 0, []) else (12, .iconst 0, 0, 0, 0, [])))) else (bif Nat.ble i 9 then (bif Nat.ble i 7 then (13, .iconst 5, 0, 0, 5, []) else (bif Nat.ble i 8 then (14, .invokestatic 60, 150, 3, 0, []) else (17, .ifCond .ne 6, 12, 0, 0, []))) else (bif Nat.ble i 11 then (bif Nat.ble i 10 then (20, .ldc 64, 0, 0, (-1000001), []) else (22, .ireturn, 0, 0, 0, [])) else (bif Nat.ble i 12 then (23, .aload_n 0, 0, 0, 0, []) else (24, .getfield 41, 4, 6, 0, []))))) else (bif Nat.ble i 20 then (bif Nat.ble i 16 then (bif Nat.ble i 14 then (27, .getfield 303, 8, 2, 0, []) else (bif Nat.ble i 15 then (30, .iload_n 1, 0, 0, 0, []) else (31, .iaload, 0, 0, 0, []))) else (bif Nat.ble i 18 then (bif Nat.ble i 17 then (32, .iload_n 2, 0, 0, 0, []) else (33, .invokestatic 306, 153, 2, 0, [])) else (bif Nat.ble i 19 then (36, .ifCond .eq 11, 24, 0, 0, []) else (39, .aload_n 0, 0, 0, 0, [])))) else (bif Nat.ble i 23 then (bif Nat.ble i 21 then (40, .iload_n 1, 0, 0, 0, []) else (bif Nat.ble i 22 then (41, .invokevirtual 73, 149, 2, 0, []) else (44, .goto 8, 27, 0, 0, []))) else (bif Nat.ble i 25 then (bif Nat.ble i 24 then (47, .aload_n 0, 0, 0, 0, []) else (48, .iconst 3, 0, 0, 3, [])) else (bif Nat.ble i 26 then (49, .invokevirtual 65, 148, 2, 0, []) else (52, .ireturn, 0, 0, 0, []))))))
/-- GridQuarrels.ask(II)I -/
def cd144 : Nat → mmE := fun i => (bif Nat.ble i 9 then (bif Nat.ble i 4 then (bif Nat.ble i 1 then (bif Nat.ble i 0 then (0, .aload_n 0, 0, 0, 0, []) else (1, .getfield 41, 4, 6, 0, [])) else (bif Nat.ble i 2 then (4, .iload_n 1, 0, 0, 0, []) else (bif Nat.ble i 3 then (5, .invokevirtual 167, 18, 2, 0, []) else (8, .ifCond .eq 12, 10, 0, 0, [])))) else (bif Nat.ble i 6 then (bif Nat.ble i 5 then (11, .iload_n 2, 0, 0, 0, []) else (12, .iconst 0, 0, 0, 0, [])) else (bif Nat.ble i 7 then (13, .iconst 1, 0, 0, 1, []) else (bif Nat.ble i 8 then (14, .invokestatic 60, 150, 3, 0, []) else (17, .ifCond .ne 6, 12, 0, 0, []))))) else (bif Nat.ble i 14 then (bif Nat.ble i 11 then (bif Nat.ble i 10 then (20, .ldc 64, 0, 0, (-1000001), []) else (22, .ireturn, 0, 0, 0, [])) else (bif Nat.ble i 12 then (23, .aload_n 0, 0, 0, 0, []) else (bif Nat.ble i 13 then (24, .getfield 45, 5, 6, 0, []) else (27, .aload_n 0, 0, 0, 0, [])))) else (bif Nat.ble i 16 then (bif Nat.ble i 15 then (28, .getfield 41, 4, 6, 0, []) else (31, .iload_n 1, 0, 0, 0, [])) else (bif Nat.ble i 17 then (32, .iload_n 2, 0, 0, 0, []) else (bif Nat.ble i 18 then (33, .invokevirtual 309, 8, 4, 0, []) else (36, .ireturn, 0, 0, 0, []))))))
/-- GridQuarrels.trace(I)I -/
def cd145 : Nat → mmE := fun i => (bif Nat.ble i 1 then (bif Nat.ble i 0 then (0, .aload_n 0, 0, 0, 0, []) else (1, .getfield 45, 5, 6, 0, [])) else (bif Nat.ble i 2 then (4, .iload_n 1, 0, 0, 0, []) else (bif Nat.ble i 3 then (5, .invokevirtual 313, 9, 2, 0, []) else (8, .ireturn, 0, 0, 0, []))))
/-- GridQuarrels.count(I)I -/
def cd146 : Nat → mmE := fun i => (bif Nat.ble i 17 then (bif Nat.ble i 8 then (bif Nat.ble i 3 then (bif Nat.ble i 1 then (bif Nat.ble i 0 then (0, .iload_n 1, 0, 0, 0, []) else (1, .tableswitch 111 0 7 #[47, 55, 63, 71, 79, 87, 95, 103], 34, 0, 0, [(0, 2), (1, 6), (2, 10), (3, 14), (4, 18), (5, 22), (6, 26), (7, 30)])) else (bif Nat.ble i 2 then (48, .aload_n 0, 0, 0, 0, []) else (49, .getfield 10, 0, 6, 0, []))) else (bif Nat.ble i 5 then (bif Nat.ble i 4 then (52, .invokevirtual 316, 67, 1, 0, []) else (55, .ireturn, 0, 0, 0, [])) else (bif Nat.ble i 6 then (56, .aload_n 0, 0, 0, 0, []) else (bif Nat.ble i 7 then (57, .getfield 41, 4, 6, 0, []) else (60, .getfield 319, 0, 2, 0, []))))) else (bif Nat.ble i 12 then (bif Nat.ble i 10 then (bif Nat.ble i 9 then (63, .ireturn, 0, 0, 0, []) else (64, .aload_n 0, 0, 0, 0, [])) else (bif Nat.ble i 11 then (65, .getfield 41, 4, 6, 0, []) else (68, .getfield 322, 1, 2, 0, []))) else (bif Nat.ble i 14 then (bif Nat.ble i 13 then (71, .ireturn, 0, 0, 0, []) else (72, .aload_n 0, 0, 0, 0, [])) else (bif Nat.ble i 15 then (73, .getfield 41, 4, 6, 0, []) else (bif Nat.ble i 16 then (76, .getfield 121, 2, 2, 0, []) else (79, .ireturn, 0, 0, 0, [])))))) else (bif Nat.ble i 26 then (bif Nat.ble i 21 then (bif Nat.ble i 19 then (bif Nat.ble i 18 then (80, .aload_n 0, 0, 0, 0, []) else (81, .getfield 41, 4, 6, 0, [])) else (bif Nat.ble i 20 then (84, .getfield 138, 3, 2, 0, []) else (87, .ireturn, 0, 0, 0, []))) else (bif Nat.ble i 23 then (bif Nat.ble i 22 then (88, .aload_n 0, 0, 0, 0, []) else (89, .getfield 41, 4, 6, 0, [])) else (bif Nat.ble i 24 then (92, .invokevirtual 325, 36, 1, 0, []) else (bif Nat.ble i 25 then (95, .ireturn, 0, 0, 0, []) else (96, .aload_n 0, 0, 0, 0, []))))) else (bif Nat.ble i 30 then (bif Nat.ble i 28 then (bif Nat.ble i 27 then (97, .getfield 26, 2, 6, 0, []) else (100, .getfield 128, 0, 0, 0, [])) else (bif Nat.ble i 29 then (103, .ireturn, 0, 0, 0, []) else (104, .aload_n 0, 0, 0, 0, []))) else (bif Nat.ble i 32 then (bif Nat.ble i 31 then (105, .getfield 19, 1, 6, 0, []) else (108, .getfield 328, 1, 3, 0, [])) else (bif Nat.ble i 33 then (111, .ireturn, 0, 0, 0, []) else (bif Nat.ble i 34 then (112, .ldc 64, 0, 0, (-1000001), []) else (114, .ireturn, 0, 0, 0, [])))))))
/-- GridQuarrels.status()I -/
def cd147 : Nat → mmE := fun i => (bif Nat.ble i 0 then (0, .aload_n 0, 0, 0, 0, []) else (bif Nat.ble i 1 then (1, .getfield 331, 7, 6, 0, []) else (4, .ireturn, 0, 0, 0, [])))
/-- GridQuarrels.found(I)I -/
def cd148 : Nat → mmE := fun i => (bif Nat.ble i 2 then (bif Nat.ble i 0 then (0, .aload_n 0, 0, 0, 0, []) else (bif Nat.ble i 1 then (1, .iload_n 1, 0, 0, 0, []) else (2, .putfield 331, 7, 6, 0, []))) else (bif Nat.ble i 4 then (bif Nat.ble i 3 then (5, .ldc_w 334, 0, 0, (-1000010), []) else (8, .iload_n 1, 0, 0, 0, [])) else (bif Nat.ble i 5 then (9, .isub, 0, 0, 0, []) else (10, .ireturn, 0, 0, 0, []))))
/-- GridQuarrels.fine(I)I -/
def cd149 : Nat → mmE := fun i => (bif Nat.ble i 1 then (bif Nat.ble i 0 then (0, .aload_n 0, 0, 0, 0, []) else (1, .iconst 0, 0, 0, 0, [])) else (bif Nat.ble i 2 then (2, .putfield 331, 7, 6, 0, []) else (bif Nat.ble i 3 then (5, .iload_n 1, 0, 0, 0, []) else (6, .ireturn, 0, 0, 0, []))))
/-- GridQuarrels.within(III)Z -/
def cd150 : Nat → mmE := fun i => (bif Nat.ble i 4 then (bif Nat.ble i 1 then (bif Nat.ble i 0 then (0, .iload_n 0, 0, 0, 0, []) else (1, .iload_n 1, 0, 0, 0, [])) else (bif Nat.ble i 2 then (2, .if_icmp .lt 12, 8, 0, 0, []) else (bif Nat.ble i 3 then (5, .iload_n 0, 0, 0, 0, []) else (6, .iload_n 2, 0, 0, 0, [])))) else (bif Nat.ble i 6 then (bif Nat.ble i 5 then (7, .if_icmp .gt 7, 8, 0, 0, []) else (10, .iconst 1, 0, 0, 1, [])) else (bif Nat.ble i 7 then (11, .goto 4, 9, 0, 0, []) else (bif Nat.ble i 8 then (14, .iconst 0, 0, 0, 0, []) else (15, .ireturn, 0, 0, 0, [])))))
/-- GridQuarrels.has(II)Z -/
def cd151 : Nat → mmE := fun i => (bif Nat.ble i 4 then (bif Nat.ble i 1 then (bif Nat.ble i 0 then (0, .iload_n 0, 0, 0, 0, []) else (1, .iload_n 1, 0, 0, 0, [])) else (bif Nat.ble i 2 then (2, .ishr, 0, 0, 0, []) else (bif Nat.ble i 3 then (3, .iconst 1, 0, 0, 1, []) else (4, .iand, 0, 0, 0, [])))) else (bif Nat.ble i 7 then (bif Nat.ble i 5 then (5, .iconst 1, 0, 0, 1, []) else (bif Nat.ble i 6 then (6, .if_icmp .ne 7, 9, 0, 0, []) else (9, .iconst 1, 0, 0, 1, []))) else (bif Nat.ble i 8 then (10, .goto 4, 10, 0, 0, []) else (bif Nat.ble i 9 then (13, .iconst 0, 0, 0, 0, []) else (14, .ireturn, 0, 0, 0, [])))))
/-- GridQuarrels.countOrBits(II)I -/
def cd152 : Nat → mmE := fun i => (bif Nat.ble i 4 then (bif Nat.ble i 1 then (bif Nat.ble i 0 then (0, .iload_n 1, 0, 0, 0, []) else (1, .ifCond .ne 16, 8, 0, 0, [])) else (bif Nat.ble i 2 then (4, .iload_n 0, 0, 0, 0, []) else (bif Nat.ble i 3 then (5, .ldc 109, 0, 0, (-1000000), []) else (7, .if_icmp .eq 10, 8, 0, 0, [])))) else (bif Nat.ble i 6 then (bif Nat.ble i 5 then (10, .iload_n 0, 0, 0, 0, []) else (11, .invokestatic 335, 0, 1, 0, [])) else (bif Nat.ble i 7 then (14, .goto 4, 9, 0, 0, []) else (bif Nat.ble i 8 then (17, .iload_n 0, 0, 0, 0, []) else (18, .ireturn, 0, 0, 0, [])))))
/-- GridQuarrels.isOneOf(II)Z -/
def cd153 : Nat → mmE := fun i => (bif Nat.ble i 10 then (bif Nat.ble i 4 then (bif Nat.ble i 1 then (bif Nat.ble i 0 then (0, .iload_n 0, 0, 0, 0, []) else (1, .istore_n 2, 0, 0, 0, [])) else (bif Nat.ble i 2 then (2, .iconst 0, 0, 0, 0, []) else (bif Nat.ble i 3 then (3, .istore_n 3, 0, 0, 0, []) else (4, .iload_n 3, 0, 0, 0, [])))) else (bif Nat.ble i 7 then (bif Nat.ble i 5 then (5, .iconst 5, 0, 0, 5, []) else (bif Nat.ble i 6 then (6, .if_icmp .ge 20, 16, 0, 0, []) else (9, .iload_n 2, 0, 0, 0, []))) else (bif Nat.ble i 8 then (10, .iload_n 1, 0, 0, 0, []) else (bif Nat.ble i 9 then (11, .if_icmp .eq 15, 16, 0, 0, []) else (14, .getstatic 340, 1, 0, 0, []))))) else (bif Nat.ble i 16 then (bif Nat.ble i 13 then (bif Nat.ble i 11 then (17, .iload_n 2, 0, 0, 0, []) else (bif Nat.ble i 12 then (18, .iaload, 0, 0, 0, []) else (19, .istore_n 2, 0, 0, 0, []))) else (bif Nat.ble i 14 then (20, .iinc 3 1, 0, 0, 1, []) else (bif Nat.ble i 15 then (23, .goto (-19), 4, 0, 0, []) else (26, .iload_n 2, 0, 0, 0, [])))) else (bif Nat.ble i 19 then (bif Nat.ble i 17 then (27, .iload_n 1, 0, 0, 0, []) else (bif Nat.ble i 18 then (28, .if_icmp .ne 7, 21, 0, 0, []) else (31, .iconst 1, 0, 0, 1, []))) else (bif Nat.ble i 20 then (32, .goto 4, 22, 0, 0, []) else (bif Nat.ble i 21 then (35, .iconst 0, 0, 0, 0, []) else (36, .ireturn, 0, 0, 0, []))))))
/-- GridQuarrels.commonDivisor(JJ)J -/
def cd154 : Nat → mmE := fun i => (bif Nat.ble i 11 then (bif Nat.ble i 5 then (bif Nat.ble i 2 then (bif Nat.ble i 0 then (0, .lload_n 0, 0, 0, 0, []) else (bif Nat.ble i 1 then (1, .lstore 4, 0, 0, 0, []) else (3, .lload_n 2, 0, 0, 0, []))) else (bif Nat.ble i 3 then (4, .lstore 6, 0, 0, 0, []) else (bif Nat.ble i 4 then (6, .iconst 0, 0, 0, 0, []) else (7, .istore 8, 0, 0, 0, [])))) else (bif Nat.ble i 8 then (bif Nat.ble i 6 then (9, .iload 8, 0, 0, 0, []) else (bif Nat.ble i 7 then (11, .sipush 200, 0, 0, 200, []) else (14, .if_icmp .ge 31, 23, 0, 0, []))) else (bif Nat.ble i 9 then (17, .lload 6, 0, 0, 0, []) else (bif Nat.ble i 10 then (19, .lconst 0, 0, 0, 0, []) else (20, .lcmp, 0, 0, 0, []))))) else (bif Nat.ble i 17 then (bif Nat.ble i 14 then (bif Nat.ble i 12 then (21, .ifCond .eq 24, 23, 0, 0, []) else (bif Nat.ble i 13 then (24, .lload 4, 0, 0, 0, []) else (26, .lload 6, 0, 0, 0, []))) else (bif Nat.ble i 15 then (28, .lrem, 0, 0, 0, []) else (bif Nat.ble i 16 then (29, .lstore 9, 0, 0, 0, []) else (31, .lload 6, 0, 0, 0, [])))) else (bif Nat.ble i 20 then (bif Nat.ble i 18 then (33, .lstore 4, 0, 0, 0, []) else (bif Nat.ble i 19 then (35, .lload 9, 0, 0, 0, []) else (37, .lstore 6, 0, 0, 0, []))) else (bif Nat.ble i 22 then (bif Nat.ble i 21 then (39, .iinc 8 1, 0, 0, 1, []) else (42, .goto (-33), 6, 0, 0, [])) else (bif Nat.ble i 23 then (45, .lload 4, 0, 0, 0, []) else (47, .lreturn, 0, 0, 0, []))))))
/-- GridQuarrelsModel.<init>()V -/
def cd155 : Nat → mmE := fun i => (bif Nat.ble i 40 then (bif Nat.ble i 19 then (bif Nat.ble i 9 then (bif Nat.ble i 4 then (bif Nat.ble i 1 then (bif Nat.ble i 0 then (0, .aload_n 0, 0, 0, 0, []) else (1, .invokespecial 1, 0, 0, 0, [])) else (bif Nat.ble i 2 then (4, .aload_n 0, 0, 0, 0, []) else (bif Nat.ble i 3 then (5, .bipush 8, 0, 0, 8, []) else (7, .newarray .int, 0, 0, 0, [])))) else (bif Nat.ble i 6 then (bif Nat.ble i 5 then (9, .dup, 0, 0, 0, []) else (10, .iconst 0, 0, 0, 0, [])) else (bif Nat.ble i 7 then (11, .iconst (-1), 0, 0, (-1), []) else (bif Nat.ble i 8 then (12, .iastore, 0, 0, 0, []) else (13, .dup, 0, 0, 0, []))))) else (bif Nat.ble i 14 then (bif Nat.ble i 11 then (bif Nat.ble i 10 then (14, .iconst 1, 0, 0, 1, []) else (15, .iconst (-1), 0, 0, (-1), [])) else (bif Nat.ble i 12 then (16, .iastore, 0, 0, 0, []) else (bif Nat.ble i 13 then (17, .dup, 0, 0, 0, []) else (18, .iconst 2, 0, 0, 2, [])))) else (bif Nat.ble i 16 then (bif Nat.ble i 15 then (19, .iconst (-1), 0, 0, (-1), []) else (20, .iastore, 0, 0, 0, [])) else (bif Nat.ble i 17 then (21, .dup, 0, 0, 0, []) else (bif Nat.ble i 18 then (22, .iconst 3, 0, 0, 3, []) else (23, .iconst (-1), 0, 0, (-1), [])))))) else (bif Nat.ble i 29 then (bif Nat.ble i 24 then (bif Nat.ble i 21 then (bif Nat.ble i 20 then (24, .iastore, 0, 0, 0, []) else (25, .dup, 0, 0, 0, [])) else (bif Nat.ble i 22 then (26, .iconst 4, 0, 0, 4, []) else (bif Nat.ble i 23 then (27, .iconst (-1), 0, 0, (-1), []) else (28, .iastore, 0, 0, 0, [])))) else (bif Nat.ble i 26 then (bif Nat.ble i 25 then (29, .dup, 0, 0, 0, []) else (30, .iconst 5, 0, 0, 5, [])) else (bif Nat.ble i 27 then (31, .iconst (-1), 0, 0, (-1), []) else (bif Nat.ble i 28 then (32, .iastore, 0, 0, 0, []) else (33, .dup, 0, 0, 0, []))))) else (bif Nat.ble i 34 then (bif Nat.ble i 31 then (bif Nat.ble i 30 then (34, .bipush 6, 0, 0, 6, []) else (36, .iconst (-1), 0, 0, (-1), [])) else (bif Nat.ble i 32 then (37, .iastore, 0, 0, 0, []) else (bif Nat.ble i 33 then (38, .dup, 0, 0, 0, []) else (39, .bipush 7, 0, 0, 7, [])))) else (bif Nat.ble i 37 then (bif Nat.ble i 35 then (41, .iconst (-1), 0, 0, (-1), []) else (bif Nat.ble i 36 then (42, .iastore, 0, 0, 0, []) else (43, .putfield 7, 2, 7, 0, []))) else (bif Nat.ble i 38 then (46, .aload_n 0, 0, 0, 0, []) else (bif Nat.ble i 39 then (47, .bipush 8, 0, 0, 8, []) else (49, .newarray .int, 0, 0, 0, []))))))) else (bif Nat.ble i 61 then (bif Nat.ble i 50 then (bif Nat.ble i 45 then (bif Nat.ble i 42 then (bif Nat.ble i 41 then (51, .putfield 13, 3, 7, 0, []) else (54, .aload_n 0, 0, 0, 0, [])) else (bif Nat.ble i 43 then (55, .sipush 320, 0, 0, 320, []) else (bif Nat.ble i 44 then (58, .newarray .int, 0, 0, 0, []) else (60, .putfield 16, 4, 7, 0, [])))) else (bif Nat.ble i 47 then (bif Nat.ble i 46 then (63, .aload_n 0, 0, 0, 0, []) else (64, .bipush 52, 0, 0, 52, [])) else (bif Nat.ble i 48 then (66, .newarray .int, 0, 0, 0, []) else (bif Nat.ble i 49 then (68, .putfield 19, 5, 7, 0, []) else (71, .aload_n 0, 0, 0, 0, []))))) else (bif Nat.ble i 55 then (bif Nat.ble i 52 then (bif Nat.ble i 51 then (72, .bipush 52, 0, 0, 52, []) else (74, .newarray .int, 0, 0, 0, [])) else (bif Nat.ble i 53 then (76, .putfield 22, 6, 7, 0, []) else (bif Nat.ble i 54 then (79, .aload_n 0, 0, 0, 0, []) else (80, .bipush 52, 0, 0, 52, [])))) else (bif Nat.ble i 58 then (bif Nat.ble i 56 then (82, .newarray .int, 0, 0, 0, []) else (bif Nat.ble i 57 then (84, .putfield 25, 7, 7, 0, []) else (87, .aload_n 0, 0, 0, 0, []))) else (bif Nat.ble i 59 then (88, .sipush 1248, 0, 0, 1248, []) else (bif Nat.ble i 60 then (91, .newarray .int, 0, 0, 0, []) else (93, .putfield 28, 8, 7, 0, [])))))) else (bif Nat.ble i 71 then (bif Nat.ble i 66 then (bif Nat.ble i 63 then (bif Nat.ble i 62 then (96, .aload_n 0, 0, 0, 0, []) else (97, .bipush 120, 0, 0, 120, [])) else (bif Nat.ble i 64 then (99, .newarray .int, 0, 0, 0, []) else (bif Nat.ble i 65 then (101, .putfield 31, 10, 7, 0, []) else (104, .aload_n 0, 0, 0, 0, [])))) else (bif Nat.ble i 68 then (bif Nat.ble i 67 then (105, .iconst 5, 0, 0, 5, []) else (106, .newarray .int, 0, 0, 0, [])) else (bif Nat.ble i 69 then (108, .putfield 34, 22, 7, 0, []) else (bif Nat.ble i 70 then (111, .aload_n 0, 0, 0, 0, []) else (112, .iconst 2, 0, 0, 2, []))))) else (bif Nat.ble i 76 then (bif Nat.ble i 73 then (bif Nat.ble i 72 then (113, .newarray .boolean, 1, 0, 0, []) else (115, .putfield 37, 23, 7, 0, [])) else (bif Nat.ble i 74 then (118, .aload_n 0, 0, 0, 0, []) else (bif Nat.ble i 75 then (119, .bipush 104, 0, 0, 104, []) else (121, .newarray .int, 0, 0, 0, [])))) else (bif Nat.ble i 79 then (bif Nat.ble i 77 then (123, .putfield 41, 24, 7, 0, []) else (bif Nat.ble i 78 then (126, .aload_n 0, 0, 0, 0, []) else (127, .bipush 16, 0, 0, 16, []))) else (bif Nat.ble i 80 then (129, .newarray .int, 0, 0, 0, []) else (bif Nat.ble i 81 then (131, .putfield 44, 25, 7, 0, []) else (134, .return_, 0, 0, 0, []))))))))
/-- GridQuarrelsModel.in(JJJ)Z -/
def cd156 : Nat → mmE := fun i => (bif Nat.ble i 5 then (bif Nat.ble i 2 then (bif Nat.ble i 0 then (0, .lload_n 0, 0, 0, 0, []) else (bif Nat.ble i 1 then (1, .lload_n 2, 0, 0, 0, []) else (2, .lcmp, 0, 0, 0, []))) else (bif Nat.ble i 3 then (3, .ifCond .lt 14, 10, 0, 0, []) else (bif Nat.ble i 4 then (6, .lload_n 0, 0, 0, 0, []) else (7, .lload 4, 0, 0, 0, [])))) else (bif Nat.ble i 8 then (bif Nat.ble i 6 then (9, .lcmp, 0, 0, 0, []) else (bif Nat.ble i 7 then (10, .ifCond .gt 7, 10, 0, 0, []) else (13, .iconst 1, 0, 0, 1, []))) else (bif Nat.ble i 9 then (14, .goto 4, 11, 0, 0, []) else (bif Nat.ble i 10 then (17, .iconst 0, 0, 0, 0, []) else (18, .ireturn, 0, 0, 0, [])))))
/-- GridQuarrelsModel.finding(I)I -/
def cd157 : Nat → mmE := fun i => (bif Nat.ble i 2 then (bif Nat.ble i 0 then (0, .aload_n 0, 0, 0, 0, []) else (bif Nat.ble i 1 then (1, .iload_n 1, 0, 0, 0, []) else (2, .putfield 51, 1, 7, 0, []))) else (bif Nat.ble i 4 then (bif Nat.ble i 3 then (5, .ldc 54, 0, 0, (-1000010), []) else (7, .iload_n 1, 0, 0, 0, [])) else (bif Nat.ble i 5 then (8, .isub, 0, 0, 0, []) else (9, .ireturn, 0, 0, 0, []))))
/-- GridQuarrelsModel.isRow(I)Z -/
def cd158 : Nat → mmE := fun i => (bif Nat.ble i 2 then (bif Nat.ble i 0 then (0, .iload_n 0, 0, 0, 0, []) else (bif Nat.ble i 1 then (1, .i2l, 0, 0, 0, []) else (2, .lconst 0, 0, 0, 0, []))) else (bif Nat.ble i 3 then (3, .ldc2_w 55, 0, 0, 7, []) else (bif Nat.ble i 4 then (6, .invokestatic 57, 156, 3, 0, []) else (9, .ireturn, 0, 0, 0, []))))
/-- GridQuarrelsModel.row(III)I -/
def cd159 : Nat → mmE := fun i => (bif Nat.ble i 26 then (bif Nat.ble i 12 then (bif Nat.ble i 5 then (bif Nat.ble i 2 then (bif Nat.ble i 0 then (0, .aload_n 0, 0, 0, 0, []) else (bif Nat.ble i 1 then (1, .iconst 0, 0, 0, 0, []) else (2, .putfield 47, 0, 7, 0, []))) else (bif Nat.ble i 3 then (5, .iload_n 1, 0, 0, 0, []) else (bif Nat.ble i 4 then (6, .invokestatic 61, 158, 1, 0, []) else (9, .ifCond .eq 21, 15, 0, 0, [])))) else (bif Nat.ble i 8 then (bif Nat.ble i 6 then (12, .iload_n 2, 0, 0, 0, []) else (bif Nat.ble i 7 then (13, .i2l, 0, 0, 0, []) else (14, .lconst 0, 0, 0, 0, []))) else (bif Nat.ble i 10 then (bif Nat.ble i 9 then (15, .ldc2_w 65, 0, 0, 2, []) else (18, .invokestatic 57, 156, 3, 0, [])) else (bif Nat.ble i 11 then (21, .ifCond .eq 9, 15, 0, 0, []) else (24, .iload_n 3, 0, 0, 0, []))))) else (bif Nat.ble i 19 then (bif Nat.ble i 15 then (bif Nat.ble i 13 then (25, .bipush 40, 0, 0, 40, []) else (bif Nat.ble i 14 then (27, .if_icmp .le 6, 17, 0, 0, []) else (30, .ldc 67, 0, 0, (-1000001), []))) else (bif Nat.ble i 17 then (bif Nat.ble i 16 then (32, .ireturn, 0, 0, 0, []) else (33, .aload_n 0, 0, 0, 0, [])) else (bif Nat.ble i 18 then (34, .iconst 0, 0, 0, 0, []) else (35, .putfield 51, 1, 7, 0, [])))) else (bif Nat.ble i 22 then (bif Nat.ble i 20 then (38, .iload_n 3, 0, 0, 0, []) else (bif Nat.ble i 21 then (39, .ifCond .ge 9, 26, 0, 0, []) else (42, .aload_n 0, 0, 0, 0, []))) else (bif Nat.ble i 24 then (bif Nat.ble i 23 then (43, .iconst 4, 0, 0, 4, []) else (44, .invokevirtual 68, 157, 2, 0, [])) else (bif Nat.ble i 25 then (47, .ireturn, 0, 0, 0, []) else (48, .aload_n 0, 0, 0, 0, [])))))) else (bif Nat.ble i 39 then (bif Nat.ble i 32 then (bif Nat.ble i 29 then (bif Nat.ble i 27 then (49, .getfield 7, 2, 7, 0, []) else (bif Nat.ble i 28 then (52, .iload_n 1, 0, 0, 0, []) else (53, .iload_n 2, 0, 0, 0, []))) else (bif Nat.ble i 30 then (54, .iastore, 0, 0, 0, []) else (bif Nat.ble i 31 then (55, .aload_n 0, 0, 0, 0, []) else (56, .getfield 13, 3, 7, 0, [])))) else (bif Nat.ble i 35 then (bif Nat.ble i 33 then (59, .iload_n 1, 0, 0, 0, []) else (bif Nat.ble i 34 then (60, .iload_n 3, 0, 0, 0, []) else (61, .iastore, 0, 0, 0, []))) else (bif Nat.ble i 37 then (bif Nat.ble i 36 then (62, .iconst 0, 0, 0, 0, []) else (63, .istore 4, 0, 0, 0, [])) else (bif Nat.ble i 38 then (65, .iload 4, 0, 0, 0, []) else (67, .bipush 40, 0, 0, 40, []))))) else (bif Nat.ble i 46 then (bif Nat.ble i 42 then (bif Nat.ble i 40 then (69, .if_icmp .ge 22, 52, 0, 0, []) else (bif Nat.ble i 41 then (72, .aload_n 0, 0, 0, 0, []) else (73, .getfield 16, 4, 7, 0, []))) else (bif Nat.ble i 44 then (bif Nat.ble i 43 then (76, .bipush 40, 0, 0, 40, []) else (78, .iload_n 1, 0, 0, 0, [])) else (bif Nat.ble i 45 then (79, .imul, 0, 0, 0, []) else (80, .iload 4, 0, 0, 0, [])))) else (bif Nat.ble i 49 then (bif Nat.ble i 47 then (82, .iadd, 0, 0, 0, []) else (bif Nat.ble i 48 then (83, .iconst 0, 0, 0, 0, []) else (84, .iastore, 0, 0, 0, []))) else (bif Nat.ble i 51 then (bif Nat.ble i 50 then (85, .iinc 4 1, 0, 0, 1, []) else (88, .goto (-23), 38, 0, 0, [])) else (bif Nat.ble i 52 then (91, .iload_n 3, 0, 0, 0, []) else (92, .ireturn, 0, 0, 0, [])))))))
/-- GridQuarrelsModel.set(III)I -/
def cd160 : Nat → mmE := fun i => (bif Nat.ble i 34 then (bif Nat.ble i 16 then (bif Nat.ble i 7 then (bif Nat.ble i 3 then (bif Nat.ble i 1 then (bif Nat.ble i 0 then (0, .aload_n 0, 0, 0, 0, []) else (1, .iconst 0, 0, 0, 0, [])) else (bif Nat.ble i 2 then (2, .putfield 47, 0, 7, 0, []) else (5, .iload_n 1, 0, 0, 0, []))) else (bif Nat.ble i 5 then (bif Nat.ble i 4 then (6, .invokestatic 61, 158, 1, 0, []) else (9, .ifCond .ne 6, 8, 0, 0, [])) else (bif Nat.ble i 6 then (12, .ldc 67, 0, 0, (-1000001), []) else (14, .ireturn, 0, 0, 0, [])))) else (bif Nat.ble i 11 then (bif Nat.ble i 9 then (bif Nat.ble i 8 then (15, .aload_n 0, 0, 0, 0, []) else (16, .iconst 0, 0, 0, 0, [])) else (bif Nat.ble i 10 then (17, .putfield 51, 1, 7, 0, []) else (20, .aload_n 0, 0, 0, 0, []))) else (bif Nat.ble i 13 then (bif Nat.ble i 12 then (21, .getfield 7, 2, 7, 0, []) else (24, .iload_n 1, 0, 0, 0, [])) else (bif Nat.ble i 14 then (25, .iaload, 0, 0, 0, []) else (bif Nat.ble i 15 then (26, .ifCond .ge 9, 20, 0, 0, []) else (29, .aload_n 0, 0, 0, 0, [])))))) else (bif Nat.ble i 25 then (bif Nat.ble i 20 then (bif Nat.ble i 18 then (bif Nat.ble i 17 then (30, .iconst 1, 0, 0, 1, []) else (31, .invokevirtual 68, 157, 2, 0, [])) else (bif Nat.ble i 19 then (34, .ireturn, 0, 0, 0, []) else (35, .iload_n 2, 0, 0, 0, []))) else (bif Nat.ble i 22 then (bif Nat.ble i 21 then (36, .i2l, 0, 0, 0, []) else (37, .lconst 0, 0, 0, 0, [])) else (bif Nat.ble i 23 then (38, .aload_n 0, 0, 0, 0, []) else (bif Nat.ble i 24 then (39, .getfield 13, 3, 7, 0, []) else (42, .iload_n 1, 0, 0, 0, []))))) else (bif Nat.ble i 29 then (bif Nat.ble i 27 then (bif Nat.ble i 26 then (43, .iaload, 0, 0, 0, []) else (44, .iconst 1, 0, 0, 1, [])) else (bif Nat.ble i 28 then (45, .isub, 0, 0, 0, []) else (46, .i2l, 0, 0, 0, []))) else (bif Nat.ble i 31 then (bif Nat.ble i 30 then (47, .invokestatic 57, 156, 3, 0, []) else (50, .ifCond .ne 9, 36, 0, 0, [])) else (bif Nat.ble i 32 then (53, .aload_n 0, 0, 0, 0, []) else (bif Nat.ble i 33 then (54, .iconst 2, 0, 0, 2, []) else (55, .invokevirtual 68, 157, 2, 0, []))))))) else (bif Nat.ble i 52 then (bif Nat.ble i 43 then (bif Nat.ble i 38 then (bif Nat.ble i 36 then (bif Nat.ble i 35 then (58, .ireturn, 0, 0, 0, []) else (59, .aload_n 0, 0, 0, 0, [])) else (bif Nat.ble i 37 then (60, .getfield 16, 4, 7, 0, []) else (63, .bipush 40, 0, 0, 40, []))) else (bif Nat.ble i 40 then (bif Nat.ble i 39 then (65, .iload_n 1, 0, 0, 0, []) else (66, .imul, 0, 0, 0, [])) else (bif Nat.ble i 41 then (67, .iload_n 2, 0, 0, 0, []) else (bif Nat.ble i 42 then (68, .iadd, 0, 0, 0, []) else (69, .aload_n 0, 0, 0, 0, []))))) else (bif Nat.ble i 47 then (bif Nat.ble i 45 then (bif Nat.ble i 44 then (70, .getfield 7, 2, 7, 0, []) else (73, .iload_n 1, 0, 0, 0, [])) else (bif Nat.ble i 46 then (74, .iaload, 0, 0, 0, []) else (75, .ifCond .ne 8, 51, 0, 0, []))) else (bif Nat.ble i 49 then (bif Nat.ble i 48 then (78, .iload_n 3, 0, 0, 0, []) else (79, .i2b, 0, 0, 0, [])) else (bif Nat.ble i 50 then (80, .goto 19, 61, 0, 0, []) else (bif Nat.ble i 51 then (83, .aload_n 0, 0, 0, 0, []) else (84, .getfield 7, 2, 7, 0, [])))))) else (bif Nat.ble i 61 then (bif Nat.ble i 56 then (bif Nat.ble i 54 then (bif Nat.ble i 53 then (87, .iload_n 1, 0, 0, 0, []) else (88, .iaload, 0, 0, 0, [])) else (bif Nat.ble i 55 then (89, .iconst 1, 0, 0, 1, []) else (90, .if_icmp .ne 8, 60, 0, 0, []))) else (bif Nat.ble i 58 then (bif Nat.ble i 57 then (93, .iload_n 3, 0, 0, 0, []) else (94, .i2s, 0, 0, 0, [])) else (bif Nat.ble i 59 then (95, .goto 4, 61, 0, 0, []) else (bif Nat.ble i 60 then (98, .iload_n 3, 0, 0, 0, []) else (99, .iastore, 0, 0, 0, []))))) else (bif Nat.ble i 65 then (bif Nat.ble i 63 then (bif Nat.ble i 62 then (100, .aload_n 0, 0, 0, 0, []) else (101, .getfield 16, 4, 7, 0, [])) else (bif Nat.ble i 64 then (104, .bipush 40, 0, 0, 40, []) else (106, .iload_n 1, 0, 0, 0, []))) else (bif Nat.ble i 67 then (bif Nat.ble i 66 then (107, .imul, 0, 0, 0, []) else (108, .iload_n 2, 0, 0, 0, [])) else (bif Nat.ble i 68 then (109, .iadd, 0, 0, 0, []) else (bif Nat.ble i 69 then (110, .iaload, 0, 0, 0, []) else (111, .ireturn, 0, 0, 0, []))))))))
/-- GridQuarrelsModel.copy(IIIII)I -/
def cd161 : Nat → mmE := fun i => (bif Nat.ble i 59 then (bif Nat.ble i 29 then (bif Nat.ble i 14 then (bif Nat.ble i 6 then (bif Nat.ble i 2 then (bif Nat.ble i 0 then (0, .aload_n 0, 0, 0, 0, []) else (bif Nat.ble i 1 then (1, .iconst 0, 0, 0, 0, []) else (2, .putfield 47, 0, 7, 0, []))) else (bif Nat.ble i 4 then (bif Nat.ble i 3 then (5, .iload_n 1, 0, 0, 0, []) else (6, .invokestatic 61, 158, 1, 0, [])) else (bif Nat.ble i 5 then (9, .ifCond .eq 10, 9, 0, 0, []) else (12, .iload_n 3, 0, 0, 0, [])))) else (bif Nat.ble i 10 then (bif Nat.ble i 8 then (bif Nat.ble i 7 then (13, .invokestatic 61, 158, 1, 0, []) else (16, .ifCond .ne 6, 11, 0, 0, [])) else (bif Nat.ble i 9 then (19, .ldc 67, 0, 0, (-1000001), []) else (21, .ireturn, 0, 0, 0, []))) else (bif Nat.ble i 12 then (bif Nat.ble i 11 then (22, .aload_n 0, 0, 0, 0, []) else (23, .iconst 0, 0, 0, 0, [])) else (bif Nat.ble i 13 then (24, .putfield 51, 1, 7, 0, []) else (27, .aload_n 0, 0, 0, 0, []))))) else (bif Nat.ble i 21 then (bif Nat.ble i 17 then (bif Nat.ble i 15 then (28, .getfield 7, 2, 7, 0, []) else (bif Nat.ble i 16 then (31, .iload_n 1, 0, 0, 0, []) else (32, .iaload, 0, 0, 0, []))) else (bif Nat.ble i 19 then (bif Nat.ble i 18 then (33, .ifCond .lt 12, 24, 0, 0, []) else (36, .aload_n 0, 0, 0, 0, [])) else (bif Nat.ble i 20 then (37, .getfield 7, 2, 7, 0, []) else (40, .iload_n 3, 0, 0, 0, [])))) else (bif Nat.ble i 25 then (bif Nat.ble i 23 then (bif Nat.ble i 22 then (41, .iaload, 0, 0, 0, []) else (42, .ifCond .ge 9, 28, 0, 0, [])) else (bif Nat.ble i 24 then (45, .aload_n 0, 0, 0, 0, []) else (46, .iconst 1, 0, 0, 1, []))) else (bif Nat.ble i 27 then (bif Nat.ble i 26 then (47, .invokevirtual 68, 157, 2, 0, []) else (50, .ireturn, 0, 0, 0, [])) else (bif Nat.ble i 28 then (51, .aload_n 0, 0, 0, 0, []) else (52, .getfield 7, 2, 7, 0, [])))))) else (bif Nat.ble i 44 then (bif Nat.ble i 36 then (bif Nat.ble i 32 then (bif Nat.ble i 30 then (55, .iload_n 1, 0, 0, 0, []) else (bif Nat.ble i 31 then (56, .iaload, 0, 0, 0, []) else (57, .aload_n 0, 0, 0, 0, []))) else (bif Nat.ble i 34 then (bif Nat.ble i 33 then (58, .getfield 7, 2, 7, 0, []) else (61, .iload_n 3, 0, 0, 0, [])) else (bif Nat.ble i 35 then (62, .iaload, 0, 0, 0, []) else (63, .if_icmp .eq 9, 41, 0, 0, [])))) else (bif Nat.ble i 40 then (bif Nat.ble i 38 then (bif Nat.ble i 37 then (66, .aload_n 0, 0, 0, 0, []) else (67, .iconst 5, 0, 0, 5, [])) else (bif Nat.ble i 39 then (68, .invokevirtual 68, 157, 2, 0, []) else (71, .ireturn, 0, 0, 0, []))) else (bif Nat.ble i 42 then (bif Nat.ble i 41 then (72, .iload_n 2, 0, 0, 0, []) else (73, .ifCond .lt 48, 71, 0, 0, [])) else (bif Nat.ble i 43 then (76, .iload 4, 0, 0, 0, []) else (78, .ifCond .lt 43, 71, 0, 0, []))))) else (bif Nat.ble i 51 then (bif Nat.ble i 47 then (bif Nat.ble i 45 then (81, .iload 5, 0, 0, 0, []) else (bif Nat.ble i 46 then (83, .ifCond .lt 38, 71, 0, 0, []) else (86, .iload_n 2, 0, 0, 0, []))) else (bif Nat.ble i 49 then (bif Nat.ble i 48 then (87, .i2l, 0, 0, 0, []) else (88, .iload 5, 0, 0, 0, [])) else (bif Nat.ble i 50 then (90, .i2l, 0, 0, 0, []) else (91, .ladd, 0, 0, 0, [])))) else (bif Nat.ble i 55 then (bif Nat.ble i 53 then (bif Nat.ble i 52 then (92, .aload_n 0, 0, 0, 0, []) else (93, .getfield 13, 3, 7, 0, [])) else (bif Nat.ble i 54 then (96, .iload_n 1, 0, 0, 0, []) else (97, .iaload, 0, 0, 0, []))) else (bif Nat.ble i 57 then (bif Nat.ble i 56 then (98, .i2l, 0, 0, 0, []) else (99, .lcmp, 0, 0, 0, [])) else (bif Nat.ble i 58 then (100, .ifCond .gt 21, 71, 0, 0, []) else (103, .iload 4, 0, 0, 0, []))))))) else (bif Nat.ble i 89 then (bif Nat.ble i 74 then (bif Nat.ble i 66 then (bif Nat.ble i 62 then (bif Nat.ble i 60 then (105, .i2l, 0, 0, 0, []) else (bif Nat.ble i 61 then (106, .iload 5, 0, 0, 0, []) else (108, .i2l, 0, 0, 0, []))) else (bif Nat.ble i 64 then (bif Nat.ble i 63 then (109, .ladd, 0, 0, 0, []) else (110, .aload_n 0, 0, 0, 0, [])) else (bif Nat.ble i 65 then (111, .getfield 13, 3, 7, 0, []) else (114, .iload_n 3, 0, 0, 0, [])))) else (bif Nat.ble i 70 then (bif Nat.ble i 68 then (bif Nat.ble i 67 then (115, .iaload, 0, 0, 0, []) else (116, .i2l, 0, 0, 0, [])) else (bif Nat.ble i 69 then (117, .lcmp, 0, 0, 0, []) else (118, .ifCond .le 9, 75, 0, 0, []))) else (bif Nat.ble i 72 then (bif Nat.ble i 71 then (121, .aload_n 0, 0, 0, 0, []) else (122, .iconst 2, 0, 0, 2, [])) else (bif Nat.ble i 73 then (123, .invokevirtual 68, 157, 2, 0, []) else (126, .ireturn, 0, 0, 0, []))))) else (bif Nat.ble i 81 then (bif Nat.ble i 77 then (bif Nat.ble i 75 then (127, .iload_n 2, 0, 0, 0, []) else (bif Nat.ble i 76 then (128, .iload 4, 0, 0, 0, []) else (130, .if_icmp .lt 7, 80, 0, 0, []))) else (bif Nat.ble i 79 then (bif Nat.ble i 78 then (133, .iconst 1, 0, 0, 1, []) else (134, .goto 4, 81, 0, 0, [])) else (bif Nat.ble i 80 then (137, .iconst 0, 0, 0, 0, []) else (138, .istore 6, 0, 0, 0, [])))) else (bif Nat.ble i 85 then (bif Nat.ble i 83 then (bif Nat.ble i 82 then (140, .iconst 0, 0, 0, 0, []) else (141, .istore 7, 0, 0, 0, [])) else (bif Nat.ble i 84 then (143, .iload 7, 0, 0, 0, []) else (145, .iload 5, 0, 0, 0, []))) else (bif Nat.ble i 87 then (bif Nat.ble i 86 then (147, .if_icmp .ge 57, 119, 0, 0, []) else (150, .iload 6, 0, 0, 0, [])) else (bif Nat.ble i 88 then (152, .ifCond .eq 8, 91, 0, 0, []) else (155, .iload 7, 0, 0, 0, [])))))) else (bif Nat.ble i 104 then (bif Nat.ble i 96 then (bif Nat.ble i 92 then (bif Nat.ble i 90 then (157, .goto 10, 96, 0, 0, []) else (bif Nat.ble i 91 then (160, .iload 5, 0, 0, 0, []) else (162, .iconst 1, 0, 0, 1, []))) else (bif Nat.ble i 94 then (bif Nat.ble i 93 then (163, .isub, 0, 0, 0, []) else (164, .iload 7, 0, 0, 0, [])) else (bif Nat.ble i 95 then (166, .isub, 0, 0, 0, []) else (167, .istore 8, 0, 0, 0, [])))) else (bif Nat.ble i 100 then (bif Nat.ble i 98 then (bif Nat.ble i 97 then (169, .aload_n 0, 0, 0, 0, []) else (170, .getfield 16, 4, 7, 0, [])) else (bif Nat.ble i 99 then (173, .bipush 40, 0, 0, 40, []) else (175, .iload_n 3, 0, 0, 0, []))) else (bif Nat.ble i 102 then (bif Nat.ble i 101 then (176, .imul, 0, 0, 0, []) else (177, .iload 4, 0, 0, 0, [])) else (bif Nat.ble i 103 then (179, .iadd, 0, 0, 0, []) else (180, .iload 8, 0, 0, 0, []))))) else (bif Nat.ble i 112 then (bif Nat.ble i 108 then (bif Nat.ble i 106 then (bif Nat.ble i 105 then (182, .iadd, 0, 0, 0, []) else (183, .aload_n 0, 0, 0, 0, [])) else (bif Nat.ble i 107 then (184, .getfield 16, 4, 7, 0, []) else (187, .bipush 40, 0, 0, 40, []))) else (bif Nat.ble i 110 then (bif Nat.ble i 109 then (189, .iload_n 1, 0, 0, 0, []) else (190, .imul, 0, 0, 0, [])) else (bif Nat.ble i 111 then (191, .iload_n 2, 0, 0, 0, []) else (192, .iadd, 0, 0, 0, [])))) else (bif Nat.ble i 116 then (bif Nat.ble i 114 then (bif Nat.ble i 113 then (193, .iload 8, 0, 0, 0, []) else (195, .iadd, 0, 0, 0, [])) else (bif Nat.ble i 115 then (196, .iaload, 0, 0, 0, []) else (197, .iastore, 0, 0, 0, []))) else (bif Nat.ble i 118 then (bif Nat.ble i 117 then (198, .iinc 7 1, 0, 0, 1, []) else (201, .goto (-58), 84, 0, 0, [])) else (bif Nat.ble i 119 then (204, .iload 5, 0, 0, 0, []) else (206, .ireturn, 0, 0, 0, []))))))))
/-- GridQuarrelsModel.drop(I)I -/
def cd162 : Nat → mmE := fun i => (bif Nat.ble i 14 then (bif Nat.ble i 6 then (bif Nat.ble i 2 then (bif Nat.ble i 0 then (0, .aload_n 0, 0, 0, 0, []) else (bif Nat.ble i 1 then (1, .iconst 0, 0, 0, 0, []) else (2, .putfield 47, 0, 7, 0, []))) else (bif Nat.ble i 4 then (bif Nat.ble i 3 then (5, .iload_n 1, 0, 0, 0, []) else (6, .invokestatic 61, 158, 1, 0, [])) else (bif Nat.ble i 5 then (9, .ifCond .ne 6, 8, 0, 0, []) else (12, .ldc 67, 0, 0, (-1000001), [])))) else (bif Nat.ble i 10 then (bif Nat.ble i 8 then (bif Nat.ble i 7 then (14, .ireturn, 0, 0, 0, []) else (15, .aload_n 0, 0, 0, 0, [])) else (bif Nat.ble i 9 then (16, .iconst 0, 0, 0, 0, []) else (17, .putfield 51, 1, 7, 0, []))) else (bif Nat.ble i 12 then (bif Nat.ble i 11 then (20, .aload_n 0, 0, 0, 0, []) else (21, .getfield 7, 2, 7, 0, [])) else (bif Nat.ble i 13 then (24, .iload_n 1, 0, 0, 0, []) else (25, .iaload, 0, 0, 0, []))))) else (bif Nat.ble i 21 then (bif Nat.ble i 17 then (bif Nat.ble i 15 then (26, .ifCond .ge 9, 20, 0, 0, []) else (bif Nat.ble i 16 then (29, .aload_n 0, 0, 0, 0, []) else (30, .iconst 1, 0, 0, 1, []))) else (bif Nat.ble i 19 then (bif Nat.ble i 18 then (31, .invokevirtual 68, 157, 2, 0, []) else (34, .ireturn, 0, 0, 0, [])) else (bif Nat.ble i 20 then (35, .aload_n 0, 0, 0, 0, []) else (36, .getfield 7, 2, 7, 0, [])))) else (bif Nat.ble i 25 then (bif Nat.ble i 23 then (bif Nat.ble i 22 then (39, .iload_n 1, 0, 0, 0, []) else (40, .iconst (-1), 0, 0, (-1), [])) else (bif Nat.ble i 24 then (41, .iastore, 0, 0, 0, []) else (42, .aload_n 0, 0, 0, 0, []))) else (bif Nat.ble i 27 then (bif Nat.ble i 26 then (43, .getfield 13, 3, 7, 0, []) else (46, .iload_n 1, 0, 0, 0, [])) else (bif Nat.ble i 28 then (47, .iaload, 0, 0, 0, []) else (48, .ireturn, 0, 0, 0, []))))))
/-- GridQuarrelsModel.feed(I)I -/
def cd163 : Nat → mmE := fun i => (bif Nat.ble i 15 then (bif Nat.ble i 7 then (bif Nat.ble i 3 then (bif Nat.ble i 1 then (bif Nat.ble i 0 then (0, .aload_n 0, 0, 0, 0, []) else (1, .iconst 0, 0, 0, 0, [])) else (bif Nat.ble i 2 then (2, .putfield 47, 0, 7, 0, []) else (5, .iload_n 1, 0, 0, 0, []))) else (bif Nat.ble i 5 then (bif Nat.ble i 4 then (6, .i2l, 0, 0, 0, []) else (7, .lconst 0, 0, 0, 0, [])) else (bif Nat.ble i 6 then (8, .ldc2_w 72, 0, 0, 255, []) else (11, .invokestatic 57, 156, 3, 0, [])))) else (bif Nat.ble i 11 then (bif Nat.ble i 9 then (bif Nat.ble i 8 then (14, .ifCond .ne 6, 11, 0, 0, []) else (17, .ldc 67, 0, 0, (-1000001), [])) else (bif Nat.ble i 10 then (19, .ireturn, 0, 0, 0, []) else (20, .aload_n 0, 0, 0, 0, []))) else (bif Nat.ble i 13 then (bif Nat.ble i 12 then (21, .getfield 74, 11, 7, 0, []) else (24, .bipush 120, 0, 0, 120, [])) else (bif Nat.ble i 14 then (26, .if_icmp .ne 6, 17, 0, 0, []) else (29, .ldc 77, 0, 0, (-1000003), []))))) else (bif Nat.ble i 23 then (bif Nat.ble i 19 then (bif Nat.ble i 17 then (bif Nat.ble i 16 then (31, .ireturn, 0, 0, 0, []) else (32, .aload_n 0, 0, 0, 0, [])) else (bif Nat.ble i 18 then (33, .getfield 31, 10, 7, 0, []) else (36, .aload_n 0, 0, 0, 0, []))) else (bif Nat.ble i 21 then (bif Nat.ble i 20 then (37, .getfield 74, 11, 7, 0, []) else (40, .iload_n 1, 0, 0, 0, [])) else (bif Nat.ble i 22 then (41, .iastore, 0, 0, 0, []) else (42, .aload_n 0, 0, 0, 0, [])))) else (bif Nat.ble i 27 then (bif Nat.ble i 25 then (bif Nat.ble i 24 then (43, .dup, 0, 0, 0, []) else (44, .getfield 74, 11, 7, 0, [])) else (bif Nat.ble i 26 then (47, .iconst 1, 0, 0, 1, []) else (48, .iadd, 0, 0, 0, []))) else (bif Nat.ble i 29 then (bif Nat.ble i 28 then (49, .putfield 74, 11, 7, 0, []) else (52, .aload_n 0, 0, 0, 0, [])) else (bif Nat.ble i 30 then (53, .getfield 74, 11, 7, 0, []) else (56, .ireturn, 0, 0, 0, []))))))
/-- GridQuarrelsModel.bad(I)V -/
def cd164 : Nat → mmE := fun i => (bif Nat.ble i 4 then (bif Nat.ble i 1 then (bif Nat.ble i 0 then (0, .aload_n 0, 0, 0, 0, []) else (1, .getfield 78, 16, 7, 0, [])) else (bif Nat.ble i 2 then (4, .ifCond .ne 16, 10, 0, 0, []) else (bif Nat.ble i 3 then (7, .aload_n 0, 0, 0, 0, []) else (8, .iload_n 1, 0, 0, 0, [])))) else (bif Nat.ble i 7 then (bif Nat.ble i 5 then (9, .putfield 78, 16, 7, 0, []) else (bif Nat.ble i 6 then (12, .aload_n 0, 0, 0, 0, []) else (13, .aload_n 0, 0, 0, 0, []))) else (bif Nat.ble i 8 then (14, .getfield 81, 13, 7, 0, []) else (bif Nat.ble i 9 then (17, .putfield 84, 17, 7, 0, []) else (20, .return_, 0, 0, 0, [])))))
/-- GridQuarrelsModel.nextToken()V -/
def cd165 : Nat → mmE := fun i => (bif Nat.ble i 68 then (bif Nat.ble i 33 then (bif Nat.ble i 16 then (bif Nat.ble i 7 then (bif Nat.ble i 3 then (bif Nat.ble i 1 then (bif Nat.ble i 0 then (0, .aload_n 0, 0, 0, 0, []) else (1, .aload_n 0, 0, 0, 0, [])) else (bif Nat.ble i 2 then (2, .getfield 87, 12, 7, 0, []) else (5, .putfield 81, 13, 7, 0, []))) else (bif Nat.ble i 5 then (bif Nat.ble i 4 then (8, .aload_n 0, 0, 0, 0, []) else (9, .aload_n 0, 0, 0, 0, [])) else (bif Nat.ble i 6 then (10, .getfield 87, 12, 7, 0, []) else (13, .aload_n 0, 0, 0, 0, [])))) else (bif Nat.ble i 11 then (bif Nat.ble i 9 then (bif Nat.ble i 8 then (14, .getfield 74, 11, 7, 0, []) else (17, .if_icmp .ge 15, 16, 0, 0, [])) else (bif Nat.ble i 10 then (20, .aload_n 0, 0, 0, 0, []) else (21, .getfield 31, 10, 7, 0, []))) else (bif Nat.ble i 13 then (bif Nat.ble i 12 then (24, .aload_n 0, 0, 0, 0, []) else (25, .getfield 87, 12, 7, 0, [])) else (bif Nat.ble i 14 then (28, .iaload, 0, 0, 0, []) else (bif Nat.ble i 15 then (29, .goto 5, 17, 0, 0, []) else (32, .ldc 90, 0, 0, (-1000000), [])))))) else (bif Nat.ble i 24 then (bif Nat.ble i 20 then (bif Nat.ble i 18 then (bif Nat.ble i 17 then (34, .putfield 91, 15, 7, 0, []) else (37, .aload_n 0, 0, 0, 0, [])) else (bif Nat.ble i 19 then (38, .aload_n 0, 0, 0, 0, []) else (39, .getfield 87, 12, 7, 0, []))) else (bif Nat.ble i 22 then (bif Nat.ble i 21 then (42, .aload_n 0, 0, 0, 0, []) else (43, .getfield 74, 11, 7, 0, [])) else (bif Nat.ble i 23 then (46, .if_icmp .ne 7, 26, 0, 0, []) else (49, .iconst 1, 0, 0, 1, [])))) else (bif Nat.ble i 28 then (bif Nat.ble i 26 then (bif Nat.ble i 25 then (50, .goto 68, 55, 0, 0, []) else (53, .aload_n 0, 0, 0, 0, [])) else (bif Nat.ble i 27 then (54, .getfield 91, 15, 7, 0, []) else (57, .i2l, 0, 0, 0, []))) else (bif Nat.ble i 30 then (bif Nat.ble i 29 then (58, .ldc2_w 94, 0, 0, 97, []) else (61, .ldc2_w 96, 0, 0, 122, [])) else (bif Nat.ble i 31 then (64, .invokestatic 57, 156, 3, 0, []) else (bif Nat.ble i 32 then (67, .ifCond .eq 7, 35, 0, 0, []) else (70, .iconst 2, 0, 0, 2, []))))))) else (bif Nat.ble i 50 then (bif Nat.ble i 41 then (bif Nat.ble i 37 then (bif Nat.ble i 35 then (bif Nat.ble i 34 then (71, .goto 47, 55, 0, 0, []) else (74, .aload_n 0, 0, 0, 0, [])) else (bif Nat.ble i 36 then (75, .getfield 91, 15, 7, 0, []) else (78, .i2l, 0, 0, 0, []))) else (bif Nat.ble i 39 then (bif Nat.ble i 38 then (79, .ldc2_w 98, 0, 0, 48, []) else (82, .ldc2_w 100, 0, 0, 57, [])) else (bif Nat.ble i 40 then (85, .invokestatic 57, 156, 3, 0, []) else (88, .ifCond .eq 7, 44, 0, 0, [])))) else (bif Nat.ble i 45 then (bif Nat.ble i 43 then (bif Nat.ble i 42 then (91, .iconst 3, 0, 0, 3, []) else (92, .goto 26, 55, 0, 0, [])) else (bif Nat.ble i 44 then (95, .aload_n 0, 0, 0, 0, []) else (96, .getfield 91, 15, 7, 0, []))) else (bif Nat.ble i 47 then (bif Nat.ble i 46 then (99, .bipush 44, 0, 0, 44, []) else (101, .if_icmp .eq 12, 52, 0, 0, [])) else (bif Nat.ble i 48 then (104, .aload_n 0, 0, 0, 0, []) else (bif Nat.ble i 49 then (105, .getfield 91, 15, 7, 0, []) else (108, .bipush 59, 0, 0, 59, [])))))) else (bif Nat.ble i 59 then (bif Nat.ble i 54 then (bif Nat.ble i 52 then (bif Nat.ble i 51 then (110, .if_icmp .ne 7, 54, 0, 0, []) else (113, .iconst 4, 0, 0, 4, [])) else (bif Nat.ble i 53 then (114, .goto 4, 55, 0, 0, []) else (117, .iconst 0, 0, 0, 0, []))) else (bif Nat.ble i 56 then (bif Nat.ble i 55 then (118, .putfield 102, 14, 7, 0, []) else (121, .aload_n 0, 0, 0, 0, [])) else (bif Nat.ble i 57 then (122, .dup, 0, 0, 0, []) else (bif Nat.ble i 58 then (123, .getfield 87, 12, 7, 0, []) else (126, .aload_n 0, 0, 0, 0, []))))) else (bif Nat.ble i 63 then (bif Nat.ble i 61 then (bif Nat.ble i 60 then (127, .getfield 87, 12, 7, 0, []) else (130, .aload_n 0, 0, 0, 0, [])) else (bif Nat.ble i 62 then (131, .getfield 74, 11, 7, 0, []) else (134, .if_icmp .ge 7, 66, 0, 0, []))) else (bif Nat.ble i 65 then (bif Nat.ble i 64 then (137, .iconst 1, 0, 0, 1, []) else (138, .goto 4, 67, 0, 0, [])) else (bif Nat.ble i 66 then (141, .iconst 0, 0, 0, 0, []) else (bif Nat.ble i 67 then (142, .iadd, 0, 0, 0, []) else (143, .putfield 87, 12, 7, 0, [])))))))) else (bif Nat.ble i 102 then (bif Nat.ble i 85 then (bif Nat.ble i 76 then (bif Nat.ble i 72 then (bif Nat.ble i 70 then (bif Nat.ble i 69 then (146, .aload_n 0, 0, 0, 0, []) else (147, .getfield 102, 14, 7, 0, [])) else (bif Nat.ble i 71 then (150, .iconst 3, 0, 0, 3, []) else (151, .if_icmp .ne 126, 137, 0, 0, []))) else (bif Nat.ble i 74 then (bif Nat.ble i 73 then (154, .aload_n 0, 0, 0, 0, []) else (155, .dup, 0, 0, 0, [])) else (bif Nat.ble i 75 then (156, .getfield 91, 15, 7, 0, []) else (159, .bipush 48, 0, 0, 48, [])))) else (bif Nat.ble i 80 then (bif Nat.ble i 78 then (bif Nat.ble i 77 then (161, .isub, 0, 0, 0, []) else (162, .putfield 91, 15, 7, 0, [])) else (bif Nat.ble i 79 then (165, .aload_n 0, 0, 0, 0, []) else (166, .getfield 87, 12, 7, 0, []))) else (bif Nat.ble i 82 then (bif Nat.ble i 81 then (169, .aload_n 0, 0, 0, 0, []) else (170, .getfield 74, 11, 7, 0, [])) else (bif Nat.ble i 83 then (173, .if_icmp .ge 82, 125, 0, 0, []) else (bif Nat.ble i 84 then (176, .aload_n 0, 0, 0, 0, []) else (177, .getfield 31, 10, 7, 0, [])))))) else (bif Nat.ble i 93 then (bif Nat.ble i 89 then (bif Nat.ble i 87 then (bif Nat.ble i 86 then (180, .aload_n 0, 0, 0, 0, []) else (181, .getfield 87, 12, 7, 0, [])) else (bif Nat.ble i 88 then (184, .iaload, 0, 0, 0, []) else (185, .i2l, 0, 0, 0, []))) else (bif Nat.ble i 91 then (bif Nat.ble i 90 then (186, .ldc2_w 98, 0, 0, 48, []) else (189, .ldc2_w 100, 0, 0, 57, [])) else (bif Nat.ble i 92 then (192, .invokestatic 57, 156, 3, 0, []) else (195, .ifCond .eq 60, 125, 0, 0, [])))) else (bif Nat.ble i 97 then (bif Nat.ble i 95 then (bif Nat.ble i 94 then (198, .aload_n 0, 0, 0, 0, []) else (199, .aload_n 0, 0, 0, 0, [])) else (bif Nat.ble i 96 then (200, .getfield 87, 12, 7, 0, []) else (203, .aload_n 0, 0, 0, 0, []))) else (bif Nat.ble i 99 then (bif Nat.ble i 98 then (204, .getfield 81, 13, 7, 0, []) else (207, .isub, 0, 0, 0, [])) else (bif Nat.ble i 100 then (208, .iconst 2, 0, 0, 2, []) else (bif Nat.ble i 101 then (209, .if_icmp .ge 26, 115, 0, 0, []) else (212, .bipush 10, 0, 0, 10, []))))))) else (bif Nat.ble i 119 then (bif Nat.ble i 110 then (bif Nat.ble i 106 then (bif Nat.ble i 104 then (bif Nat.ble i 103 then (214, .aload_n 0, 0, 0, 0, []) else (215, .getfield 91, 15, 7, 0, [])) else (bif Nat.ble i 105 then (218, .imul, 0, 0, 0, []) else (219, .aload_n 0, 0, 0, 0, []))) else (bif Nat.ble i 108 then (bif Nat.ble i 107 then (220, .getfield 31, 10, 7, 0, []) else (223, .aload_n 0, 0, 0, 0, [])) else (bif Nat.ble i 109 then (224, .getfield 87, 12, 7, 0, []) else (227, .iaload, 0, 0, 0, [])))) else (bif Nat.ble i 114 then (bif Nat.ble i 112 then (bif Nat.ble i 111 then (228, .iadd, 0, 0, 0, []) else (229, .bipush 48, 0, 0, 48, [])) else (bif Nat.ble i 113 then (231, .isub, 0, 0, 0, []) else (232, .goto 7, 117, 0, 0, []))) else (bif Nat.ble i 116 then (bif Nat.ble i 115 then (235, .aload_n 0, 0, 0, 0, []) else (236, .getfield 91, 15, 7, 0, [])) else (bif Nat.ble i 117 then (239, .putfield 91, 15, 7, 0, []) else (bif Nat.ble i 118 then (242, .aload_n 0, 0, 0, 0, []) else (243, .dup, 0, 0, 0, [])))))) else (bif Nat.ble i 128 then (bif Nat.ble i 123 then (bif Nat.ble i 121 then (bif Nat.ble i 120 then (244, .getfield 87, 12, 7, 0, []) else (247, .iconst 1, 0, 0, 1, [])) else (bif Nat.ble i 122 then (248, .iadd, 0, 0, 0, []) else (249, .putfield 87, 12, 7, 0, []))) else (bif Nat.ble i 125 then (bif Nat.ble i 124 then (252, .goto (-87), 79, 0, 0, []) else (255, .aload_n 0, 0, 0, 0, [])) else (bif Nat.ble i 126 then (256, .aload_n 0, 0, 0, 0, []) else (bif Nat.ble i 127 then (257, .getfield 87, 12, 7, 0, []) else (260, .aload_n 0, 0, 0, 0, []))))) else (bif Nat.ble i 132 then (bif Nat.ble i 130 then (bif Nat.ble i 129 then (261, .getfield 81, 13, 7, 0, []) else (264, .isub, 0, 0, 0, [])) else (bif Nat.ble i 131 then (265, .iconst 2, 0, 0, 2, []) else (266, .if_icmp .le 7, 135, 0, 0, []))) else (bif Nat.ble i 134 then (bif Nat.ble i 133 then (269, .iconst 0, 0, 0, 0, []) else (270, .goto 4, 136, 0, 0, [])) else (bif Nat.ble i 135 then (273, .iconst 3, 0, 0, 3, []) else (bif Nat.ble i 136 then (274, .putfield 102, 14, 7, 0, []) else (277, .return_, 0, 0, 0, [])))))))))
/-- GridQuarrelsModel.must(Z)V -/
def cd166 : Nat → mmE := fun i => (bif Nat.ble i 4 then (bif Nat.ble i 1 then (bif Nat.ble i 0 then (0, .iload_n 1, 0, 0, 0, []) else (1, .ifCond .ne 8, 5, 0, 0, [])) else (bif Nat.ble i 2 then (4, .aload_n 0, 0, 0, 0, []) else (bif Nat.ble i 3 then (5, .iconst 1, 0, 0, 1, []) else (6, .invokevirtual 105, 164, 2, 0, [])))) else (bif Nat.ble i 7 then (bif Nat.ble i 5 then (9, .aload_n 0, 0, 0, 0, []) else (bif Nat.ble i 6 then (10, .getfield 78, 16, 7, 0, []) else (13, .ifCond .ne 7, 10, 0, 0, []))) else (bif Nat.ble i 8 then (16, .aload_n 0, 0, 0, 0, []) else (bif Nat.ble i 9 then (17, .invokevirtual 109, 165, 1, 0, []) else (20, .return_, 0, 0, 0, [])))))
/-- GridQuarrelsModel.isLetter(I)Z -/
def cd167 : Nat → mmE := fun i => (bif Nat.ble i 6 then (bif Nat.ble i 2 then (bif Nat.ble i 0 then (0, .aload_n 0, 0, 0, 0, []) else (bif Nat.ble i 1 then (1, .getfield 78, 16, 7, 0, []) else (4, .ifCond .ne 23, 13, 0, 0, []))) else (bif Nat.ble i 4 then (bif Nat.ble i 3 then (7, .aload_n 0, 0, 0, 0, []) else (8, .getfield 102, 14, 7, 0, [])) else (bif Nat.ble i 5 then (11, .iconst 2, 0, 0, 2, []) else (12, .if_icmp .ne 15, 13, 0, 0, [])))) else (bif Nat.ble i 10 then (bif Nat.ble i 8 then (bif Nat.ble i 7 then (15, .aload_n 0, 0, 0, 0, []) else (16, .getfield 91, 15, 7, 0, [])) else (bif Nat.ble i 9 then (19, .iload_n 1, 0, 0, 0, []) else (20, .if_icmp .ne 7, 13, 0, 0, []))) else (bif Nat.ble i 12 then (bif Nat.ble i 11 then (23, .iconst 1, 0, 0, 1, []) else (24, .goto 4, 14, 0, 0, [])) else (bif Nat.ble i 13 then (27, .iconst 0, 0, 0, 0, []) else (28, .ireturn, 0, 0, 0, [])))))
/-- GridQuarrelsModel.number(II)I -/
def cd168 : Nat → mmE := fun i => (bif Nat.ble i 18 then (bif Nat.ble i 8 then (bif Nat.ble i 3 then (bif Nat.ble i 1 then (bif Nat.ble i 0 then (0, .aload_n 0, 0, 0, 0, []) else (1, .getfield 78, 16, 7, 0, [])) else (bif Nat.ble i 2 then (4, .ifCond .ne 16, 10, 0, 0, []) else (7, .aload_n 0, 0, 0, 0, []))) else (bif Nat.ble i 5 then (bif Nat.ble i 4 then (8, .getfield 102, 14, 7, 0, []) else (11, .iconst 3, 0, 0, 3, [])) else (bif Nat.ble i 6 then (12, .if_icmp .eq 8, 10, 0, 0, []) else (bif Nat.ble i 7 then (15, .aload_n 0, 0, 0, 0, []) else (16, .iconst 1, 0, 0, 1, []))))) else (bif Nat.ble i 13 then (bif Nat.ble i 10 then (bif Nat.ble i 9 then (17, .invokevirtual 105, 164, 2, 0, []) else (20, .aload_n 0, 0, 0, 0, [])) else (bif Nat.ble i 11 then (21, .getfield 78, 16, 7, 0, []) else (bif Nat.ble i 12 then (24, .ifCond .ne 23, 25, 0, 0, []) else (27, .aload_n 0, 0, 0, 0, [])))) else (bif Nat.ble i 15 then (bif Nat.ble i 14 then (28, .getfield 91, 15, 7, 0, []) else (31, .i2l, 0, 0, 0, [])) else (bif Nat.ble i 16 then (32, .iload_n 1, 0, 0, 0, []) else (bif Nat.ble i 17 then (33, .i2l, 0, 0, 0, []) else (34, .iload_n 2, 0, 0, 0, [])))))) else (bif Nat.ble i 27 then (bif Nat.ble i 22 then (bif Nat.ble i 20 then (bif Nat.ble i 19 then (35, .i2l, 0, 0, 0, []) else (36, .invokestatic 57, 156, 3, 0, [])) else (bif Nat.ble i 21 then (39, .ifCond .ne 8, 25, 0, 0, []) else (42, .aload_n 0, 0, 0, 0, []))) else (bif Nat.ble i 24 then (bif Nat.ble i 23 then (43, .iconst 2, 0, 0, 2, []) else (44, .invokevirtual 105, 164, 2, 0, [])) else (bif Nat.ble i 25 then (47, .aload_n 0, 0, 0, 0, []) else (bif Nat.ble i 26 then (48, .getfield 78, 16, 7, 0, []) else (51, .ifCond .ne 10, 31, 0, 0, []))))) else (bif Nat.ble i 32 then (bif Nat.ble i 29 then (bif Nat.ble i 28 then (54, .aload_n 0, 0, 0, 0, []) else (55, .getfield 91, 15, 7, 0, [])) else (bif Nat.ble i 30 then (58, .goto 4, 32, 0, 0, []) else (bif Nat.ble i 31 then (61, .iload_n 1, 0, 0, 0, []) else (62, .istore_n 3, 0, 0, 0, [])))) else (bif Nat.ble i 34 then (bif Nat.ble i 33 then (63, .aload_n 0, 0, 0, 0, []) else (64, .iconst 1, 0, 0, 1, [])) else (bif Nat.ble i 35 then (65, .invokevirtual 112, 166, 2, 0, []) else (bif Nat.ble i 36 then (68, .iload_n 3, 0, 0, 0, []) else (69, .ireturn, 0, 0, 0, [])))))))
/-- GridQuarrelsModel.mustSign(I)V -/
def cd169 : Nat → mmE := fun i => (bif Nat.ble i 6 then (bif Nat.ble i 2 then (bif Nat.ble i 0 then (0, .aload_n 0, 0, 0, 0, []) else (bif Nat.ble i 1 then (1, .aload_n 0, 0, 0, 0, []) else (2, .getfield 102, 14, 7, 0, []))) else (bif Nat.ble i 4 then (bif Nat.ble i 3 then (5, .iconst 4, 0, 0, 4, []) else (6, .if_icmp .ne 15, 11, 0, 0, [])) else (bif Nat.ble i 5 then (9, .aload_n 0, 0, 0, 0, []) else (10, .getfield 91, 15, 7, 0, [])))) else (bif Nat.ble i 9 then (bif Nat.ble i 7 then (13, .iload_n 1, 0, 0, 0, []) else (bif Nat.ble i 8 then (14, .if_icmp .ne 7, 11, 0, 0, []) else (17, .iconst 1, 0, 0, 1, []))) else (bif Nat.ble i 11 then (bif Nat.ble i 10 then (18, .goto 4, 12, 0, 0, []) else (21, .iconst 0, 0, 0, 0, [])) else (bif Nat.ble i 12 then (22, .invokevirtual 112, 166, 2, 0, []) else (25, .return_, 0, 0, 0, [])))))
/-- GridQuarrelsModel.begin()V -/
def cd170 : Nat → mmE := fun i => (bif Nat.ble i 3 then (bif Nat.ble i 1 then (bif Nat.ble i 0 then (0, .aload_n 0, 0, 0, 0, []) else (1, .iconst 0, 0, 0, 0, [])) else (bif Nat.ble i 2 then (2, .putfield 87, 12, 7, 0, []) else (5, .aload_n 0, 0, 0, 0, []))) else (bif Nat.ble i 5 then (bif Nat.ble i 4 then (6, .iconst 0, 0, 0, 0, []) else (7, .putfield 78, 16, 7, 0, [])) else (bif Nat.ble i 6 then (10, .aload_n 0, 0, 0, 0, []) else (bif Nat.ble i 7 then (11, .invokevirtual 109, 165, 1, 0, []) else (14, .return_, 0, 0, 0, [])))))
/-- GridQuarrelsModel.failed()Z -/
def cd171 : Nat → mmE := fun i => (bif Nat.ble i 14 then (bif Nat.ble i 6 then (bif Nat.ble i 2 then (bif Nat.ble i 0 then (0, .aload_n 0, 0, 0, 0, []) else (bif Nat.ble i 1 then (1, .getfield 78, 16, 7, 0, []) else (4, .ifCond .ne 16, 10, 0, 0, []))) else (bif Nat.ble i 4 then (bif Nat.ble i 3 then (7, .aload_n 0, 0, 0, 0, []) else (8, .getfield 102, 14, 7, 0, [])) else (bif Nat.ble i 5 then (11, .iconst 1, 0, 0, 1, []) else (12, .if_icmp .eq 8, 10, 0, 0, [])))) else (bif Nat.ble i 10 then (bif Nat.ble i 8 then (bif Nat.ble i 7 then (15, .aload_n 0, 0, 0, 0, []) else (16, .iconst 1, 0, 0, 1, [])) else (bif Nat.ble i 9 then (17, .invokevirtual 105, 164, 2, 0, []) else (20, .aload_n 0, 0, 0, 0, []))) else (bif Nat.ble i 12 then (bif Nat.ble i 11 then (21, .iconst 0, 0, 0, 0, []) else (22, .putfield 74, 11, 7, 0, [])) else (bif Nat.ble i 13 then (25, .aload_n 0, 0, 0, 0, []) else (26, .aload_n 0, 0, 0, 0, []))))) else (bif Nat.ble i 21 then (bif Nat.ble i 17 then (bif Nat.ble i 15 then (27, .getfield 78, 16, 7, 0, []) else (bif Nat.ble i 16 then (30, .ifCond .le 10, 20, 0, 0, []) else (33, .aload_n 0, 0, 0, 0, []))) else (bif Nat.ble i 19 then (bif Nat.ble i 18 then (34, .getfield 78, 16, 7, 0, []) else (37, .goto 7, 22, 0, 0, [])) else (bif Nat.ble i 20 then (40, .aload_n 0, 0, 0, 0, []) else (41, .getfield 116, 18, 7, 0, [])))) else (bif Nat.ble i 25 then (bif Nat.ble i 23 then (bif Nat.ble i 22 then (44, .putfield 116, 18, 7, 0, []) else (47, .aload_n 0, 0, 0, 0, [])) else (bif Nat.ble i 24 then (48, .getfield 78, 16, 7, 0, []) else (51, .ifCond .le 7, 28, 0, 0, []))) else (bif Nat.ble i 27 then (bif Nat.ble i 26 then (54, .iconst 1, 0, 0, 1, []) else (55, .goto 4, 29, 0, 0, [])) else (bif Nat.ble i 28 then (58, .iconst 0, 0, 0, 0, []) else (59, .ireturn, 0, 0, 0, []))))))
/-- GridQuarrelsModel.fault()I -/
def cd172 : Nat → mmE := fun i => (bif Nat.ble i 2 then (bif Nat.ble i 0 then (0, .aload_n 0, 0, 0, 0, []) else (bif Nat.ble i 1 then (1, .iconst 0, 0, 0, 0, []) else (2, .putfield 47, 0, 7, 0, []))) else (bif Nat.ble i 3 then (5, .aload_n 0, 0, 0, 0, []) else (bif Nat.ble i 4 then (6, .getfield 116, 18, 7, 0, []) else (9, .ireturn, 0, 0, 0, []))))
/-- GridQuarrelsModel.kindBy(I)I -/
def cd173 : Nat → mmE := fun i => (bif Nat.ble i 12 then (bif Nat.ble i 5 then (bif Nat.ble i 2 then (bif Nat.ble i 0 then (0, .iload_n 0, 0, 0, 0, []) else (bif Nat.ble i 1 then (1, .bipush 112, 0, 0, 112, []) else (3, .if_icmp .ne 7, 5, 0, 0, []))) else (bif Nat.ble i 3 then (6, .iconst 1, 0, 0, 1, []) else (bif Nat.ble i 4 then (7, .goto 45, 26, 0, 0, []) else (10, .iload_n 0, 0, 0, 0, [])))) else (bif Nat.ble i 8 then (bif Nat.ble i 6 then (11, .bipush 116, 0, 0, 116, []) else (bif Nat.ble i 7 then (13, .if_icmp .ne 7, 10, 0, 0, []) else (16, .iconst 2, 0, 0, 2, []))) else (bif Nat.ble i 10 then (bif Nat.ble i 9 then (17, .goto 35, 26, 0, 0, []) else (20, .iload_n 0, 0, 0, 0, [])) else (bif Nat.ble i 11 then (21, .bipush 107, 0, 0, 107, []) else (23, .if_icmp .ne 7, 15, 0, 0, []))))) else (bif Nat.ble i 19 then (bif Nat.ble i 15 then (bif Nat.ble i 13 then (26, .iconst 3, 0, 0, 3, []) else (bif Nat.ble i 14 then (27, .goto 25, 26, 0, 0, []) else (30, .iload_n 0, 0, 0, 0, []))) else (bif Nat.ble i 17 then (bif Nat.ble i 16 then (31, .bipush 98, 0, 0, 98, []) else (33, .if_icmp .ne 7, 20, 0, 0, [])) else (bif Nat.ble i 18 then (36, .iconst 4, 0, 0, 4, []) else (37, .goto 15, 26, 0, 0, [])))) else (bif Nat.ble i 22 then (bif Nat.ble i 20 then (40, .iload_n 0, 0, 0, 0, []) else (bif Nat.ble i 21 then (41, .bipush 109, 0, 0, 109, []) else (43, .if_icmp .ne 7, 25, 0, 0, []))) else (bif Nat.ble i 24 then (bif Nat.ble i 23 then (46, .iconst 5, 0, 0, 5, []) else (47, .goto 5, 26, 0, 0, [])) else (bif Nat.ble i 25 then (50, .ldc 90, 0, 0, (-1000000), []) else (52, .ireturn, 0, 0, 0, []))))))
/-- GridQuarrelsModel.isSort()Z -/
def cd174 : Nat → mmE := fun i => (bif Nat.ble i 7 then (bif Nat.ble i 3 then (bif Nat.ble i 1 then (bif Nat.ble i 0 then (0, .aload_n 0, 0, 0, 0, []) else (1, .getfield 78, 16, 7, 0, [])) else (bif Nat.ble i 2 then (4, .ifCond .ne 27, 14, 0, 0, []) else (7, .aload_n 0, 0, 0, 0, []))) else (bif Nat.ble i 5 then (bif Nat.ble i 4 then (8, .getfield 102, 14, 7, 0, []) else (11, .iconst 2, 0, 0, 2, [])) else (bif Nat.ble i 6 then (12, .if_icmp .ne 19, 14, 0, 0, []) else (15, .aload_n 0, 0, 0, 0, [])))) else (bif Nat.ble i 11 then (bif Nat.ble i 9 then (bif Nat.ble i 8 then (16, .getfield 91, 15, 7, 0, []) else (19, .invokestatic 119, 173, 1, 0, [])) else (bif Nat.ble i 10 then (22, .ldc 90, 0, 0, (-1000000), []) else (24, .if_icmp .eq 7, 14, 0, 0, []))) else (bif Nat.ble i 13 then (bif Nat.ble i 12 then (27, .iconst 1, 0, 0, 1, []) else (28, .goto 4, 15, 0, 0, [])) else (bif Nat.ble i 14 then (31, .iconst 0, 0, 0, 0, []) else (32, .ireturn, 0, 0, 0, [])))))
/-- GridQuarrelsModel.readRoad()V -/
def cd175 : Nat → mmE := fun i => (bif Nat.ble i 50 then (bif Nat.ble i 24 then (bif Nat.ble i 11 then (bif Nat.ble i 5 then (bif Nat.ble i 2 then (bif Nat.ble i 0 then (0, .aload_n 0, 0, 0, 0, []) else (bif Nat.ble i 1 then (1, .getfield 22, 6, 7, 0, []) else (4, .iconst 1, 0, 0, 1, []))) else (bif Nat.ble i 3 then (5, .iaload, 0, 0, 0, []) else (bif Nat.ble i 4 then (6, .bipush 7, 0, 0, 7, []) else (8, .if_icmp .ne 8, 9, 0, 0, [])))) else (bif Nat.ble i 8 then (bif Nat.ble i 6 then (11, .aload_n 0, 0, 0, 0, []) else (bif Nat.ble i 7 then (12, .iconst 3, 0, 0, 3, []) else (13, .invokevirtual 105, 164, 2, 0, []))) else (bif Nat.ble i 9 then (16, .aload_n 0, 0, 0, 0, []) else (bif Nat.ble i 10 then (17, .aload_n 0, 0, 0, 0, []) else (18, .bipush 114, 0, 0, 114, []))))) else (bif Nat.ble i 17 then (bif Nat.ble i 14 then (bif Nat.ble i 12 then (20, .invokevirtual 122, 167, 2, 0, []) else (bif Nat.ble i 13 then (23, .invokevirtual 112, 166, 2, 0, []) else (26, .aload_n 0, 0, 0, 0, []))) else (bif Nat.ble i 15 then (27, .iconst 0, 0, 0, 0, []) else (bif Nat.ble i 16 then (28, .aload_n 0, 0, 0, 0, []) else (29, .getfield 22, 6, 7, 0, [])))) else (bif Nat.ble i 20 then (bif Nat.ble i 18 then (32, .iconst 0, 0, 0, 0, []) else (bif Nat.ble i 19 then (33, .iaload, 0, 0, 0, []) else (34, .iconst 1, 0, 0, 1, []))) else (bif Nat.ble i 22 then (bif Nat.ble i 21 then (35, .isub, 0, 0, 0, []) else (36, .invokevirtual 125, 168, 3, 0, [])) else (bif Nat.ble i 23 then (39, .istore_n 1, 0, 0, 0, []) else (40, .aload_n 0, 0, 0, 0, [])))))) else (bif Nat.ble i 37 then (bif Nat.ble i 30 then (bif Nat.ble i 27 then (bif Nat.ble i 25 then (41, .bipush 44, 0, 0, 44, []) else (bif Nat.ble i 26 then (43, .invokevirtual 129, 169, 2, 0, []) else (46, .aload_n 0, 0, 0, 0, []))) else (bif Nat.ble i 28 then (47, .getfield 78, 16, 7, 0, []) else (bif Nat.ble i 29 then (50, .ifCond .ne 24, 41, 0, 0, []) else (53, .aload_n 0, 0, 0, 0, [])))) else (bif Nat.ble i 33 then (bif Nat.ble i 31 then (54, .getfield 102, 14, 7, 0, []) else (bif Nat.ble i 32 then (57, .iconst 3, 0, 0, 3, []) else (58, .if_icmp .ne 16, 41, 0, 0, []))) else (bif Nat.ble i 35 then (bif Nat.ble i 34 then (61, .aload_n 0, 0, 0, 0, []) else (62, .getfield 91, 15, 7, 0, [])) else (bif Nat.ble i 36 then (65, .iload_n 1, 0, 0, 0, []) else (66, .if_icmp .ne 8, 41, 0, 0, []))))) else (bif Nat.ble i 43 then (bif Nat.ble i 40 then (bif Nat.ble i 38 then (69, .aload_n 0, 0, 0, 0, []) else (bif Nat.ble i 39 then (70, .iconst 2, 0, 0, 2, []) else (71, .invokevirtual 105, 164, 2, 0, []))) else (bif Nat.ble i 41 then (74, .aload_n 0, 0, 0, 0, []) else (bif Nat.ble i 42 then (75, .iconst 0, 0, 0, 0, []) else (76, .aload_n 0, 0, 0, 0, [])))) else (bif Nat.ble i 46 then (bif Nat.ble i 44 then (77, .getfield 22, 6, 7, 0, []) else (bif Nat.ble i 45 then (80, .iconst 0, 0, 0, 0, []) else (81, .iaload, 0, 0, 0, []))) else (bif Nat.ble i 48 then (bif Nat.ble i 47 then (82, .iconst 1, 0, 0, 1, []) else (83, .isub, 0, 0, 0, [])) else (bif Nat.ble i 49 then (84, .invokevirtual 125, 168, 3, 0, []) else (87, .istore_n 2, 0, 0, 0, []))))))) else (bif Nat.ble i 75 then (bif Nat.ble i 62 then (bif Nat.ble i 56 then (bif Nat.ble i 53 then (bif Nat.ble i 51 then (88, .aload_n 0, 0, 0, 0, []) else (bif Nat.ble i 52 then (89, .bipush 44, 0, 0, 44, []) else (91, .invokevirtual 129, 169, 2, 0, []))) else (bif Nat.ble i 54 then (94, .aload_n 0, 0, 0, 0, []) else (bif Nat.ble i 55 then (95, .iconst 0, 0, 0, 0, []) else (96, .bipush 9, 0, 0, 9, [])))) else (bif Nat.ble i 59 then (bif Nat.ble i 57 then (98, .invokevirtual 125, 168, 3, 0, []) else (bif Nat.ble i 58 then (101, .istore_n 3, 0, 0, 0, []) else (102, .aload_n 0, 0, 0, 0, []))) else (bif Nat.ble i 60 then (103, .bipush 59, 0, 0, 59, []) else (bif Nat.ble i 61 then (105, .invokevirtual 129, 169, 2, 0, []) else (108, .aload_n 0, 0, 0, 0, []))))) else (bif Nat.ble i 68 then (bif Nat.ble i 65 then (bif Nat.ble i 63 then (109, .getfield 78, 16, 7, 0, []) else (bif Nat.ble i 64 then (112, .ifCond .ne 54, 101, 0, 0, []) else (115, .bipush 11, 0, 0, 11, []))) else (bif Nat.ble i 66 then (117, .iconst 3, 0, 0, 3, []) else (bif Nat.ble i 67 then (118, .aload_n 0, 0, 0, 0, []) else (119, .getfield 22, 6, 7, 0, [])))) else (bif Nat.ble i 71 then (bif Nat.ble i 69 then (122, .iconst 1, 0, 0, 1, []) else (bif Nat.ble i 70 then (123, .iaload, 0, 0, 0, []) else (124, .imul, 0, 0, 0, []))) else (bif Nat.ble i 73 then (bif Nat.ble i 72 then (125, .iadd, 0, 0, 0, []) else (126, .istore 4, 0, 0, 0, [])) else (bif Nat.ble i 74 then (128, .aload_n 0, 0, 0, 0, []) else (129, .getfield 22, 6, 7, 0, [])))))) else (bif Nat.ble i 88 then (bif Nat.ble i 81 then (bif Nat.ble i 78 then (bif Nat.ble i 76 then (132, .iload 4, 0, 0, 0, []) else (bif Nat.ble i 77 then (134, .iload_n 1, 0, 0, 0, []) else (135, .iastore, 0, 0, 0, []))) else (bif Nat.ble i 79 then (136, .aload_n 0, 0, 0, 0, []) else (bif Nat.ble i 80 then (137, .getfield 22, 6, 7, 0, []) else (140, .iload 4, 0, 0, 0, [])))) else (bif Nat.ble i 84 then (bif Nat.ble i 82 then (142, .iconst 1, 0, 0, 1, []) else (bif Nat.ble i 83 then (143, .iadd, 0, 0, 0, []) else (144, .iload_n 2, 0, 0, 0, []))) else (bif Nat.ble i 86 then (bif Nat.ble i 85 then (145, .iastore, 0, 0, 0, []) else (146, .aload_n 0, 0, 0, 0, [])) else (bif Nat.ble i 87 then (147, .getfield 22, 6, 7, 0, []) else (150, .iload 4, 0, 0, 0, []))))) else (bif Nat.ble i 94 then (bif Nat.ble i 91 then (bif Nat.ble i 89 then (152, .iconst 2, 0, 0, 2, []) else (bif Nat.ble i 90 then (153, .iadd, 0, 0, 0, []) else (154, .iload_n 3, 0, 0, 0, []))) else (bif Nat.ble i 92 then (155, .iastore, 0, 0, 0, []) else (bif Nat.ble i 93 then (156, .aload_n 0, 0, 0, 0, []) else (157, .getfield 22, 6, 7, 0, [])))) else (bif Nat.ble i 97 then (bif Nat.ble i 95 then (160, .iconst 1, 0, 0, 1, []) else (bif Nat.ble i 96 then (161, .dup2, 0, 0, 0, []) else (162, .iaload, 0, 0, 0, []))) else (bif Nat.ble i 99 then (bif Nat.ble i 98 then (163, .iconst 1, 0, 0, 1, []) else (164, .iadd, 0, 0, 0, [])) else (bif Nat.ble i 100 then (165, .iastore, 0, 0, 0, []) else (166, .return_, 0, 0, 0, []))))))))
/-- GridQuarrelsModel.readQuarrel()V -/
def cd176 : Nat → mmE := fun i => (bif Nat.ble i 47 then (bif Nat.ble i 23 then (bif Nat.ble i 11 then (bif Nat.ble i 5 then (bif Nat.ble i 2 then (bif Nat.ble i 0 then (0, .aload_n 0, 0, 0, 0, []) else (bif Nat.ble i 1 then (1, .getfield 91, 15, 7, 0, []) else (4, .invokestatic 119, 173, 1, 0, []))) else (bif Nat.ble i 3 then (7, .istore_n 1, 0, 0, 0, []) else (bif Nat.ble i 4 then (8, .aload_n 0, 0, 0, 0, []) else (9, .getfield 22, 6, 7, 0, [])))) else (bif Nat.ble i 8 then (bif Nat.ble i 6 then (12, .iconst 2, 0, 0, 2, []) else (bif Nat.ble i 7 then (13, .iaload, 0, 0, 0, []) else (14, .iconst 5, 0, 0, 5, []))) else (bif Nat.ble i 9 then (15, .if_icmp .ne 8, 13, 0, 0, []) else (bif Nat.ble i 10 then (18, .aload_n 0, 0, 0, 0, []) else (19, .iconst 3, 0, 0, 3, []))))) else (bif Nat.ble i 17 then (bif Nat.ble i 14 then (bif Nat.ble i 12 then (20, .invokevirtual 105, 164, 2, 0, []) else (bif Nat.ble i 13 then (23, .aload_n 0, 0, 0, 0, []) else (24, .iconst 1, 0, 0, 1, []))) else (bif Nat.ble i 15 then (25, .invokevirtual 112, 166, 2, 0, []) else (bif Nat.ble i 16 then (28, .aload_n 0, 0, 0, 0, []) else (29, .iconst 0, 0, 0, 0, [])))) else (bif Nat.ble i 20 then (bif Nat.ble i 18 then (30, .aload_n 0, 0, 0, 0, []) else (bif Nat.ble i 19 then (31, .getfield 22, 6, 7, 0, []) else (34, .iconst 0, 0, 0, 0, []))) else (bif Nat.ble i 21 then (35, .iaload, 0, 0, 0, []) else (bif Nat.ble i 22 then (36, .iconst 1, 0, 0, 1, []) else (37, .isub, 0, 0, 0, [])))))) else (bif Nat.ble i 35 then (bif Nat.ble i 29 then (bif Nat.ble i 26 then (bif Nat.ble i 24 then (38, .invokevirtual 125, 168, 3, 0, []) else (bif Nat.ble i 25 then (41, .istore_n 2, 0, 0, 0, []) else (42, .aload_n 0, 0, 0, 0, []))) else (bif Nat.ble i 27 then (43, .bipush 44, 0, 0, 44, []) else (bif Nat.ble i 28 then (45, .invokevirtual 129, 169, 2, 0, []) else (48, .aload_n 0, 0, 0, 0, [])))) else (bif Nat.ble i 32 then (bif Nat.ble i 30 then (49, .iconst 1, 0, 0, 1, []) else (bif Nat.ble i 31 then (50, .bipush 9, 0, 0, 9, []) else (52, .invokevirtual 125, 168, 3, 0, []))) else (bif Nat.ble i 33 then (55, .istore_n 3, 0, 0, 0, []) else (bif Nat.ble i 34 then (56, .aload_n 0, 0, 0, 0, []) else (57, .bipush 44, 0, 0, 44, []))))) else (bif Nat.ble i 41 then (bif Nat.ble i 38 then (bif Nat.ble i 36 then (59, .invokevirtual 129, 169, 2, 0, []) else (bif Nat.ble i 37 then (62, .aload_n 0, 0, 0, 0, []) else (63, .iconst 0, 0, 0, 0, []))) else (bif Nat.ble i 39 then (64, .aload_n 0, 0, 0, 0, []) else (bif Nat.ble i 40 then (65, .getfield 22, 6, 7, 0, []) else (68, .iconst 0, 0, 0, 0, [])))) else (bif Nat.ble i 44 then (bif Nat.ble i 42 then (69, .iaload, 0, 0, 0, []) else (bif Nat.ble i 43 then (70, .iconst 1, 0, 0, 1, []) else (71, .isub, 0, 0, 0, []))) else (bif Nat.ble i 45 then (72, .invokevirtual 125, 168, 3, 0, []) else (bif Nat.ble i 46 then (75, .istore 4, 0, 0, 0, []) else (77, .aload_n 0, 0, 0, 0, []))))))) else (bif Nat.ble i 71 then (bif Nat.ble i 59 then (bif Nat.ble i 53 then (bif Nat.ble i 50 then (bif Nat.ble i 48 then (78, .bipush 59, 0, 0, 59, []) else (bif Nat.ble i 49 then (80, .invokevirtual 129, 169, 2, 0, []) else (83, .aload_n 0, 0, 0, 0, []))) else (bif Nat.ble i 51 then (84, .getfield 78, 16, 7, 0, []) else (bif Nat.ble i 52 then (87, .ifCond .ne 65, 96, 0, 0, []) else (90, .bipush 32, 0, 0, 32, [])))) else (bif Nat.ble i 56 then (bif Nat.ble i 54 then (92, .iconst 4, 0, 0, 4, []) else (bif Nat.ble i 55 then (93, .aload_n 0, 0, 0, 0, []) else (94, .getfield 22, 6, 7, 0, []))) else (bif Nat.ble i 57 then (97, .iconst 2, 0, 0, 2, []) else (bif Nat.ble i 58 then (98, .iaload, 0, 0, 0, []) else (99, .imul, 0, 0, 0, []))))) else (bif Nat.ble i 65 then (bif Nat.ble i 62 then (bif Nat.ble i 60 then (100, .iadd, 0, 0, 0, []) else (bif Nat.ble i 61 then (101, .istore 5, 0, 0, 0, []) else (103, .aload_n 0, 0, 0, 0, []))) else (bif Nat.ble i 63 then (104, .getfield 22, 6, 7, 0, []) else (bif Nat.ble i 64 then (107, .iload 5, 0, 0, 0, []) else (109, .iload_n 1, 0, 0, 0, [])))) else (bif Nat.ble i 68 then (bif Nat.ble i 66 then (110, .iastore, 0, 0, 0, []) else (bif Nat.ble i 67 then (111, .aload_n 0, 0, 0, 0, []) else (112, .getfield 22, 6, 7, 0, []))) else (bif Nat.ble i 69 then (115, .iload 5, 0, 0, 0, []) else (bif Nat.ble i 70 then (117, .iconst 1, 0, 0, 1, []) else (118, .iadd, 0, 0, 0, [])))))) else (bif Nat.ble i 83 then (bif Nat.ble i 77 then (bif Nat.ble i 74 then (bif Nat.ble i 72 then (119, .iload_n 2, 0, 0, 0, []) else (bif Nat.ble i 73 then (120, .iastore, 0, 0, 0, []) else (121, .aload_n 0, 0, 0, 0, []))) else (bif Nat.ble i 75 then (122, .getfield 22, 6, 7, 0, []) else (bif Nat.ble i 76 then (125, .iload 5, 0, 0, 0, []) else (127, .iconst 2, 0, 0, 2, [])))) else (bif Nat.ble i 80 then (bif Nat.ble i 78 then (128, .iadd, 0, 0, 0, []) else (bif Nat.ble i 79 then (129, .iload_n 3, 0, 0, 0, []) else (130, .iastore, 0, 0, 0, []))) else (bif Nat.ble i 81 then (131, .aload_n 0, 0, 0, 0, []) else (bif Nat.ble i 82 then (132, .getfield 22, 6, 7, 0, []) else (135, .iload 5, 0, 0, 0, []))))) else (bif Nat.ble i 89 then (bif Nat.ble i 86 then (bif Nat.ble i 84 then (137, .iconst 3, 0, 0, 3, []) else (bif Nat.ble i 85 then (138, .iadd, 0, 0, 0, []) else (139, .iload 4, 0, 0, 0, []))) else (bif Nat.ble i 87 then (141, .iastore, 0, 0, 0, []) else (bif Nat.ble i 88 then (142, .aload_n 0, 0, 0, 0, []) else (143, .getfield 22, 6, 7, 0, [])))) else (bif Nat.ble i 92 then (bif Nat.ble i 90 then (146, .iconst 2, 0, 0, 2, []) else (bif Nat.ble i 91 then (147, .dup2, 0, 0, 0, []) else (148, .iaload, 0, 0, 0, []))) else (bif Nat.ble i 94 then (bif Nat.ble i 93 then (149, .iconst 1, 0, 0, 1, []) else (150, .iadd, 0, 0, 0, [])) else (bif Nat.ble i 95 then (151, .iastore, 0, 0, 0, []) else (152, .return_, 0, 0, 0, []))))))))
/-- GridQuarrelsModel.county()I -/
def cd177 : Nat → mmE := fun i => (bif Nat.ble i 59 then (bif Nat.ble i 29 then (bif Nat.ble i 14 then (bif Nat.ble i 6 then (bif Nat.ble i 2 then (bif Nat.ble i 0 then (0, .aload_n 0, 0, 0, 0, []) else (bif Nat.ble i 1 then (1, .iconst 0, 0, 0, 0, []) else (2, .putfield 47, 0, 7, 0, []))) else (bif Nat.ble i 4 then (bif Nat.ble i 3 then (5, .aload_n 0, 0, 0, 0, []) else (6, .invokevirtual 132, 170, 1, 0, [])) else (bif Nat.ble i 5 then (9, .iconst 0, 0, 0, 0, []) else (10, .istore_n 1, 0, 0, 0, [])))) else (bif Nat.ble i 10 then (bif Nat.ble i 8 then (bif Nat.ble i 7 then (11, .iload_n 1, 0, 0, 0, []) else (12, .bipush 52, 0, 0, 52, [])) else (bif Nat.ble i 9 then (14, .if_icmp .ge 16, 17, 0, 0, []) else (17, .aload_n 0, 0, 0, 0, []))) else (bif Nat.ble i 12 then (bif Nat.ble i 11 then (18, .getfield 22, 6, 7, 0, []) else (21, .iload_n 1, 0, 0, 0, [])) else (bif Nat.ble i 13 then (22, .iconst 0, 0, 0, 0, []) else (23, .iastore, 0, 0, 0, []))))) else (bif Nat.ble i 21 then (bif Nat.ble i 17 then (bif Nat.ble i 15 then (24, .iinc 1 1, 0, 0, 1, []) else (bif Nat.ble i 16 then (27, .goto (-16), 7, 0, 0, []) else (30, .aload_n 0, 0, 0, 0, []))) else (bif Nat.ble i 19 then (bif Nat.ble i 18 then (31, .aload_n 0, 0, 0, 0, []) else (32, .bipush 99, 0, 0, 99, [])) else (bif Nat.ble i 20 then (34, .invokevirtual 122, 167, 2, 0, []) else (37, .invokevirtual 112, 166, 2, 0, [])))) else (bif Nat.ble i 25 then (bif Nat.ble i 23 then (bif Nat.ble i 22 then (40, .aload_n 0, 0, 0, 0, []) else (41, .getfield 22, 6, 7, 0, [])) else (bif Nat.ble i 24 then (44, .iconst 0, 0, 0, 0, []) else (45, .aload_n 0, 0, 0, 0, []))) else (bif Nat.ble i 27 then (bif Nat.ble i 26 then (46, .iconst 2, 0, 0, 2, []) else (47, .bipush 7, 0, 0, 7, [])) else (bif Nat.ble i 28 then (49, .invokevirtual 125, 168, 3, 0, []) else (52, .iastore, 0, 0, 0, [])))))) else (bif Nat.ble i 44 then (bif Nat.ble i 36 then (bif Nat.ble i 32 then (bif Nat.ble i 30 then (53, .aload_n 0, 0, 0, 0, []) else (bif Nat.ble i 31 then (54, .bipush 44, 0, 0, 44, []) else (56, .invokevirtual 129, 169, 2, 0, []))) else (bif Nat.ble i 34 then (bif Nat.ble i 33 then (59, .aload_n 0, 0, 0, 0, []) else (60, .iconst 0, 0, 0, 0, [])) else (bif Nat.ble i 35 then (61, .bipush 9, 0, 0, 9, []) else (63, .invokevirtual 125, 168, 3, 0, [])))) else (bif Nat.ble i 40 then (bif Nat.ble i 38 then (bif Nat.ble i 37 then (66, .istore_n 1, 0, 0, 0, []) else (67, .aload_n 0, 0, 0, 0, [])) else (bif Nat.ble i 39 then (68, .bipush 59, 0, 0, 59, []) else (70, .invokevirtual 129, 169, 2, 0, []))) else (bif Nat.ble i 42 then (bif Nat.ble i 41 then (73, .iconst 0, 0, 0, 0, []) else (74, .istore_n 2, 0, 0, 0, [])) else (bif Nat.ble i 43 then (75, .iload_n 2, 0, 0, 0, []) else (76, .bipush 7, 0, 0, 7, []))))) else (bif Nat.ble i 51 then (bif Nat.ble i 47 then (bif Nat.ble i 45 then (78, .if_icmp .ge 32, 63, 0, 0, []) else (bif Nat.ble i 46 then (81, .aload_n 0, 0, 0, 0, []) else (82, .getfield 22, 6, 7, 0, []))) else (bif Nat.ble i 49 then (bif Nat.ble i 48 then (85, .iconst 4, 0, 0, 4, []) else (86, .iload_n 2, 0, 0, 0, [])) else (bif Nat.ble i 50 then (87, .iadd, 0, 0, 0, []) else (88, .iload_n 2, 0, 0, 0, [])))) else (bif Nat.ble i 55 then (bif Nat.ble i 53 then (bif Nat.ble i 52 then (89, .aload_n 0, 0, 0, 0, []) else (90, .getfield 22, 6, 7, 0, [])) else (bif Nat.ble i 54 then (93, .iconst 0, 0, 0, 0, []) else (94, .iaload, 0, 0, 0, []))) else (bif Nat.ble i 57 then (bif Nat.ble i 56 then (95, .if_icmp .ge 7, 59, 0, 0, []) else (98, .iload_n 1, 0, 0, 0, [])) else (bif Nat.ble i 58 then (99, .goto 4, 60, 0, 0, []) else (102, .iconst 0, 0, 0, 0, []))))))) else (bif Nat.ble i 89 then (bif Nat.ble i 74 then (bif Nat.ble i 66 then (bif Nat.ble i 62 then (bif Nat.ble i 60 then (103, .iastore, 0, 0, 0, []) else (bif Nat.ble i 61 then (104, .iinc 2 1, 0, 0, 1, []) else (107, .goto (-32), 43, 0, 0, []))) else (bif Nat.ble i 64 then (bif Nat.ble i 63 then (110, .aload_n 0, 0, 0, 0, []) else (111, .bipush 114, 0, 0, 114, [])) else (bif Nat.ble i 65 then (113, .invokevirtual 122, 167, 2, 0, []) else (116, .ifCond .ne 8, 70, 0, 0, [])))) else (bif Nat.ble i 70 then (bif Nat.ble i 68 then (bif Nat.ble i 67 then (119, .aload_n 0, 0, 0, 0, []) else (120, .iconst 1, 0, 0, 1, [])) else (bif Nat.ble i 69 then (121, .invokevirtual 105, 164, 2, 0, []) else (124, .aload_n 0, 0, 0, 0, []))) else (bif Nat.ble i 72 then (bif Nat.ble i 71 then (125, .bipush 114, 0, 0, 114, []) else (127, .invokevirtual 122, 167, 2, 0, [])) else (bif Nat.ble i 73 then (130, .ifCond .eq 10, 77, 0, 0, []) else (133, .aload_n 0, 0, 0, 0, []))))) else (bif Nat.ble i 81 then (bif Nat.ble i 77 then (bif Nat.ble i 75 then (134, .invokevirtual 135, 175, 1, 0, []) else (bif Nat.ble i 76 then (137, .goto (-13), 70, 0, 0, []) else (140, .aload_n 0, 0, 0, 0, []))) else (bif Nat.ble i 79 then (bif Nat.ble i 78 then (141, .invokevirtual 138, 174, 1, 0, []) else (144, .ifCond .ne 8, 83, 0, 0, [])) else (bif Nat.ble i 80 then (147, .aload_n 0, 0, 0, 0, []) else (148, .iconst 1, 0, 0, 1, [])))) else (bif Nat.ble i 85 then (bif Nat.ble i 83 then (bif Nat.ble i 82 then (149, .invokevirtual 105, 164, 2, 0, []) else (152, .aload_n 0, 0, 0, 0, [])) else (bif Nat.ble i 84 then (153, .invokevirtual 138, 174, 1, 0, []) else (156, .ifCond .eq 10, 89, 0, 0, []))) else (bif Nat.ble i 87 then (bif Nat.ble i 86 then (159, .aload_n 0, 0, 0, 0, []) else (160, .invokevirtual 142, 176, 1, 0, [])) else (bif Nat.ble i 88 then (163, .goto (-11), 83, 0, 0, []) else (166, .aload_n 0, 0, 0, 0, [])))))) else (bif Nat.ble i 104 then (bif Nat.ble i 96 then (bif Nat.ble i 92 then (bif Nat.ble i 90 then (167, .invokevirtual 145, 171, 1, 0, []) else (bif Nat.ble i 91 then (170, .ifCond .eq 11, 97, 0, 0, []) else (173, .ldc 148, 0, 0, (-1000100), []))) else (bif Nat.ble i 94 then (bif Nat.ble i 93 then (175, .aload_n 0, 0, 0, 0, []) else (176, .getfield 84, 17, 7, 0, [])) else (bif Nat.ble i 95 then (179, .isub, 0, 0, 0, []) else (180, .ireturn, 0, 0, 0, [])))) else (bif Nat.ble i 100 then (bif Nat.ble i 98 then (bif Nat.ble i 97 then (181, .aload_n 0, 0, 0, 0, []) else (182, .iconst 0, 0, 0, 0, [])) else (bif Nat.ble i 99 then (183, .putfield 149, 9, 7, 0, []) else (186, .iconst 0, 0, 0, 0, []))) else (bif Nat.ble i 102 then (bif Nat.ble i 101 then (187, .istore_n 2, 0, 0, 0, []) else (188, .iload_n 2, 0, 0, 0, [])) else (bif Nat.ble i 103 then (189, .bipush 52, 0, 0, 52, []) else (191, .if_icmp .ge 21, 115, 0, 0, []))))) else (bif Nat.ble i 111 then (bif Nat.ble i 107 then (bif Nat.ble i 105 then (194, .aload_n 0, 0, 0, 0, []) else (bif Nat.ble i 106 then (195, .getfield 19, 5, 7, 0, []) else (198, .iload_n 2, 0, 0, 0, []))) else (bif Nat.ble i 109 then (bif Nat.ble i 108 then (199, .aload_n 0, 0, 0, 0, []) else (200, .getfield 22, 6, 7, 0, [])) else (bif Nat.ble i 110 then (203, .iload_n 2, 0, 0, 0, []) else (204, .iaload, 0, 0, 0, [])))) else (bif Nat.ble i 115 then (bif Nat.ble i 113 then (bif Nat.ble i 112 then (205, .iastore, 0, 0, 0, []) else (206, .iinc 2 1, 0, 0, 1, [])) else (bif Nat.ble i 114 then (209, .goto (-21), 102, 0, 0, []) else (212, .aload_n 0, 0, 0, 0, []))) else (bif Nat.ble i 117 then (bif Nat.ble i 116 then (213, .getfield 19, 5, 7, 0, []) else (216, .iconst 2, 0, 0, 2, [])) else (bif Nat.ble i 118 then (217, .iaload, 0, 0, 0, []) else (218, .ireturn, 0, 0, 0, []))))))))
/-- GridQuarrelsModel.isThere()Z -/
def cd178 : Nat → mmE := fun i => (bif Nat.ble i 3 then (bif Nat.ble i 1 then (bif Nat.ble i 0 then (0, .aload_n 0, 0, 0, 0, []) else (1, .getfield 19, 5, 7, 0, [])) else (bif Nat.ble i 2 then (4, .iconst 0, 0, 0, 0, []) else (5, .iaload, 0, 0, 0, []))) else (bif Nat.ble i 5 then (bif Nat.ble i 4 then (6, .ifCond .le 7, 7, 0, 0, []) else (9, .iconst 1, 0, 0, 1, [])) else (bif Nat.ble i 6 then (10, .goto 4, 8, 0, 0, []) else (bif Nat.ble i 7 then (13, .iconst 0, 0, 0, 0, []) else (14, .ireturn, 0, 0, 0, [])))))
/-- GridQuarrelsModel.isParish(I)Z -/
def cd179 : Nat → mmE := fun i => (bif Nat.ble i 5 then (bif Nat.ble i 2 then (bif Nat.ble i 0 then (0, .iload_n 1, 0, 0, 0, []) else (bif Nat.ble i 1 then (1, .i2l, 0, 0, 0, []) else (2, .lconst 0, 0, 0, 0, []))) else (bif Nat.ble i 3 then (3, .aload_n 0, 0, 0, 0, []) else (bif Nat.ble i 4 then (4, .getfield 19, 5, 7, 0, []) else (7, .iconst 0, 0, 0, 0, [])))) else (bif Nat.ble i 8 then (bif Nat.ble i 6 then (8, .iaload, 0, 0, 0, []) else (bif Nat.ble i 7 then (9, .iconst 1, 0, 0, 1, []) else (10, .isub, 0, 0, 0, []))) else (bif Nat.ble i 9 then (11, .i2l, 0, 0, 0, []) else (bif Nat.ble i 10 then (12, .invokestatic 57, 156, 3, 0, []) else (15, .ireturn, 0, 0, 0, [])))))
/-- GridQuarrelsModel.isRoad(I)Z -/
def cd180 : Nat → mmE := fun i => (bif Nat.ble i 5 then (bif Nat.ble i 2 then (bif Nat.ble i 0 then (0, .iload_n 1, 0, 0, 0, []) else (bif Nat.ble i 1 then (1, .i2l, 0, 0, 0, []) else (2, .lconst 0, 0, 0, 0, []))) else (bif Nat.ble i 3 then (3, .aload_n 0, 0, 0, 0, []) else (bif Nat.ble i 4 then (4, .getfield 19, 5, 7, 0, []) else (7, .iconst 1, 0, 0, 1, [])))) else (bif Nat.ble i 8 then (bif Nat.ble i 6 then (8, .iaload, 0, 0, 0, []) else (bif Nat.ble i 7 then (9, .iconst 1, 0, 0, 1, []) else (10, .isub, 0, 0, 0, []))) else (bif Nat.ble i 9 then (11, .i2l, 0, 0, 0, []) else (bif Nat.ble i 10 then (12, .invokestatic 57, 156, 3, 0, []) else (15, .ireturn, 0, 0, 0, [])))))
/-- GridQuarrelsModel.isQuarrel(I)Z -/
def cd181 : Nat → mmE := fun i => (bif Nat.ble i 5 then (bif Nat.ble i 2 then (bif Nat.ble i 0 then (0, .iload_n 1, 0, 0, 0, []) else (bif Nat.ble i 1 then (1, .i2l, 0, 0, 0, []) else (2, .lconst 0, 0, 0, 0, []))) else (bif Nat.ble i 3 then (3, .aload_n 0, 0, 0, 0, []) else (bif Nat.ble i 4 then (4, .getfield 19, 5, 7, 0, []) else (7, .iconst 2, 0, 0, 2, [])))) else (bif Nat.ble i 8 then (bif Nat.ble i 6 then (8, .iaload, 0, 0, 0, []) else (bif Nat.ble i 7 then (9, .iconst 1, 0, 0, 1, []) else (10, .isub, 0, 0, 0, []))) else (bif Nat.ble i 9 then (11, .i2l, 0, 0, 0, []) else (bif Nat.ble i 10 then (12, .invokestatic 57, 156, 3, 0, []) else (15, .ireturn, 0, 0, 0, [])))))
/-- GridQuarrelsModel.bits(I)I -/
def cd182 : Nat → mmE := fun i => (bif Nat.ble i 8 then (bif Nat.ble i 3 then (bif Nat.ble i 1 then (bif Nat.ble i 0 then (0, .iconst 0, 0, 0, 0, []) else (1, .istore_n 1, 0, 0, 0, [])) else (bif Nat.ble i 2 then (2, .iconst 0, 0, 0, 0, []) else (3, .istore_n 2, 0, 0, 0, []))) else (bif Nat.ble i 5 then (bif Nat.ble i 4 then (4, .iload_n 2, 0, 0, 0, []) else (5, .bipush 7, 0, 0, 7, [])) else (bif Nat.ble i 6 then (7, .if_icmp .ge 17, 17, 0, 0, []) else (bif Nat.ble i 7 then (10, .iload_n 1, 0, 0, 0, []) else (11, .iload_n 0, 0, 0, 0, []))))) else (bif Nat.ble i 13 then (bif Nat.ble i 10 then (bif Nat.ble i 9 then (12, .iload_n 2, 0, 0, 0, []) else (13, .ishr, 0, 0, 0, [])) else (bif Nat.ble i 11 then (14, .iconst 1, 0, 0, 1, []) else (bif Nat.ble i 12 then (15, .iand, 0, 0, 0, []) else (16, .iadd, 0, 0, 0, [])))) else (bif Nat.ble i 15 then (bif Nat.ble i 14 then (17, .istore_n 1, 0, 0, 0, []) else (18, .iinc 2 1, 0, 0, 1, [])) else (bif Nat.ble i 16 then (21, .goto (-17), 4, 0, 0, []) else (bif Nat.ble i 17 then (24, .iload_n 1, 0, 0, 0, []) else (25, .ireturn, 0, 0, 0, []))))))
/-- GridQuarrelsModel.has(II)Z -/
def cd183 : Nat → mmE := fun i => (bif Nat.ble i 4 then (bif Nat.ble i 1 then (bif Nat.ble i 0 then (0, .iload_n 0, 0, 0, 0, []) else (1, .iload_n 1, 0, 0, 0, [])) else (bif Nat.ble i 2 then (2, .ishr, 0, 0, 0, []) else (bif Nat.ble i 3 then (3, .iconst 1, 0, 0, 1, []) else (4, .iand, 0, 0, 0, [])))) else (bif Nat.ble i 7 then (bif Nat.ble i 5 then (5, .iconst 1, 0, 0, 1, []) else (bif Nat.ble i 6 then (6, .if_icmp .ne 7, 9, 0, 0, []) else (9, .iconst 1, 0, 0, 1, []))) else (bif Nat.ble i 8 then (10, .goto 4, 10, 0, 0, []) else (bif Nat.ble i 9 then (13, .iconst 0, 0, 0, 0, []) else (14, .ireturn, 0, 0, 0, [])))))
/-- GridQuarrelsModel.of([III)I -/
def cd184 : Nat → mmE := fun i => (bif Nat.ble i 4 then (bif Nat.ble i 1 then (bif Nat.ble i 0 then (0, .aload_n 0, 0, 0, 0, []) else (1, .bipush 32, 0, 0, 32, [])) else (bif Nat.ble i 2 then (3, .iconst 4, 0, 0, 4, []) else (bif Nat.ble i 3 then (4, .iload_n 1, 0, 0, 0, []) else (5, .imul, 0, 0, 0, [])))) else (bif Nat.ble i 6 then (bif Nat.ble i 5 then (6, .iadd, 0, 0, 0, []) else (7, .iload_n 2, 0, 0, 0, [])) else (bif Nat.ble i 7 then (8, .iadd, 0, 0, 0, []) else (bif Nat.ble i 8 then (9, .iaload, 0, 0, 0, []) else (10, .ireturn, 0, 0, 0, [])))))
/-- GridQuarrelsModel.its([III)I -/
def cd185 : Nat → mmE := fun i => (bif Nat.ble i 4 then (bif Nat.ble i 1 then (bif Nat.ble i 0 then (0, .aload_n 0, 0, 0, 0, []) else (1, .bipush 11, 0, 0, 11, [])) else (bif Nat.ble i 2 then (3, .iconst 3, 0, 0, 3, []) else (bif Nat.ble i 3 then (4, .iload_n 1, 0, 0, 0, []) else (5, .imul, 0, 0, 0, [])))) else (bif Nat.ble i 6 then (bif Nat.ble i 5 then (6, .iadd, 0, 0, 0, []) else (7, .iload_n 2, 0, 0, 0, [])) else (bif Nat.ble i 7 then (8, .iadd, 0, 0, 0, []) else (bif Nat.ble i 8 then (9, .iaload, 0, 0, 0, []) else (10, .ireturn, 0, 0, 0, [])))))
/-- GridQuarrelsModel.isAlive([II)Z -/
def cd186 : Nat → mmE := fun i => (bif Nat.ble i 3 then (bif Nat.ble i 1 then (bif Nat.ble i 0 then (0, .aload_n 0, 0, 0, 0, []) else (1, .iload_n 1, 0, 0, 0, [])) else (bif Nat.ble i 2 then (2, .iconst 2, 0, 0, 2, []) else (3, .invokestatic 152, 184, 3, 0, []))) else (bif Nat.ble i 5 then (bif Nat.ble i 4 then (6, .ifCond .le 7, 7, 0, 0, []) else (9, .iconst 1, 0, 0, 1, [])) else (bif Nat.ble i 6 then (10, .goto 4, 8, 0, 0, []) else (bif Nat.ble i 7 then (13, .iconst 0, 0, 0, 0, []) else (14, .ireturn, 0, 0, 0, [])))))
/-- GridQuarrelsModel.isIn([III)Z -/
def cd187 : Nat → mmE := fun i => (bif Nat.ble i 6 then (bif Nat.ble i 2 then (bif Nat.ble i 0 then (0, .aload_n 0, 0, 0, 0, []) else (bif Nat.ble i 1 then (1, .iload_n 1, 0, 0, 0, []) else (2, .invokestatic 156, 186, 2, 0, []))) else (bif Nat.ble i 4 then (bif Nat.ble i 3 then (5, .ifCond .eq 17, 12, 0, 0, []) else (8, .aload_n 0, 0, 0, 0, [])) else (bif Nat.ble i 5 then (9, .iload_n 1, 0, 0, 0, []) else (10, .iconst 1, 0, 0, 1, [])))) else (bif Nat.ble i 9 then (bif Nat.ble i 7 then (11, .invokestatic 152, 184, 3, 0, []) else (bif Nat.ble i 8 then (14, .iload_n 2, 0, 0, 0, []) else (15, .if_icmp .ne 7, 12, 0, 0, []))) else (bif Nat.ble i 11 then (bif Nat.ble i 10 then (18, .iconst 1, 0, 0, 1, []) else (19, .goto 4, 13, 0, 0, [])) else (bif Nat.ble i 12 then (22, .iconst 0, 0, 0, 0, []) else (23, .ireturn, 0, 0, 0, [])))))
/-- GridQuarrelsModel.crosses([III)Z -/
def cd188 : Nat → mmE := fun i => (bif Nat.ble i 17 then (bif Nat.ble i 8 then (bif Nat.ble i 3 then (bif Nat.ble i 1 then (bif Nat.ble i 0 then (0, .aload_n 0, 0, 0, 0, []) else (1, .iload_n 2, 0, 0, 0, [])) else (bif Nat.ble i 2 then (2, .iconst 2, 0, 0, 2, []) else (3, .invokestatic 160, 185, 3, 0, []))) else (bif Nat.ble i 5 then (bif Nat.ble i 4 then (6, .istore_n 3, 0, 0, 0, []) else (7, .aload_n 0, 0, 0, 0, [])) else (bif Nat.ble i 6 then (8, .iload_n 1, 0, 0, 0, []) else (bif Nat.ble i 7 then (9, .iconst 2, 0, 0, 2, []) else (10, .invokestatic 152, 184, 3, 0, []))))) else (bif Nat.ble i 12 then (bif Nat.ble i 10 then (bif Nat.ble i 9 then (13, .istore 4, 0, 0, 0, []) else (15, .aload_n 0, 0, 0, 0, [])) else (bif Nat.ble i 11 then (16, .iload_n 1, 0, 0, 0, []) else (17, .iconst 0, 0, 0, 0, []))) else (bif Nat.ble i 14 then (bif Nat.ble i 13 then (18, .invokestatic 152, 184, 3, 0, []) else (21, .lookupswitch 51 #[(2, 27), (3, 41)], 30, 0, 0, [(2, 15), (3, 24)])) else (bif Nat.ble i 15 then (48, .iload_n 3, 0, 0, 0, []) else (bif Nat.ble i 16 then (49, .iload 4, 0, 0, 0, []) else (51, .iconst 3, 0, 0, 3, [])))))) else (bif Nat.ble i 26 then (bif Nat.ble i 21 then (bif Nat.ble i 19 then (bif Nat.ble i 18 then (52, .iadd, 0, 0, 0, []) else (53, .if_icmp .ge 7, 22, 0, 0, [])) else (bif Nat.ble i 20 then (56, .iconst 1, 0, 0, 1, []) else (57, .goto 4, 23, 0, 0, []))) else (bif Nat.ble i 23 then (bif Nat.ble i 22 then (60, .iconst 0, 0, 0, 0, []) else (61, .ireturn, 0, 0, 0, [])) else (bif Nat.ble i 24 then (62, .iload_n 3, 0, 0, 0, []) else (bif Nat.ble i 25 then (63, .ifCond .ne 7, 28, 0, 0, []) else (66, .iconst 1, 0, 0, 1, []))))) else (bif Nat.ble i 31 then (bif Nat.ble i 28 then (bif Nat.ble i 27 then (67, .goto 4, 29, 0, 0, []) else (70, .iconst 0, 0, 0, 0, [])) else (bif Nat.ble i 29 then (71, .ireturn, 0, 0, 0, []) else (bif Nat.ble i 30 then (72, .iload_n 3, 0, 0, 0, []) else (73, .iload 4, 0, 0, 0, [])))) else (bif Nat.ble i 33 then (bif Nat.ble i 32 then (75, .if_icmp .ge 7, 35, 0, 0, []) else (78, .iconst 1, 0, 0, 1, [])) else (bif Nat.ble i 34 then (79, .goto 4, 36, 0, 0, []) else (bif Nat.ble i 35 then (82, .iconst 0, 0, 0, 0, []) else (83, .ireturn, 0, 0, 0, [])))))))
/-- GridQuarrelsModel.beyond([III)I -/
def cd189 : Nat → mmE := fun i => (bif Nat.ble i 11 then (bif Nat.ble i 5 then (bif Nat.ble i 2 then (bif Nat.ble i 0 then (0, .aload_n 0, 0, 0, 0, []) else (bif Nat.ble i 1 then (1, .iload_n 1, 0, 0, 0, []) else (2, .iconst 0, 0, 0, 0, []))) else (bif Nat.ble i 3 then (3, .invokestatic 160, 185, 3, 0, []) else (bif Nat.ble i 4 then (6, .iload_n 2, 0, 0, 0, []) else (7, .if_icmp .ne 12, 11, 0, 0, [])))) else (bif Nat.ble i 8 then (bif Nat.ble i 6 then (10, .aload_n 0, 0, 0, 0, []) else (bif Nat.ble i 7 then (11, .iload_n 1, 0, 0, 0, []) else (12, .iconst 1, 0, 0, 1, []))) else (bif Nat.ble i 9 then (13, .invokestatic 160, 185, 3, 0, []) else (bif Nat.ble i 10 then (16, .goto 24, 23, 0, 0, []) else (19, .aload_n 0, 0, 0, 0, []))))) else (bif Nat.ble i 17 then (bif Nat.ble i 14 then (bif Nat.ble i 12 then (20, .iload_n 1, 0, 0, 0, []) else (bif Nat.ble i 13 then (21, .iconst 1, 0, 0, 1, []) else (22, .invokestatic 160, 185, 3, 0, []))) else (bif Nat.ble i 15 then (25, .iload_n 2, 0, 0, 0, []) else (bif Nat.ble i 16 then (26, .if_icmp .ne 12, 22, 0, 0, []) else (29, .aload_n 0, 0, 0, 0, [])))) else (bif Nat.ble i 20 then (bif Nat.ble i 18 then (30, .iload_n 1, 0, 0, 0, []) else (bif Nat.ble i 19 then (31, .iconst 0, 0, 0, 0, []) else (32, .invokestatic 160, 185, 3, 0, []))) else (bif Nat.ble i 21 then (35, .goto 5, 23, 0, 0, []) else (bif Nat.ble i 22 then (38, .ldc 90, 0, 0, (-1000000), []) else (40, .ireturn, 0, 0, 0, []))))))
/-- GridQuarrelsModel.goes([II)I -/
def cd190 : Nat → mmE := fun i => (bif Nat.ble i 31 then (bif Nat.ble i 15 then (bif Nat.ble i 7 then (bif Nat.ble i 3 then (bif Nat.ble i 1 then (bif Nat.ble i 0 then (0, .aload_n 0, 0, 0, 0, []) else (1, .iload_n 1, 0, 0, 0, [])) else (bif Nat.ble i 2 then (2, .iconst 1, 0, 0, 1, []) else (3, .invokestatic 152, 184, 3, 0, []))) else (bif Nat.ble i 5 then (bif Nat.ble i 4 then (6, .istore_n 2, 0, 0, 0, []) else (7, .aload_n 0, 0, 0, 0, [])) else (bif Nat.ble i 6 then (8, .iload_n 1, 0, 0, 0, []) else (9, .invokestatic 156, 186, 2, 0, [])))) else (bif Nat.ble i 11 then (bif Nat.ble i 9 then (bif Nat.ble i 8 then (12, .ifCond .eq 21, 21, 0, 0, []) else (15, .aload_n 0, 0, 0, 0, [])) else (bif Nat.ble i 10 then (16, .iload_n 1, 0, 0, 0, []) else (17, .iconst 0, 0, 0, 0, []))) else (bif Nat.ble i 13 then (bif Nat.ble i 12 then (18, .invokestatic 152, 184, 3, 0, []) else (21, .iconst 4, 0, 0, 4, [])) else (bif Nat.ble i 14 then (22, .if_icmp .lt 13, 23, 0, 0, []) else (25, .aload_n 0, 0, 0, 0, []))))) else (bif Nat.ble i 23 then (bif Nat.ble i 19 then (bif Nat.ble i 17 then (bif Nat.ble i 16 then (26, .iconst 4, 0, 0, 4, []) else (27, .iload_n 2, 0, 0, 0, [])) else (bif Nat.ble i 18 then (28, .iadd, 0, 0, 0, []) else (29, .iaload, 0, 0, 0, []))) else (bif Nat.ble i 21 then (bif Nat.ble i 20 then (30, .ifCond .le 5, 23, 0, 0, []) else (33, .iload_n 2, 0, 0, 0, [])) else (bif Nat.ble i 22 then (34, .ireturn, 0, 0, 0, []) else (35, .iload_n 2, 0, 0, 0, [])))) else (bif Nat.ble i 27 then (bif Nat.ble i 25 then (bif Nat.ble i 24 then (36, .istore_n 3, 0, 0, 0, []) else (37, .iconst 0, 0, 0, 0, [])) else (bif Nat.ble i 26 then (38, .istore 4, 0, 0, 0, []) else (40, .iload 4, 0, 0, 0, []))) else (bif Nat.ble i 29 then (bif Nat.ble i 28 then (42, .aload_n 0, 0, 0, 0, []) else (43, .iconst 1, 0, 0, 1, [])) else (bif Nat.ble i 30 then (44, .iaload, 0, 0, 0, []) else (45, .if_icmp .ge 56, 62, 0, 0, [])))))) else (bif Nat.ble i 47 then (bif Nat.ble i 39 then (bif Nat.ble i 35 then (bif Nat.ble i 33 then (bif Nat.ble i 32 then (48, .aload_n 0, 0, 0, 0, []) else (49, .iload 4, 0, 0, 0, [])) else (bif Nat.ble i 34 then (51, .iload_n 2, 0, 0, 0, []) else (52, .invokestatic 163, 189, 3, 0, []))) else (bif Nat.ble i 37 then (bif Nat.ble i 36 then (55, .istore 5, 0, 0, 0, []) else (57, .iload 5, 0, 0, 0, [])) else (bif Nat.ble i 38 then (59, .ldc 90, 0, 0, (-1000000), []) else (61, .if_icmp .eq 32, 58, 0, 0, [])))) else (bif Nat.ble i 43 then (bif Nat.ble i 41 then (bif Nat.ble i 40 then (64, .aload_n 0, 0, 0, 0, []) else (65, .iload_n 1, 0, 0, 0, [])) else (bif Nat.ble i 42 then (66, .iload 4, 0, 0, 0, []) else (68, .invokestatic 166, 188, 3, 0, []))) else (bif Nat.ble i 45 then (bif Nat.ble i 44 then (71, .ifCond .eq 22, 58, 0, 0, []) else (74, .aload_n 0, 0, 0, 0, [])) else (bif Nat.ble i 46 then (75, .iconst 4, 0, 0, 4, []) else (76, .iload 5, 0, 0, 0, []))))) else (bif Nat.ble i 55 then (bif Nat.ble i 51 then (bif Nat.ble i 49 then (bif Nat.ble i 48 then (78, .iadd, 0, 0, 0, []) else (79, .iaload, 0, 0, 0, [])) else (bif Nat.ble i 50 then (80, .aload_n 0, 0, 0, 0, []) else (81, .iconst 4, 0, 0, 4, []))) else (bif Nat.ble i 53 then (bif Nat.ble i 52 then (82, .iload_n 3, 0, 0, 0, []) else (83, .iadd, 0, 0, 0, [])) else (bif Nat.ble i 54 then (84, .iaload, 0, 0, 0, []) else (85, .if_icmp .le 8, 58, 0, 0, [])))) else (bif Nat.ble i 59 then (bif Nat.ble i 57 then (bif Nat.ble i 56 then (88, .iload 5, 0, 0, 0, []) else (90, .goto 4, 59, 0, 0, [])) else (bif Nat.ble i 58 then (93, .iload_n 3, 0, 0, 0, []) else (94, .istore_n 3, 0, 0, 0, []))) else (bif Nat.ble i 61 then (bif Nat.ble i 60 then (95, .iinc 4 1, 0, 0, 1, []) else (98, .goto (-58), 27, 0, 0, [])) else (bif Nat.ble i 62 then (101, .iload_n 3, 0, 0, 0, []) else (102, .ireturn, 0, 0, 0, [])))))))
/-- GridQuarrelsModel.year([I)V -/
def cd191 : Nat → mmE := fun i => (bif Nat.ble i 68 then (bif Nat.ble i 33 then (bif Nat.ble i 16 then (bif Nat.ble i 7 then (bif Nat.ble i 3 then (bif Nat.ble i 1 then (bif Nat.ble i 0 then (0, .aload_n 0, 0, 0, 0, []) else (1, .iconst 0, 0, 0, 0, [])) else (bif Nat.ble i 2 then (2, .putfield 170, 19, 7, 0, []) else (5, .aload_n 0, 0, 0, 0, []))) else (bif Nat.ble i 5 then (bif Nat.ble i 4 then (6, .iconst 0, 0, 0, 0, []) else (7, .putfield 173, 20, 7, 0, [])) else (bif Nat.ble i 6 then (10, .aload_n 0, 0, 0, 0, []) else (11, .iconst 0, 0, 0, 0, [])))) else (bif Nat.ble i 11 then (bif Nat.ble i 9 then (bif Nat.ble i 8 then (12, .putfield 176, 21, 7, 0, []) else (15, .iconst 0, 0, 0, 0, [])) else (bif Nat.ble i 10 then (16, .istore_n 2, 0, 0, 0, []) else (17, .iload_n 2, 0, 0, 0, []))) else (bif Nat.ble i 13 then (bif Nat.ble i 12 then (18, .aload_n 1, 0, 0, 0, []) else (19, .iconst 2, 0, 0, 2, [])) else (bif Nat.ble i 14 then (20, .iaload, 0, 0, 0, []) else (bif Nat.ble i 15 then (21, .if_icmp .ge 184, 131, 0, 0, []) else (24, .aload_n 1, 0, 0, 0, [])))))) else (bif Nat.ble i 24 then (bif Nat.ble i 20 then (bif Nat.ble i 18 then (bif Nat.ble i 17 then (25, .iload_n 2, 0, 0, 0, []) else (26, .invokestatic 156, 186, 2, 0, [])) else (bif Nat.ble i 19 then (29, .ifCond .eq 170, 129, 0, 0, []) else (32, .aload_n 1, 0, 0, 0, []))) else (bif Nat.ble i 22 then (bif Nat.ble i 21 then (33, .iload_n 2, 0, 0, 0, []) else (34, .invokestatic 179, 190, 2, 0, [])) else (bif Nat.ble i 23 then (37, .istore_n 3, 0, 0, 0, []) else (38, .aload_n 0, 0, 0, 0, [])))) else (bif Nat.ble i 28 then (bif Nat.ble i 26 then (bif Nat.ble i 25 then (39, .dup, 0, 0, 0, []) else (40, .getfield 176, 21, 7, 0, [])) else (bif Nat.ble i 27 then (43, .iload_n 3, 0, 0, 0, []) else (44, .aload_n 1, 0, 0, 0, []))) else (bif Nat.ble i 30 then (bif Nat.ble i 29 then (45, .iload_n 2, 0, 0, 0, []) else (46, .iconst 1, 0, 0, 1, [])) else (bif Nat.ble i 31 then (47, .invokestatic 152, 184, 3, 0, []) else (bif Nat.ble i 32 then (50, .if_icmp .eq 7, 35, 0, 0, []) else (53, .iconst 1, 0, 0, 1, []))))))) else (bif Nat.ble i 50 then (bif Nat.ble i 41 then (bif Nat.ble i 37 then (bif Nat.ble i 35 then (bif Nat.ble i 34 then (54, .goto 4, 36, 0, 0, []) else (57, .iconst 0, 0, 0, 0, [])) else (bif Nat.ble i 36 then (58, .iadd, 0, 0, 0, []) else (59, .putfield 176, 21, 7, 0, []))) else (bif Nat.ble i 39 then (bif Nat.ble i 38 then (62, .aload_n 1, 0, 0, 0, []) else (63, .bipush 32, 0, 0, 32, [])) else (bif Nat.ble i 40 then (65, .iconst 4, 0, 0, 4, []) else (66, .iload_n 2, 0, 0, 0, [])))) else (bif Nat.ble i 45 then (bif Nat.ble i 43 then (bif Nat.ble i 42 then (67, .imul, 0, 0, 0, []) else (68, .iadd, 0, 0, 0, [])) else (bif Nat.ble i 44 then (69, .iconst 1, 0, 0, 1, []) else (70, .iadd, 0, 0, 0, []))) else (bif Nat.ble i 47 then (bif Nat.ble i 46 then (71, .iload_n 3, 0, 0, 0, []) else (72, .iastore, 0, 0, 0, [])) else (bif Nat.ble i 48 then (73, .aload_n 1, 0, 0, 0, []) else (bif Nat.ble i 49 then (74, .iload_n 2, 0, 0, 0, []) else (75, .iconst 2, 0, 0, 2, [])))))) else (bif Nat.ble i 59 then (bif Nat.ble i 54 then (bif Nat.ble i 52 then (bif Nat.ble i 51 then (76, .invokestatic 152, 184, 3, 0, []) else (79, .istore 4, 0, 0, 0, [])) else (bif Nat.ble i 53 then (81, .aload_n 1, 0, 0, 0, []) else (82, .iconst 4, 0, 0, 4, []))) else (bif Nat.ble i 56 then (bif Nat.ble i 55 then (83, .iload_n 3, 0, 0, 0, []) else (84, .iadd, 0, 0, 0, [])) else (bif Nat.ble i 57 then (85, .iaload, 0, 0, 0, []) else (bif Nat.ble i 58 then (86, .ifCond .le 75, 104, 0, 0, []) else (89, .aload_n 1, 0, 0, 0, []))))) else (bif Nat.ble i 63 then (bif Nat.ble i 61 then (bif Nat.ble i 60 then (90, .iconst 4, 0, 0, 4, []) else (91, .iload_n 3, 0, 0, 0, [])) else (bif Nat.ble i 62 then (92, .iadd, 0, 0, 0, []) else (93, .dup2, 0, 0, 0, []))) else (bif Nat.ble i 65 then (bif Nat.ble i 64 then (94, .iaload, 0, 0, 0, []) else (95, .iconst 1, 0, 0, 1, [])) else (bif Nat.ble i 66 then (96, .isub, 0, 0, 0, []) else (bif Nat.ble i 67 then (97, .iastore, 0, 0, 0, []) else (98, .aload_n 0, 0, 0, 0, [])))))))) else (bif Nat.ble i 103 then (bif Nat.ble i 85 then (bif Nat.ble i 76 then (bif Nat.ble i 72 then (bif Nat.ble i 70 then (bif Nat.ble i 69 then (99, .dup, 0, 0, 0, []) else (100, .getfield 170, 19, 7, 0, [])) else (bif Nat.ble i 71 then (103, .iconst 1, 0, 0, 1, []) else (104, .iload_n 2, 0, 0, 0, []))) else (bif Nat.ble i 74 then (bif Nat.ble i 73 then (105, .ishl, 0, 0, 0, []) else (106, .ior, 0, 0, 0, [])) else (bif Nat.ble i 75 then (107, .putfield 170, 19, 7, 0, []) else (110, .aload_n 0, 0, 0, 0, [])))) else (bif Nat.ble i 80 then (bif Nat.ble i 78 then (bif Nat.ble i 77 then (111, .dup, 0, 0, 0, []) else (112, .getfield 173, 20, 7, 0, [])) else (bif Nat.ble i 79 then (115, .iconst 1, 0, 0, 1, []) else (116, .iload_n 3, 0, 0, 0, []))) else (bif Nat.ble i 82 then (bif Nat.ble i 81 then (117, .ishl, 0, 0, 0, []) else (118, .ior, 0, 0, 0, [])) else (bif Nat.ble i 83 then (119, .putfield 173, 20, 7, 0, []) else (bif Nat.ble i 84 then (122, .iload 4, 0, 0, 0, []) else (124, .aload_n 1, 0, 0, 0, [])))))) else (bif Nat.ble i 94 then (bif Nat.ble i 89 then (bif Nat.ble i 87 then (bif Nat.ble i 86 then (125, .iload_n 2, 0, 0, 0, []) else (126, .iconst 0, 0, 0, 0, [])) else (bif Nat.ble i 88 then (127, .invokestatic 152, 184, 3, 0, []) else (130, .iconst 3, 0, 0, 3, []))) else (bif Nat.ble i 91 then (bif Nat.ble i 90 then (131, .if_icmp .ne 7, 93, 0, 0, []) else (134, .iconst 2, 0, 0, 2, [])) else (bif Nat.ble i 92 then (135, .goto 4, 94, 0, 0, []) else (bif Nat.ble i 93 then (138, .iconst 1, 0, 0, 1, []) else (139, .iadd, 0, 0, 0, []))))) else (bif Nat.ble i 98 then (bif Nat.ble i 96 then (bif Nat.ble i 95 then (140, .istore 4, 0, 0, 0, []) else (142, .iload 4, 0, 0, 0, [])) else (bif Nat.ble i 97 then (144, .bipush 9, 0, 0, 9, []) else (146, .if_icmp .le 8, 101, 0, 0, []))) else (bif Nat.ble i 100 then (bif Nat.ble i 99 then (149, .bipush 9, 0, 0, 9, []) else (151, .goto 5, 102, 0, 0, [])) else (bif Nat.ble i 101 then (154, .iload 4, 0, 0, 0, []) else (bif Nat.ble i 102 then (156, .istore 4, 0, 0, 0, []) else (158, .goto 29, 119, 0, 0, []))))))) else (bif Nat.ble i 120 then (bif Nat.ble i 111 then (bif Nat.ble i 107 then (bif Nat.ble i 105 then (bif Nat.ble i 104 then (161, .iload 4, 0, 0, 0, []) else (163, .aload_n 1, 0, 0, 0, [])) else (bif Nat.ble i 106 then (164, .iload_n 2, 0, 0, 0, []) else (165, .iconst 0, 0, 0, 0, []))) else (bif Nat.ble i 109 then (bif Nat.ble i 108 then (166, .invokestatic 152, 184, 3, 0, []) else (169, .iconst 5, 0, 0, 5, [])) else (bif Nat.ble i 110 then (170, .if_icmp .ne 13, 116, 0, 0, []) else (173, .iload 4, 0, 0, 0, [])))) else (bif Nat.ble i 115 then (bif Nat.ble i 113 then (bif Nat.ble i 112 then (175, .iconst 1, 0, 0, 1, []) else (176, .if_icmp .ne 7, 116, 0, 0, [])) else (bif Nat.ble i 114 then (179, .iconst 0, 0, 0, 0, []) else (180, .goto 4, 117, 0, 0, []))) else (bif Nat.ble i 117 then (bif Nat.ble i 116 then (183, .iconst 1, 0, 0, 1, []) else (184, .isub, 0, 0, 0, [])) else (bif Nat.ble i 118 then (185, .istore 4, 0, 0, 0, []) else (bif Nat.ble i 119 then (187, .aload_n 1, 0, 0, 0, []) else (188, .bipush 32, 0, 0, 32, [])))))) else (bif Nat.ble i 129 then (bif Nat.ble i 124 then (bif Nat.ble i 122 then (bif Nat.ble i 121 then (190, .iconst 4, 0, 0, 4, []) else (191, .iload_n 2, 0, 0, 0, [])) else (bif Nat.ble i 123 then (192, .imul, 0, 0, 0, []) else (193, .iadd, 0, 0, 0, []))) else (bif Nat.ble i 126 then (bif Nat.ble i 125 then (194, .iconst 2, 0, 0, 2, []) else (195, .iadd, 0, 0, 0, [])) else (bif Nat.ble i 127 then (196, .iload 4, 0, 0, 0, []) else (bif Nat.ble i 128 then (198, .iastore, 0, 0, 0, []) else (199, .iinc 2 1, 0, 0, 1, []))))) else (bif Nat.ble i 133 then (bif Nat.ble i 131 then (bif Nat.ble i 130 then (202, .goto (-185), 11, 0, 0, []) else (205, .aload_n 1, 0, 0, 0, [])) else (bif Nat.ble i 132 then (206, .iconst 3, 0, 0, 3, []) else (207, .dup2, 0, 0, 0, []))) else (bif Nat.ble i 135 then (bif Nat.ble i 134 then (208, .iaload, 0, 0, 0, []) else (209, .iconst 1, 0, 0, 1, [])) else (bif Nat.ble i 136 then (210, .iadd, 0, 0, 0, []) else (bif Nat.ble i 137 then (211, .iastore, 0, 0, 0, []) else (212, .return_, 0, 0, 0, [])))))))))
/-- GridQuarrelsModel.yearsOf([II)V -/
def cd192 : Nat → mmE := fun i => (bif Nat.ble i 4 then (bif Nat.ble i 1 then (bif Nat.ble i 0 then (0, .iconst 0, 0, 0, 0, []) else (1, .istore_n 3, 0, 0, 0, [])) else (bif Nat.ble i 2 then (2, .iload_n 3, 0, 0, 0, []) else (bif Nat.ble i 3 then (3, .iload_n 2, 0, 0, 0, []) else (4, .if_icmp .ge 14, 10, 0, 0, [])))) else (bif Nat.ble i 7 then (bif Nat.ble i 5 then (7, .aload_n 0, 0, 0, 0, []) else (bif Nat.ble i 6 then (8, .aload_n 1, 0, 0, 0, []) else (9, .invokevirtual 183, 191, 2, 0, []))) else (bif Nat.ble i 8 then (12, .iinc 3 1, 0, 0, 1, []) else (bif Nat.ble i 9 then (15, .goto (-13), 2, 0, 0, []) else (18, .return_, 0, 0, 0, [])))))
/-- GridQuarrelsModel.layThen()V -/
def cd193 : Nat → mmE := fun i => (bif Nat.ble i 7 then (bif Nat.ble i 3 then (bif Nat.ble i 1 then (bif Nat.ble i 0 then (0, .iconst 0, 0, 0, 0, []) else (1, .istore_n 1, 0, 0, 0, [])) else (bif Nat.ble i 2 then (2, .iload_n 1, 0, 0, 0, []) else (3, .bipush 52, 0, 0, 52, []))) else (bif Nat.ble i 5 then (bif Nat.ble i 4 then (5, .if_icmp .ge 21, 15, 0, 0, []) else (8, .aload_n 0, 0, 0, 0, [])) else (bif Nat.ble i 6 then (9, .getfield 25, 7, 7, 0, []) else (12, .iload_n 1, 0, 0, 0, [])))) else (bif Nat.ble i 11 then (bif Nat.ble i 9 then (bif Nat.ble i 8 then (13, .aload_n 0, 0, 0, 0, []) else (14, .getfield 19, 5, 7, 0, [])) else (bif Nat.ble i 10 then (17, .iload_n 1, 0, 0, 0, []) else (18, .iaload, 0, 0, 0, []))) else (bif Nat.ble i 13 then (bif Nat.ble i 12 then (19, .iastore, 0, 0, 0, []) else (20, .iinc 1 1, 0, 0, 1, [])) else (bif Nat.ble i 14 then (23, .goto (-21), 2, 0, 0, []) else (26, .return_, 0, 0, 0, [])))))
/-- GridQuarrelsModel.alive([I)I -/
def cd194 : Nat → mmE := fun i => (bif Nat.ble i 10 then (bif Nat.ble i 4 then (bif Nat.ble i 1 then (bif Nat.ble i 0 then (0, .iconst 0, 0, 0, 0, []) else (1, .istore_n 1, 0, 0, 0, [])) else (bif Nat.ble i 2 then (2, .iconst 0, 0, 0, 0, []) else (bif Nat.ble i 3 then (3, .istore_n 2, 0, 0, 0, []) else (4, .iload_n 2, 0, 0, 0, [])))) else (bif Nat.ble i 7 then (bif Nat.ble i 5 then (5, .aload_n 0, 0, 0, 0, []) else (bif Nat.ble i 6 then (6, .iconst 2, 0, 0, 2, []) else (7, .iaload, 0, 0, 0, []))) else (bif Nat.ble i 8 then (8, .if_icmp .ge 25, 21, 0, 0, []) else (bif Nat.ble i 9 then (11, .iload_n 1, 0, 0, 0, []) else (12, .aload_n 0, 0, 0, 0, []))))) else (bif Nat.ble i 16 then (bif Nat.ble i 13 then (bif Nat.ble i 11 then (13, .iload_n 2, 0, 0, 0, []) else (bif Nat.ble i 12 then (14, .invokestatic 156, 186, 2, 0, []) else (17, .ifCond .eq 7, 16, 0, 0, []))) else (bif Nat.ble i 14 then (20, .iconst 1, 0, 0, 1, []) else (bif Nat.ble i 15 then (21, .goto 4, 17, 0, 0, []) else (24, .iconst 0, 0, 0, 0, [])))) else (bif Nat.ble i 19 then (bif Nat.ble i 17 then (25, .iadd, 0, 0, 0, []) else (bif Nat.ble i 18 then (26, .istore_n 1, 0, 0, 0, []) else (27, .iinc 2 1, 0, 0, 1, []))) else (bif Nat.ble i 20 then (30, .goto (-26), 4, 0, 0, []) else (bif Nat.ble i 21 then (33, .iload_n 1, 0, 0, 0, []) else (34, .ireturn, 0, 0, 0, []))))))
/-- GridQuarrelsModel.puts([III)V -/
def cd195 : Nat → mmE := fun i => (bif Nat.ble i 9 then (bif Nat.ble i 4 then (bif Nat.ble i 1 then (bif Nat.ble i 0 then (0, .aload_n 0, 0, 0, 0, []) else (1, .iconst 4, 0, 0, 4, [])) else (bif Nat.ble i 2 then (2, .iload_n 1, 0, 0, 0, []) else (bif Nat.ble i 3 then (3, .iadd, 0, 0, 0, []) else (4, .iaload, 0, 0, 0, [])))) else (bif Nat.ble i 6 then (bif Nat.ble i 5 then (5, .iload_n 2, 0, 0, 0, []) else (6, .iadd, 0, 0, 0, [])) else (bif Nat.ble i 7 then (7, .istore_n 3, 0, 0, 0, []) else (bif Nat.ble i 8 then (8, .aload_n 0, 0, 0, 0, []) else (9, .iconst 4, 0, 0, 4, []))))) else (bif Nat.ble i 14 then (bif Nat.ble i 11 then (bif Nat.ble i 10 then (10, .iload_n 1, 0, 0, 0, []) else (11, .iadd, 0, 0, 0, [])) else (bif Nat.ble i 12 then (12, .iload_n 3, 0, 0, 0, []) else (bif Nat.ble i 13 then (13, .bipush 99, 0, 0, 99, []) else (15, .if_icmp .le 8, 17, 0, 0, [])))) else (bif Nat.ble i 16 then (bif Nat.ble i 15 then (18, .bipush 99, 0, 0, 99, []) else (20, .goto 4, 18, 0, 0, [])) else (bif Nat.ble i 17 then (23, .iload_n 3, 0, 0, 0, []) else (bif Nat.ble i 18 then (24, .iastore, 0, 0, 0, []) else (25, .return_, 0, 0, 0, []))))))
/-- GridQuarrelsModel.keep()V -/
def cd196 : Nat → mmE := fun i => (bif Nat.ble i 26 then (bif Nat.ble i 12 then (bif Nat.ble i 5 then (bif Nat.ble i 2 then (bif Nat.ble i 0 then (0, .aload_n 0, 0, 0, 0, []) else (bif Nat.ble i 1 then (1, .getfield 149, 9, 7, 0, []) else (4, .bipush 24, 0, 0, 24, []))) else (bif Nat.ble i 3 then (6, .if_icmp .ne 43, 27, 0, 0, []) else (bif Nat.ble i 4 then (9, .iconst 0, 0, 0, 0, []) else (10, .istore_n 1, 0, 0, 0, [])))) else (bif Nat.ble i 8 then (bif Nat.ble i 6 then (11, .iload_n 1, 0, 0, 0, []) else (bif Nat.ble i 7 then (12, .sipush 1196, 0, 0, 1196, []) else (15, .if_icmp .ge 24, 21, 0, 0, []))) else (bif Nat.ble i 10 then (bif Nat.ble i 9 then (18, .aload_n 0, 0, 0, 0, []) else (19, .getfield 28, 8, 7, 0, [])) else (bif Nat.ble i 11 then (22, .iload_n 1, 0, 0, 0, []) else (23, .aload_n 0, 0, 0, 0, []))))) else (bif Nat.ble i 19 then (bif Nat.ble i 15 then (bif Nat.ble i 13 then (24, .getfield 28, 8, 7, 0, []) else (bif Nat.ble i 14 then (27, .iload_n 1, 0, 0, 0, []) else (28, .bipush 52, 0, 0, 52, []))) else (bif Nat.ble i 17 then (bif Nat.ble i 16 then (30, .iadd, 0, 0, 0, []) else (31, .iaload, 0, 0, 0, [])) else (bif Nat.ble i 18 then (32, .iastore, 0, 0, 0, []) else (33, .iinc 1 1, 0, 0, 1, [])))) else (bif Nat.ble i 22 then (bif Nat.ble i 20 then (36, .goto (-25), 6, 0, 0, []) else (bif Nat.ble i 21 then (39, .aload_n 0, 0, 0, 0, []) else (40, .dup, 0, 0, 0, []))) else (bif Nat.ble i 24 then (bif Nat.ble i 23 then (41, .getfield 149, 9, 7, 0, []) else (44, .iconst 1, 0, 0, 1, [])) else (bif Nat.ble i 25 then (45, .isub, 0, 0, 0, []) else (46, .putfield 149, 9, 7, 0, [])))))) else (bif Nat.ble i 39 then (bif Nat.ble i 32 then (bif Nat.ble i 29 then (bif Nat.ble i 27 then (49, .iconst 0, 0, 0, 0, []) else (bif Nat.ble i 28 then (50, .istore_n 1, 0, 0, 0, []) else (51, .iload_n 1, 0, 0, 0, []))) else (bif Nat.ble i 30 then (52, .bipush 52, 0, 0, 52, []) else (bif Nat.ble i 31 then (54, .if_icmp .ge 29, 47, 0, 0, []) else (57, .aload_n 0, 0, 0, 0, [])))) else (bif Nat.ble i 35 then (bif Nat.ble i 33 then (58, .getfield 28, 8, 7, 0, []) else (bif Nat.ble i 34 then (61, .bipush 52, 0, 0, 52, []) else (63, .aload_n 0, 0, 0, 0, []))) else (bif Nat.ble i 37 then (bif Nat.ble i 36 then (64, .getfield 149, 9, 7, 0, []) else (67, .imul, 0, 0, 0, [])) else (bif Nat.ble i 38 then (68, .iload_n 1, 0, 0, 0, []) else (69, .iadd, 0, 0, 0, []))))) else (bif Nat.ble i 46 then (bif Nat.ble i 42 then (bif Nat.ble i 40 then (70, .aload_n 0, 0, 0, 0, []) else (bif Nat.ble i 41 then (71, .getfield 19, 5, 7, 0, []) else (74, .iload_n 1, 0, 0, 0, []))) else (bif Nat.ble i 44 then (bif Nat.ble i 43 then (75, .iaload, 0, 0, 0, []) else (76, .iastore, 0, 0, 0, [])) else (bif Nat.ble i 45 then (77, .iinc 1 1, 0, 0, 1, []) else (80, .goto (-29), 29, 0, 0, [])))) else (bif Nat.ble i 49 then (bif Nat.ble i 47 then (83, .aload_n 0, 0, 0, 0, []) else (bif Nat.ble i 48 then (84, .dup, 0, 0, 0, []) else (85, .getfield 149, 9, 7, 0, []))) else (bif Nat.ble i 51 then (bif Nat.ble i 50 then (88, .iconst 1, 0, 0, 1, []) else (89, .iadd, 0, 0, 0, [])) else (bif Nat.ble i 52 then (90, .putfield 149, 9, 7, 0, []) else (93, .return_, 0, 0, 0, [])))))))
/-- GridQuarrelsModel.years(I)I -/
def cd197 : Nat → mmE := fun i => (bif Nat.ble i 20 then (bif Nat.ble i 9 then (bif Nat.ble i 4 then (bif Nat.ble i 1 then (bif Nat.ble i 0 then (0, .aload_n 0, 0, 0, 0, []) else (1, .iconst 0, 0, 0, 0, [])) else (bif Nat.ble i 2 then (2, .putfield 47, 0, 7, 0, []) else (bif Nat.ble i 3 then (5, .aload_n 0, 0, 0, 0, []) else (6, .invokevirtual 187, 178, 1, 0, [])))) else (bif Nat.ble i 6 then (bif Nat.ble i 5 then (9, .ifCond .ne 6, 8, 0, 0, []) else (12, .ldc 190, 0, 0, (-1000002), [])) else (bif Nat.ble i 7 then (14, .ireturn, 0, 0, 0, []) else (bif Nat.ble i 8 then (15, .iload_n 1, 0, 0, 0, []) else (16, .i2l, 0, 0, 0, []))))) else (bif Nat.ble i 14 then (bif Nat.ble i 11 then (bif Nat.ble i 10 then (17, .lconst 1, 0, 0, 1, []) else (18, .ldc2_w 191, 0, 0, 24, [])) else (bif Nat.ble i 12 then (21, .invokestatic 57, 156, 3, 0, []) else (bif Nat.ble i 13 then (24, .ifCond .ne 6, 16, 0, 0, []) else (27, .ldc 67, 0, 0, (-1000001), [])))) else (bif Nat.ble i 17 then (bif Nat.ble i 15 then (29, .ireturn, 0, 0, 0, []) else (bif Nat.ble i 16 then (30, .aload_n 0, 0, 0, 0, []) else (31, .getfield 19, 5, 7, 0, []))) else (bif Nat.ble i 18 then (34, .iconst 3, 0, 0, 3, []) else (bif Nat.ble i 19 then (35, .iaload, 0, 0, 0, []) else (36, .iload_n 1, 0, 0, 0, [])))))) else (bif Nat.ble i 31 then (bif Nat.ble i 25 then (bif Nat.ble i 22 then (bif Nat.ble i 21 then (37, .iadd, 0, 0, 0, []) else (38, .sipush 999, 0, 0, 999, [])) else (bif Nat.ble i 23 then (41, .if_icmp .le 6, 26, 0, 0, []) else (bif Nat.ble i 24 then (44, .ldc 77, 0, 0, (-1000003), []) else (46, .ireturn, 0, 0, 0, [])))) else (bif Nat.ble i 28 then (bif Nat.ble i 26 then (47, .iconst 0, 0, 0, 0, []) else (bif Nat.ble i 27 then (48, .istore_n 2, 0, 0, 0, []) else (49, .iload_n 2, 0, 0, 0, []))) else (bif Nat.ble i 29 then (50, .iload_n 1, 0, 0, 0, []) else (bif Nat.ble i 30 then (51, .if_icmp .ge 21, 39, 0, 0, []) else (54, .aload_n 0, 0, 0, 0, []))))) else (bif Nat.ble i 36 then (bif Nat.ble i 33 then (bif Nat.ble i 32 then (55, .invokevirtual 193, 196, 1, 0, []) else (58, .aload_n 0, 0, 0, 0, [])) else (bif Nat.ble i 34 then (59, .aload_n 0, 0, 0, 0, []) else (bif Nat.ble i 35 then (60, .getfield 19, 5, 7, 0, []) else (63, .invokevirtual 183, 191, 2, 0, [])))) else (bif Nat.ble i 39 then (bif Nat.ble i 37 then (66, .iinc 2 1, 0, 0, 1, []) else (bif Nat.ble i 38 then (69, .goto (-20), 28, 0, 0, []) else (72, .aload_n 0, 0, 0, 0, []))) else (bif Nat.ble i 40 then (73, .getfield 19, 5, 7, 0, []) else (bif Nat.ble i 41 then (76, .invokestatic 196, 194, 1, 0, []) else (79, .ireturn, 0, 0, 0, [])))))))
/-- GridQuarrelsModel.hay(II)I -/
def cd198 : Nat → mmE := fun i => (bif Nat.ble i 13 then (bif Nat.ble i 6 then (bif Nat.ble i 2 then (bif Nat.ble i 0 then (0, .aload_n 0, 0, 0, 0, []) else (bif Nat.ble i 1 then (1, .iconst 0, 0, 0, 0, []) else (2, .putfield 47, 0, 7, 0, []))) else (bif Nat.ble i 4 then (bif Nat.ble i 3 then (5, .aload_n 0, 0, 0, 0, []) else (6, .iload_n 1, 0, 0, 0, [])) else (bif Nat.ble i 5 then (7, .invokevirtual 200, 179, 2, 0, []) else (10, .ifCond .eq 15, 13, 0, 0, [])))) else (bif Nat.ble i 9 then (bif Nat.ble i 7 then (13, .iload_n 2, 0, 0, 0, []) else (bif Nat.ble i 8 then (14, .i2l, 0, 0, 0, []) else (15, .lconst 1, 0, 0, 1, []))) else (bif Nat.ble i 11 then (bif Nat.ble i 10 then (16, .ldc2_w 203, 0, 0, 9, []) else (19, .invokestatic 57, 156, 3, 0, [])) else (bif Nat.ble i 12 then (22, .ifCond .ne 6, 15, 0, 0, []) else (25, .ldc 67, 0, 0, (-1000001), []))))) else (bif Nat.ble i 20 then (bif Nat.ble i 16 then (bif Nat.ble i 14 then (27, .ireturn, 0, 0, 0, []) else (bif Nat.ble i 15 then (28, .aload_n 0, 0, 0, 0, []) else (29, .invokevirtual 193, 196, 1, 0, []))) else (bif Nat.ble i 18 then (bif Nat.ble i 17 then (32, .aload_n 0, 0, 0, 0, []) else (33, .getfield 19, 5, 7, 0, [])) else (bif Nat.ble i 19 then (36, .iload_n 1, 0, 0, 0, []) else (37, .iload_n 2, 0, 0, 0, [])))) else (bif Nat.ble i 24 then (bif Nat.ble i 22 then (bif Nat.ble i 21 then (38, .invokestatic 205, 195, 3, 0, []) else (41, .aload_n 0, 0, 0, 0, [])) else (bif Nat.ble i 23 then (42, .getfield 19, 5, 7, 0, []) else (45, .iconst 4, 0, 0, 4, []))) else (bif Nat.ble i 26 then (bif Nat.ble i 25 then (46, .iload_n 1, 0, 0, 0, []) else (47, .iadd, 0, 0, 0, [])) else (bif Nat.ble i 27 then (48, .iaload, 0, 0, 0, []) else (49, .ireturn, 0, 0, 0, []))))))
/-- GridQuarrelsModel.grid(II)I -/
def cd199 : Nat → mmE := fun i => (bif Nat.ble i 17 then (bif Nat.ble i 8 then (bif Nat.ble i 3 then (bif Nat.ble i 1 then (bif Nat.ble i 0 then (0, .aload_n 0, 0, 0, 0, []) else (1, .iconst 0, 0, 0, 0, [])) else (bif Nat.ble i 2 then (2, .putfield 47, 0, 7, 0, []) else (5, .aload_n 0, 0, 0, 0, []))) else (bif Nat.ble i 5 then (bif Nat.ble i 4 then (6, .iload_n 1, 0, 0, 0, []) else (7, .invokevirtual 209, 180, 2, 0, [])) else (bif Nat.ble i 6 then (10, .ifCond .eq 15, 13, 0, 0, []) else (bif Nat.ble i 7 then (13, .iload_n 2, 0, 0, 0, []) else (14, .i2l, 0, 0, 0, []))))) else (bif Nat.ble i 12 then (bif Nat.ble i 10 then (bif Nat.ble i 9 then (15, .lconst 0, 0, 0, 0, []) else (16, .ldc2_w 203, 0, 0, 9, [])) else (bif Nat.ble i 11 then (19, .invokestatic 57, 156, 3, 0, []) else (22, .ifCond .ne 6, 15, 0, 0, []))) else (bif Nat.ble i 14 then (bif Nat.ble i 13 then (25, .ldc 67, 0, 0, (-1000001), []) else (27, .ireturn, 0, 0, 0, [])) else (bif Nat.ble i 15 then (28, .aload_n 0, 0, 0, 0, []) else (bif Nat.ble i 16 then (29, .invokevirtual 193, 196, 1, 0, []) else (32, .aload_n 0, 0, 0, 0, [])))))) else (bif Nat.ble i 26 then (bif Nat.ble i 21 then (bif Nat.ble i 19 then (bif Nat.ble i 18 then (33, .getfield 19, 5, 7, 0, []) else (36, .iload_n 1, 0, 0, 0, [])) else (bif Nat.ble i 20 then (37, .iconst 2, 0, 0, 2, []) else (38, .invokestatic 160, 185, 3, 0, []))) else (bif Nat.ble i 23 then (bif Nat.ble i 22 then (41, .istore_n 3, 0, 0, 0, []) else (42, .aload_n 0, 0, 0, 0, [])) else (bif Nat.ble i 24 then (43, .getfield 19, 5, 7, 0, []) else (bif Nat.ble i 25 then (46, .bipush 11, 0, 0, 11, []) else (48, .iconst 3, 0, 0, 3, []))))) else (bif Nat.ble i 30 then (bif Nat.ble i 28 then (bif Nat.ble i 27 then (49, .iload_n 1, 0, 0, 0, []) else (50, .imul, 0, 0, 0, [])) else (bif Nat.ble i 29 then (51, .iadd, 0, 0, 0, []) else (52, .iconst 2, 0, 0, 2, []))) else (bif Nat.ble i 32 then (bif Nat.ble i 31 then (53, .iadd, 0, 0, 0, []) else (54, .iload_n 2, 0, 0, 0, [])) else (bif Nat.ble i 33 then (55, .iastore, 0, 0, 0, []) else (bif Nat.ble i 34 then (56, .iload_n 3, 0, 0, 0, []) else (57, .ireturn, 0, 0, 0, [])))))))
/-- GridQuarrelsModel.drive(II)I -/
def cd200 : Nat → mmE := fun i => (bif Nat.ble i 23 then (bif Nat.ble i 11 then (bif Nat.ble i 5 then (bif Nat.ble i 2 then (bif Nat.ble i 0 then (0, .aload_n 0, 0, 0, 0, []) else (bif Nat.ble i 1 then (1, .iconst 0, 0, 0, 0, []) else (2, .putfield 47, 0, 7, 0, []))) else (bif Nat.ble i 3 then (5, .aload_n 0, 0, 0, 0, []) else (bif Nat.ble i 4 then (6, .iload_n 1, 0, 0, 0, []) else (7, .invokevirtual 212, 181, 2, 0, [])))) else (bif Nat.ble i 8 then (bif Nat.ble i 6 then (10, .ifCond .eq 11, 11, 0, 0, []) else (bif Nat.ble i 7 then (13, .aload_n 0, 0, 0, 0, []) else (14, .iload_n 2, 0, 0, 0, []))) else (bif Nat.ble i 9 then (15, .invokevirtual 209, 180, 2, 0, []) else (bif Nat.ble i 10 then (18, .ifCond .ne 6, 13, 0, 0, []) else (21, .ldc 67, 0, 0, (-1000001), []))))) else (bif Nat.ble i 17 then (bif Nat.ble i 14 then (bif Nat.ble i 12 then (23, .ireturn, 0, 0, 0, []) else (bif Nat.ble i 13 then (24, .aload_n 0, 0, 0, 0, []) else (25, .getfield 19, 5, 7, 0, []))) else (bif Nat.ble i 15 then (28, .iload_n 2, 0, 0, 0, []) else (bif Nat.ble i 16 then (29, .aload_n 0, 0, 0, 0, []) else (30, .getfield 19, 5, 7, 0, [])))) else (bif Nat.ble i 20 then (bif Nat.ble i 18 then (33, .iload_n 1, 0, 0, 0, []) else (bif Nat.ble i 19 then (34, .iconst 1, 0, 0, 1, []) else (35, .invokestatic 152, 184, 3, 0, []))) else (bif Nat.ble i 21 then (38, .invokestatic 163, 189, 3, 0, []) else (bif Nat.ble i 22 then (41, .istore_n 3, 0, 0, 0, []) else (42, .aload_n 0, 0, 0, 0, [])))))) else (bif Nat.ble i 35 then (bif Nat.ble i 29 then (bif Nat.ble i 26 then (bif Nat.ble i 24 then (43, .getfield 19, 5, 7, 0, []) else (bif Nat.ble i 25 then (46, .iload_n 1, 0, 0, 0, []) else (47, .invokestatic 156, 186, 2, 0, []))) else (bif Nat.ble i 27 then (50, .ifCond .eq 9, 31, 0, 0, []) else (bif Nat.ble i 28 then (53, .iload_n 3, 0, 0, 0, []) else (54, .ldc 90, 0, 0, (-1000000), [])))) else (bif Nat.ble i 32 then (bif Nat.ble i 30 then (56, .if_icmp .ne 6, 33, 0, 0, []) else (bif Nat.ble i 31 then (59, .ldc 190, 0, 0, (-1000002), []) else (61, .ireturn, 0, 0, 0, []))) else (bif Nat.ble i 33 then (62, .aload_n 0, 0, 0, 0, []) else (bif Nat.ble i 34 then (63, .invokevirtual 193, 196, 1, 0, []) else (66, .aload_n 0, 0, 0, 0, []))))) else (bif Nat.ble i 41 then (bif Nat.ble i 38 then (bif Nat.ble i 36 then (67, .getfield 19, 5, 7, 0, []) else (bif Nat.ble i 37 then (70, .bipush 32, 0, 0, 32, []) else (72, .iconst 4, 0, 0, 4, []))) else (bif Nat.ble i 39 then (73, .iload_n 1, 0, 0, 0, []) else (bif Nat.ble i 40 then (74, .imul, 0, 0, 0, []) else (75, .iadd, 0, 0, 0, [])))) else (bif Nat.ble i 44 then (bif Nat.ble i 42 then (76, .iconst 1, 0, 0, 1, []) else (bif Nat.ble i 43 then (77, .iadd, 0, 0, 0, []) else (78, .iload_n 3, 0, 0, 0, []))) else (bif Nat.ble i 45 then (79, .iastore, 0, 0, 0, []) else (bif Nat.ble i 46 then (80, .iload_n 3, 0, 0, 0, []) else (81, .ireturn, 0, 0, 0, [])))))))
/-- GridQuarrelsModel.grow(II)I -/
def cd201 : Nat → mmE := fun i => (bif Nat.ble i 20 then (bif Nat.ble i 9 then (bif Nat.ble i 4 then (bif Nat.ble i 1 then (bif Nat.ble i 0 then (0, .aload_n 0, 0, 0, 0, []) else (1, .iconst 0, 0, 0, 0, [])) else (bif Nat.ble i 2 then (2, .putfield 47, 0, 7, 0, []) else (bif Nat.ble i 3 then (5, .aload_n 0, 0, 0, 0, []) else (6, .iload_n 1, 0, 0, 0, [])))) else (bif Nat.ble i 6 then (bif Nat.ble i 5 then (7, .invokevirtual 212, 181, 2, 0, []) else (10, .ifCond .eq 15, 13, 0, 0, [])) else (bif Nat.ble i 7 then (13, .iload_n 2, 0, 0, 0, []) else (bif Nat.ble i 8 then (14, .i2l, 0, 0, 0, []) else (15, .lconst 1, 0, 0, 1, []))))) else (bif Nat.ble i 14 then (bif Nat.ble i 11 then (bif Nat.ble i 10 then (16, .ldc2_w 203, 0, 0, 9, []) else (19, .invokestatic 57, 156, 3, 0, [])) else (bif Nat.ble i 12 then (22, .ifCond .ne 6, 15, 0, 0, []) else (bif Nat.ble i 13 then (25, .ldc 67, 0, 0, (-1000001), []) else (27, .ireturn, 0, 0, 0, [])))) else (bif Nat.ble i 17 then (bif Nat.ble i 15 then (28, .aload_n 0, 0, 0, 0, []) else (bif Nat.ble i 16 then (29, .getfield 19, 5, 7, 0, []) else (32, .iload_n 1, 0, 0, 0, []))) else (bif Nat.ble i 18 then (33, .invokestatic 156, 186, 2, 0, []) else (bif Nat.ble i 19 then (36, .ifCond .ne 6, 22, 0, 0, []) else (39, .ldc 190, 0, 0, (-1000002), [])))))) else (bif Nat.ble i 31 then (bif Nat.ble i 25 then (bif Nat.ble i 22 then (bif Nat.ble i 21 then (41, .ireturn, 0, 0, 0, []) else (42, .aload_n 0, 0, 0, 0, [])) else (bif Nat.ble i 23 then (43, .invokevirtual 193, 196, 1, 0, []) else (bif Nat.ble i 24 then (46, .aload_n 0, 0, 0, 0, []) else (47, .getfield 19, 5, 7, 0, [])))) else (bif Nat.ble i 28 then (bif Nat.ble i 26 then (50, .iload_n 1, 0, 0, 0, []) else (bif Nat.ble i 27 then (51, .iconst 2, 0, 0, 2, []) else (52, .invokestatic 152, 184, 3, 0, []))) else (bif Nat.ble i 29 then (55, .istore_n 3, 0, 0, 0, []) else (bif Nat.ble i 30 then (56, .aload_n 0, 0, 0, 0, []) else (57, .getfield 19, 5, 7, 0, []))))) else (bif Nat.ble i 36 then (bif Nat.ble i 33 then (bif Nat.ble i 32 then (60, .bipush 32, 0, 0, 32, []) else (62, .iconst 4, 0, 0, 4, [])) else (bif Nat.ble i 34 then (63, .iload_n 1, 0, 0, 0, []) else (bif Nat.ble i 35 then (64, .imul, 0, 0, 0, []) else (65, .iadd, 0, 0, 0, [])))) else (bif Nat.ble i 39 then (bif Nat.ble i 37 then (66, .iconst 2, 0, 0, 2, []) else (bif Nat.ble i 38 then (67, .iadd, 0, 0, 0, []) else (68, .iload_n 2, 0, 0, 0, []))) else (bif Nat.ble i 40 then (69, .iastore, 0, 0, 0, []) else (bif Nat.ble i 41 then (70, .iload_n 3, 0, 0, 0, []) else (71, .ireturn, 0, 0, 0, [])))))))
/-- GridQuarrelsModel.undo()I -/
def cd202 : Nat → mmE := fun i => (bif Nat.ble i 17 then (bif Nat.ble i 8 then (bif Nat.ble i 3 then (bif Nat.ble i 1 then (bif Nat.ble i 0 then (0, .aload_n 0, 0, 0, 0, []) else (1, .iconst 0, 0, 0, 0, [])) else (bif Nat.ble i 2 then (2, .putfield 47, 0, 7, 0, []) else (5, .aload_n 0, 0, 0, 0, []))) else (bif Nat.ble i 5 then (bif Nat.ble i 4 then (6, .getfield 149, 9, 7, 0, []) else (9, .ifCond .ne 6, 8, 0, 0, [])) else (bif Nat.ble i 6 then (12, .ldc 190, 0, 0, (-1000002), []) else (bif Nat.ble i 7 then (14, .ireturn, 0, 0, 0, []) else (15, .aload_n 0, 0, 0, 0, []))))) else (bif Nat.ble i 12 then (bif Nat.ble i 10 then (bif Nat.ble i 9 then (16, .dup, 0, 0, 0, []) else (17, .getfield 149, 9, 7, 0, [])) else (bif Nat.ble i 11 then (20, .iconst 1, 0, 0, 1, []) else (21, .isub, 0, 0, 0, []))) else (bif Nat.ble i 14 then (bif Nat.ble i 13 then (22, .putfield 149, 9, 7, 0, []) else (25, .iconst 0, 0, 0, 0, [])) else (bif Nat.ble i 15 then (26, .istore_n 1, 0, 0, 0, []) else (bif Nat.ble i 16 then (27, .iload_n 1, 0, 0, 0, []) else (28, .bipush 52, 0, 0, 52, [])))))) else (bif Nat.ble i 26 then (bif Nat.ble i 21 then (bif Nat.ble i 19 then (bif Nat.ble i 18 then (30, .if_icmp .ge 29, 34, 0, 0, []) else (33, .aload_n 0, 0, 0, 0, [])) else (bif Nat.ble i 20 then (34, .getfield 19, 5, 7, 0, []) else (37, .iload_n 1, 0, 0, 0, []))) else (bif Nat.ble i 23 then (bif Nat.ble i 22 then (38, .aload_n 0, 0, 0, 0, []) else (39, .getfield 28, 8, 7, 0, [])) else (bif Nat.ble i 24 then (42, .bipush 52, 0, 0, 52, []) else (bif Nat.ble i 25 then (44, .aload_n 0, 0, 0, 0, []) else (45, .getfield 149, 9, 7, 0, []))))) else (bif Nat.ble i 31 then (bif Nat.ble i 28 then (bif Nat.ble i 27 then (48, .imul, 0, 0, 0, []) else (49, .iload_n 1, 0, 0, 0, [])) else (bif Nat.ble i 29 then (50, .iadd, 0, 0, 0, []) else (bif Nat.ble i 30 then (51, .iaload, 0, 0, 0, []) else (52, .iastore, 0, 0, 0, [])))) else (bif Nat.ble i 33 then (bif Nat.ble i 32 then (53, .iinc 1 1, 0, 0, 1, []) else (56, .goto (-29), 16, 0, 0, [])) else (bif Nat.ble i 34 then (59, .aload_n 0, 0, 0, 0, []) else (bif Nat.ble i 35 then (60, .getfield 149, 9, 7, 0, []) else (63, .ireturn, 0, 0, 0, [])))))))
/-- GridQuarrelsModel.quarrel(II)I -/
def cd203 : Nat → mmE := fun i => (bif Nat.ble i 38 then (bif Nat.ble i 18 then (bif Nat.ble i 8 then (bif Nat.ble i 3 then (bif Nat.ble i 1 then (bif Nat.ble i 0 then (0, .aload_n 0, 0, 0, 0, []) else (1, .iconst 0, 0, 0, 0, [])) else (bif Nat.ble i 2 then (2, .putfield 47, 0, 7, 0, []) else (5, .aload_n 0, 0, 0, 0, []))) else (bif Nat.ble i 5 then (bif Nat.ble i 4 then (6, .iload_n 1, 0, 0, 0, []) else (7, .invokevirtual 212, 181, 2, 0, [])) else (bif Nat.ble i 6 then (10, .ifCond .eq 15, 13, 0, 0, []) else (bif Nat.ble i 7 then (13, .iload_n 2, 0, 0, 0, []) else (14, .i2l, 0, 0, 0, []))))) else (bif Nat.ble i 13 then (bif Nat.ble i 10 then (bif Nat.ble i 9 then (15, .lconst 0, 0, 0, 0, []) else (16, .ldc2_w 215, 0, 0, 4, [])) else (bif Nat.ble i 11 then (19, .invokestatic 57, 156, 3, 0, []) else (bif Nat.ble i 12 then (22, .ifCond .ne 6, 15, 0, 0, []) else (25, .ldc 67, 0, 0, (-1000001), [])))) else (bif Nat.ble i 15 then (bif Nat.ble i 14 then (27, .ireturn, 0, 0, 0, []) else (28, .iconst 0, 0, 0, 0, [])) else (bif Nat.ble i 16 then (29, .istore_n 3, 0, 0, 0, []) else (bif Nat.ble i 17 then (30, .iconst 0, 0, 0, 0, []) else (31, .istore 4, 0, 0, 0, [])))))) else (bif Nat.ble i 28 then (bif Nat.ble i 23 then (bif Nat.ble i 20 then (bif Nat.ble i 19 then (33, .iload 4, 0, 0, 0, []) else (35, .aload_n 0, 0, 0, 0, [])) else (bif Nat.ble i 21 then (36, .getfield 19, 5, 7, 0, []) else (bif Nat.ble i 22 then (39, .iconst 1, 0, 0, 1, []) else (40, .iaload, 0, 0, 0, [])))) else (bif Nat.ble i 25 then (bif Nat.ble i 24 then (41, .if_icmp .ge 67, 57, 0, 0, []) else (44, .iload_n 3, 0, 0, 0, [])) else (bif Nat.ble i 26 then (45, .aload_n 0, 0, 0, 0, []) else (bif Nat.ble i 27 then (46, .getfield 19, 5, 7, 0, []) else (49, .iload_n 1, 0, 0, 0, []))))) else (bif Nat.ble i 33 then (bif Nat.ble i 30 then (bif Nat.ble i 29 then (50, .invokestatic 156, 186, 2, 0, []) else (53, .ifCond .eq 46, 52, 0, 0, [])) else (bif Nat.ble i 31 then (56, .aload_n 0, 0, 0, 0, []) else (bif Nat.ble i 32 then (57, .getfield 19, 5, 7, 0, []) else (60, .iload 4, 0, 0, 0, [])))) else (bif Nat.ble i 35 then (bif Nat.ble i 34 then (62, .aload_n 0, 0, 0, 0, []) else (63, .getfield 19, 5, 7, 0, [])) else (bif Nat.ble i 36 then (66, .iload_n 1, 0, 0, 0, []) else (bif Nat.ble i 37 then (67, .iconst 1, 0, 0, 1, []) else (68, .invokestatic 152, 184, 3, 0, []))))))) else (bif Nat.ble i 57 then (bif Nat.ble i 47 then (bif Nat.ble i 42 then (bif Nat.ble i 40 then (bif Nat.ble i 39 then (71, .invokestatic 163, 189, 3, 0, []) else (74, .ldc 90, 0, 0, (-1000000), [])) else (bif Nat.ble i 41 then (76, .if_icmp .eq 23, 52, 0, 0, []) else (79, .aload_n 0, 0, 0, 0, []))) else (bif Nat.ble i 44 then (bif Nat.ble i 43 then (80, .getfield 19, 5, 7, 0, []) else (83, .iload_n 1, 0, 0, 0, [])) else (bif Nat.ble i 45 then (84, .iload 4, 0, 0, 0, []) else (bif Nat.ble i 46 then (86, .invokestatic 166, 188, 3, 0, []) else (89, .ifCond .eq 10, 52, 0, 0, []))))) else (bif Nat.ble i 52 then (bif Nat.ble i 49 then (bif Nat.ble i 48 then (92, .iconst 1, 0, 0, 1, []) else (93, .iload 4, 0, 0, 0, [])) else (bif Nat.ble i 50 then (95, .ishl, 0, 0, 0, []) else (bif Nat.ble i 51 then (96, .goto 4, 53, 0, 0, []) else (99, .iconst 0, 0, 0, 0, [])))) else (bif Nat.ble i 54 then (bif Nat.ble i 53 then (100, .ior, 0, 0, 0, []) else (101, .istore_n 3, 0, 0, 0, [])) else (bif Nat.ble i 55 then (102, .iinc 4 1, 0, 0, 1, []) else (bif Nat.ble i 56 then (105, .goto (-72), 19, 0, 0, []) else (108, .iload_n 2, 0, 0, 0, [])))))) else (bif Nat.ble i 67 then (bif Nat.ble i 62 then (bif Nat.ble i 59 then (bif Nat.ble i 58 then (109, .iconst 3, 0, 0, 3, []) else (110, .if_icmp .ge 17, 68, 0, 0, [])) else (bif Nat.ble i 60 then (113, .aload_n 0, 0, 0, 0, []) else (bif Nat.ble i 61 then (114, .getfield 19, 5, 7, 0, []) else (117, .iload_n 1, 0, 0, 0, [])))) else (bif Nat.ble i 64 then (bif Nat.ble i 63 then (118, .iconst 1, 0, 0, 1, []) else (119, .iload_n 2, 0, 0, 0, [])) else (bif Nat.ble i 65 then (120, .iadd, 0, 0, 0, []) else (bif Nat.ble i 66 then (121, .invokestatic 152, 184, 3, 0, []) else (124, .goto 20, 77, 0, 0, []))))) else (bif Nat.ble i 72 then (bif Nat.ble i 69 then (bif Nat.ble i 68 then (127, .iload_n 2, 0, 0, 0, []) else (128, .iconst 3, 0, 0, 3, [])) else (bif Nat.ble i 70 then (129, .if_icmp .ne 7, 73, 0, 0, []) else (bif Nat.ble i 71 then (132, .iload_n 3, 0, 0, 0, []) else (133, .goto 11, 77, 0, 0, [])))) else (bif Nat.ble i 74 then (bif Nat.ble i 73 then (136, .aload_n 0, 0, 0, 0, []) else (137, .getfield 19, 5, 7, 0, [])) else (bif Nat.ble i 75 then (140, .iload_n 1, 0, 0, 0, []) else (bif Nat.ble i 76 then (141, .invokestatic 179, 190, 2, 0, []) else (144, .ireturn, 0, 0, 0, []))))))))
/-- GridQuarrelsModel.road(II)I -/
def cd204 : Nat → mmE := fun i => (bif Nat.ble i 9 then (bif Nat.ble i 4 then (bif Nat.ble i 1 then (bif Nat.ble i 0 then (0, .aload_n 0, 0, 0, 0, []) else (1, .iconst 0, 0, 0, 0, [])) else (bif Nat.ble i 2 then (2, .putfield 47, 0, 7, 0, []) else (bif Nat.ble i 3 then (5, .aload_n 0, 0, 0, 0, []) else (6, .iload_n 1, 0, 0, 0, [])))) else (bif Nat.ble i 6 then (bif Nat.ble i 5 then (7, .invokevirtual 209, 180, 2, 0, []) else (10, .ifCond .eq 27, 19, 0, 0, [])) else (bif Nat.ble i 7 then (13, .iload_n 2, 0, 0, 0, []) else (bif Nat.ble i 8 then (14, .i2l, 0, 0, 0, []) else (15, .lconst 0, 0, 0, 0, []))))) else (bif Nat.ble i 14 then (bif Nat.ble i 11 then (bif Nat.ble i 10 then (16, .ldc2_w 65, 0, 0, 2, []) else (19, .invokestatic 57, 156, 3, 0, [])) else (bif Nat.ble i 12 then (22, .ifCond .eq 15, 19, 0, 0, []) else (bif Nat.ble i 13 then (25, .aload_n 0, 0, 0, 0, []) else (26, .getfield 19, 5, 7, 0, [])))) else (bif Nat.ble i 17 then (bif Nat.ble i 15 then (29, .iload_n 1, 0, 0, 0, []) else (bif Nat.ble i 16 then (30, .iload_n 2, 0, 0, 0, []) else (31, .invokestatic 160, 185, 3, 0, []))) else (bif Nat.ble i 18 then (34, .goto 5, 20, 0, 0, []) else (bif Nat.ble i 19 then (37, .ldc 67, 0, 0, (-1000001), []) else (39, .ireturn, 0, 0, 0, []))))))
/-- GridQuarrelsModel.parish(II)I -/
def cd205 : Nat → mmE := fun i => (bif Nat.ble i 39 then (bif Nat.ble i 19 then (bif Nat.ble i 9 then (bif Nat.ble i 4 then (bif Nat.ble i 1 then (bif Nat.ble i 0 then (0, .aload_n 0, 0, 0, 0, []) else (1, .iconst 0, 0, 0, 0, [])) else (bif Nat.ble i 2 then (2, .putfield 47, 0, 7, 0, []) else (bif Nat.ble i 3 then (5, .aload_n 0, 0, 0, 0, []) else (6, .iload_n 1, 0, 0, 0, [])))) else (bif Nat.ble i 6 then (bif Nat.ble i 5 then (7, .invokevirtual 200, 179, 2, 0, []) else (10, .ifCond .eq 15, 13, 0, 0, [])) else (bif Nat.ble i 7 then (13, .iload_n 2, 0, 0, 0, []) else (bif Nat.ble i 8 then (14, .i2l, 0, 0, 0, []) else (15, .lconst 0, 0, 0, 0, []))))) else (bif Nat.ble i 14 then (bif Nat.ble i 11 then (bif Nat.ble i 10 then (16, .ldc2_w 65, 0, 0, 2, []) else (19, .invokestatic 57, 156, 3, 0, [])) else (bif Nat.ble i 12 then (22, .ifCond .ne 6, 15, 0, 0, []) else (bif Nat.ble i 13 then (25, .ldc 67, 0, 0, (-1000001), []) else (27, .ireturn, 0, 0, 0, [])))) else (bif Nat.ble i 16 then (bif Nat.ble i 15 then (28, .iconst 0, 0, 0, 0, []) else (29, .istore_n 3, 0, 0, 0, [])) else (bif Nat.ble i 17 then (30, .iconst 0, 0, 0, 0, []) else (bif Nat.ble i 18 then (31, .istore 4, 0, 0, 0, []) else (33, .iload 4, 0, 0, 0, [])))))) else (bif Nat.ble i 29 then (bif Nat.ble i 24 then (bif Nat.ble i 21 then (bif Nat.ble i 20 then (35, .bipush 7, 0, 0, 7, []) else (37, .if_icmp .ge 95, 70, 0, 0, [])) else (bif Nat.ble i 22 then (40, .iload_n 2, 0, 0, 0, []) else (bif Nat.ble i 23 then (41, .iconst 1, 0, 0, 1, []) else (42, .if_icmp .ne 35, 41, 0, 0, [])))) else (bif Nat.ble i 26 then (bif Nat.ble i 25 then (45, .iload 4, 0, 0, 0, []) else (47, .aload_n 0, 0, 0, 0, [])) else (bif Nat.ble i 27 then (48, .getfield 19, 5, 7, 0, []) else (bif Nat.ble i 28 then (51, .iconst 2, 0, 0, 2, []) else (52, .iaload, 0, 0, 0, []))))) else (bif Nat.ble i 34 then (bif Nat.ble i 31 then (bif Nat.ble i 30 then (53, .if_icmp .ge 20, 39, 0, 0, []) else (56, .aload_n 0, 0, 0, 0, [])) else (bif Nat.ble i 32 then (57, .getfield 19, 5, 7, 0, []) else (bif Nat.ble i 33 then (60, .iload 4, 0, 0, 0, []) else (62, .iload_n 1, 0, 0, 0, [])))) else (bif Nat.ble i 36 then (bif Nat.ble i 35 then (63, .invokestatic 217, 187, 3, 0, []) else (66, .ifCond .eq 7, 39, 0, 0, [])) else (bif Nat.ble i 37 then (69, .iconst 1, 0, 0, 1, []) else (bif Nat.ble i 38 then (70, .goto 38, 57, 0, 0, []) else (73, .iconst 0, 0, 0, 0, []))))))) else (bif Nat.ble i 59 then (bif Nat.ble i 49 then (bif Nat.ble i 44 then (bif Nat.ble i 41 then (bif Nat.ble i 40 then (74, .goto 34, 57, 0, 0, []) else (77, .iload 4, 0, 0, 0, [])) else (bif Nat.ble i 42 then (79, .aload_n 0, 0, 0, 0, []) else (bif Nat.ble i 43 then (80, .getfield 19, 5, 7, 0, []) else (83, .iconst 1, 0, 0, 1, [])))) else (bif Nat.ble i 46 then (bif Nat.ble i 45 then (84, .iaload, 0, 0, 0, []) else (85, .if_icmp .ge 22, 56, 0, 0, [])) else (bif Nat.ble i 47 then (88, .aload_n 0, 0, 0, 0, []) else (bif Nat.ble i 48 then (89, .getfield 19, 5, 7, 0, []) else (92, .iload 4, 0, 0, 0, []))))) else (bif Nat.ble i 54 then (bif Nat.ble i 51 then (bif Nat.ble i 50 then (94, .iload_n 1, 0, 0, 0, []) else (95, .invokestatic 163, 189, 3, 0, [])) else (bif Nat.ble i 52 then (98, .ldc 90, 0, 0, (-1000000), []) else (bif Nat.ble i 53 then (100, .if_icmp .eq 7, 56, 0, 0, []) else (103, .iconst 1, 0, 0, 1, [])))) else (bif Nat.ble i 56 then (bif Nat.ble i 55 then (104, .goto 4, 57, 0, 0, []) else (107, .iconst 0, 0, 0, 0, [])) else (bif Nat.ble i 57 then (108, .istore 5, 0, 0, 0, []) else (bif Nat.ble i 58 then (110, .iload_n 3, 0, 0, 0, []) else (111, .iload 5, 0, 0, 0, [])))))) else (bif Nat.ble i 69 then (bif Nat.ble i 64 then (bif Nat.ble i 61 then (bif Nat.ble i 60 then (113, .ifCond .eq 10, 65, 0, 0, []) else (116, .iconst 1, 0, 0, 1, [])) else (bif Nat.ble i 62 then (117, .iload 4, 0, 0, 0, []) else (bif Nat.ble i 63 then (119, .ishl, 0, 0, 0, []) else (120, .goto 4, 66, 0, 0, [])))) else (bif Nat.ble i 66 then (bif Nat.ble i 65 then (123, .iconst 0, 0, 0, 0, []) else (124, .ior, 0, 0, 0, [])) else (bif Nat.ble i 67 then (125, .istore_n 3, 0, 0, 0, []) else (bif Nat.ble i 68 then (126, .iinc 4 1, 0, 0, 1, []) else (129, .goto (-96), 19, 0, 0, []))))) else (bif Nat.ble i 74 then (bif Nat.ble i 71 then (bif Nat.ble i 70 then (132, .iload_n 2, 0, 0, 0, []) else (133, .ifCond .ne 14, 79, 0, 0, [])) else (bif Nat.ble i 72 then (136, .aload_n 0, 0, 0, 0, []) else (bif Nat.ble i 73 then (137, .getfield 19, 5, 7, 0, []) else (140, .iconst 4, 0, 0, 4, [])))) else (bif Nat.ble i 77 then (bif Nat.ble i 75 then (141, .iload_n 1, 0, 0, 0, []) else (bif Nat.ble i 76 then (142, .iadd, 0, 0, 0, []) else (143, .iaload, 0, 0, 0, []))) else (bif Nat.ble i 78 then (144, .goto 4, 80, 0, 0, []) else (bif Nat.ble i 79 then (147, .iload_n 3, 0, 0, 0, []) else (148, .ireturn, 0, 0, 0, []))))))))
/-- GridQuarrelsModel.ahead(III)I -/
def cd206 : Nat → mmE := fun i => (bif Nat.ble i 17 then (bif Nat.ble i 8 then (bif Nat.ble i 3 then (bif Nat.ble i 1 then (bif Nat.ble i 0 then (0, .aload_n 0, 0, 0, 0, []) else (1, .iconst 0, 0, 0, 0, [])) else (bif Nat.ble i 2 then (2, .putfield 47, 0, 7, 0, []) else (5, .aload_n 0, 0, 0, 0, []))) else (bif Nat.ble i 5 then (bif Nat.ble i 4 then (6, .iload_n 1, 0, 0, 0, []) else (7, .invokevirtual 212, 181, 2, 0, [])) else (bif Nat.ble i 6 then (10, .ifCond .eq 25, 19, 0, 0, []) else (bif Nat.ble i 7 then (13, .iload_n 2, 0, 0, 0, []) else (14, .i2l, 0, 0, 0, []))))) else (bif Nat.ble i 12 then (bif Nat.ble i 10 then (bif Nat.ble i 9 then (15, .lconst 0, 0, 0, 0, []) else (16, .ldc2_w 220, 0, 0, 60, [])) else (bif Nat.ble i 11 then (19, .invokestatic 57, 156, 3, 0, []) else (22, .ifCond .eq 13, 19, 0, 0, []))) else (bif Nat.ble i 14 then (bif Nat.ble i 13 then (25, .iload_n 3, 0, 0, 0, []) else (26, .i2l, 0, 0, 0, [])) else (bif Nat.ble i 15 then (27, .lconst 0, 0, 0, 0, []) else (bif Nat.ble i 16 then (28, .lconst 1, 0, 0, 1, []) else (29, .invokestatic 57, 156, 3, 0, [])))))) else (bif Nat.ble i 26 then (bif Nat.ble i 21 then (bif Nat.ble i 19 then (bif Nat.ble i 18 then (32, .ifCond .ne 6, 21, 0, 0, []) else (35, .ldc 67, 0, 0, (-1000001), [])) else (bif Nat.ble i 20 then (37, .ireturn, 0, 0, 0, []) else (38, .aload_n 0, 0, 0, 0, []))) else (bif Nat.ble i 23 then (bif Nat.ble i 22 then (39, .invokevirtual 222, 193, 1, 0, []) else (42, .aload_n 0, 0, 0, 0, [])) else (bif Nat.ble i 24 then (43, .aload_n 0, 0, 0, 0, []) else (bif Nat.ble i 25 then (44, .getfield 25, 7, 7, 0, []) else (47, .iload_n 2, 0, 0, 0, []))))) else (bif Nat.ble i 30 then (bif Nat.ble i 28 then (bif Nat.ble i 27 then (48, .invokevirtual 225, 192, 3, 0, []) else (51, .aload_n 0, 0, 0, 0, [])) else (bif Nat.ble i 29 then (52, .getfield 25, 7, 7, 0, []) else (55, .iload_n 1, 0, 0, 0, []))) else (bif Nat.ble i 32 then (bif Nat.ble i 31 then (56, .iconst 1, 0, 0, 1, []) else (57, .iload_n 3, 0, 0, 0, [])) else (bif Nat.ble i 33 then (58, .iadd, 0, 0, 0, []) else (bif Nat.ble i 34 then (59, .invokestatic 152, 184, 3, 0, []) else (62, .ireturn, 0, 0, 0, [])))))))
/-- GridQuarrelsModel.hayAhead(II)I -/
def cd207 : Nat → mmE := fun i => (bif Nat.ble i 13 then (bif Nat.ble i 6 then (bif Nat.ble i 2 then (bif Nat.ble i 0 then (0, .aload_n 0, 0, 0, 0, []) else (bif Nat.ble i 1 then (1, .iconst 0, 0, 0, 0, []) else (2, .putfield 47, 0, 7, 0, []))) else (bif Nat.ble i 4 then (bif Nat.ble i 3 then (5, .aload_n 0, 0, 0, 0, []) else (6, .iload_n 1, 0, 0, 0, [])) else (bif Nat.ble i 5 then (7, .invokevirtual 200, 179, 2, 0, []) else (10, .ifCond .eq 15, 13, 0, 0, [])))) else (bif Nat.ble i 9 then (bif Nat.ble i 7 then (13, .iload_n 2, 0, 0, 0, []) else (bif Nat.ble i 8 then (14, .i2l, 0, 0, 0, []) else (15, .lconst 0, 0, 0, 0, []))) else (bif Nat.ble i 11 then (bif Nat.ble i 10 then (16, .ldc2_w 220, 0, 0, 60, []) else (19, .invokestatic 57, 156, 3, 0, [])) else (bif Nat.ble i 12 then (22, .ifCond .ne 6, 15, 0, 0, []) else (25, .ldc 67, 0, 0, (-1000001), []))))) else (bif Nat.ble i 20 then (bif Nat.ble i 16 then (bif Nat.ble i 14 then (27, .ireturn, 0, 0, 0, []) else (bif Nat.ble i 15 then (28, .aload_n 0, 0, 0, 0, []) else (29, .invokevirtual 222, 193, 1, 0, []))) else (bif Nat.ble i 18 then (bif Nat.ble i 17 then (32, .aload_n 0, 0, 0, 0, []) else (33, .aload_n 0, 0, 0, 0, [])) else (bif Nat.ble i 19 then (34, .getfield 25, 7, 7, 0, []) else (37, .iload_n 2, 0, 0, 0, [])))) else (bif Nat.ble i 24 then (bif Nat.ble i 22 then (bif Nat.ble i 21 then (38, .invokevirtual 225, 192, 3, 0, []) else (41, .aload_n 0, 0, 0, 0, [])) else (bif Nat.ble i 23 then (42, .getfield 25, 7, 7, 0, []) else (45, .iconst 4, 0, 0, 4, []))) else (bif Nat.ble i 26 then (bif Nat.ble i 25 then (46, .iload_n 1, 0, 0, 0, []) else (47, .iadd, 0, 0, 0, [])) else (bif Nat.ble i 27 then (48, .iaload, 0, 0, 0, []) else (49, .ireturn, 0, 0, 0, []))))))
/-- GridQuarrelsModel.diesBy(I)I -/
def cd208 : Nat → mmE := fun i => (bif Nat.ble i 9 then (bif Nat.ble i 4 then (bif Nat.ble i 1 then (bif Nat.ble i 0 then (0, .iconst 0, 0, 0, 0, []) else (1, .istore_n 2, 0, 0, 0, [])) else (bif Nat.ble i 2 then (2, .iload_n 2, 0, 0, 0, []) else (bif Nat.ble i 3 then (3, .bipush 60, 0, 0, 60, []) else (5, .if_icmp .gt 30, 18, 0, 0, [])))) else (bif Nat.ble i 6 then (bif Nat.ble i 5 then (8, .aload_n 0, 0, 0, 0, []) else (9, .getfield 25, 7, 7, 0, [])) else (bif Nat.ble i 7 then (12, .iload_n 1, 0, 0, 0, []) else (bif Nat.ble i 8 then (13, .invokestatic 156, 186, 2, 0, []) else (16, .ifCond .ne 5, 12, 0, 0, []))))) else (bif Nat.ble i 14 then (bif Nat.ble i 11 then (bif Nat.ble i 10 then (19, .iload_n 2, 0, 0, 0, []) else (20, .ireturn, 0, 0, 0, [])) else (bif Nat.ble i 12 then (21, .aload_n 0, 0, 0, 0, []) else (bif Nat.ble i 13 then (22, .aload_n 0, 0, 0, 0, []) else (23, .getfield 25, 7, 7, 0, [])))) else (bif Nat.ble i 16 then (bif Nat.ble i 15 then (26, .invokevirtual 183, 191, 2, 0, []) else (29, .iinc 2 1, 0, 0, 1, [])) else (bif Nat.ble i 17 then (32, .goto (-30), 2, 0, 0, []) else (bif Nat.ble i 18 then (35, .ldc 90, 0, 0, (-1000000), []) else (37, .ireturn, 0, 0, 0, []))))))
/-- GridQuarrelsModel.dies(I)I -/
def cd209 : Nat → mmE := fun i => (bif Nat.ble i 6 then (bif Nat.ble i 2 then (bif Nat.ble i 0 then (0, .aload_n 0, 0, 0, 0, []) else (bif Nat.ble i 1 then (1, .iconst 0, 0, 0, 0, []) else (2, .putfield 47, 0, 7, 0, []))) else (bif Nat.ble i 4 then (bif Nat.ble i 3 then (5, .aload_n 0, 0, 0, 0, []) else (6, .iload_n 1, 0, 0, 0, [])) else (bif Nat.ble i 5 then (7, .invokevirtual 212, 181, 2, 0, []) else (10, .ifCond .ne 6, 9, 0, 0, [])))) else (bif Nat.ble i 10 then (bif Nat.ble i 8 then (bif Nat.ble i 7 then (13, .ldc 67, 0, 0, (-1000001), []) else (15, .ireturn, 0, 0, 0, [])) else (bif Nat.ble i 9 then (16, .aload_n 0, 0, 0, 0, []) else (17, .invokevirtual 222, 193, 1, 0, []))) else (bif Nat.ble i 12 then (bif Nat.ble i 11 then (20, .aload_n 0, 0, 0, 0, []) else (21, .iload_n 1, 0, 0, 0, [])) else (bif Nat.ble i 13 then (22, .invokevirtual 229, 208, 2, 0, []) else (25, .ireturn, 0, 0, 0, [])))))
/-- GridQuarrelsModel.comes(II)I -/
def cd210 : Nat → mmE := fun i => (bif Nat.ble i 17 then (bif Nat.ble i 8 then (bif Nat.ble i 3 then (bif Nat.ble i 1 then (bif Nat.ble i 0 then (0, .aload_n 0, 0, 0, 0, []) else (1, .iconst 0, 0, 0, 0, [])) else (bif Nat.ble i 2 then (2, .putfield 47, 0, 7, 0, []) else (5, .aload_n 0, 0, 0, 0, []))) else (bif Nat.ble i 5 then (bif Nat.ble i 4 then (6, .iload_n 1, 0, 0, 0, []) else (7, .invokevirtual 212, 181, 2, 0, [])) else (bif Nat.ble i 6 then (10, .ifCond .eq 11, 11, 0, 0, []) else (bif Nat.ble i 7 then (13, .aload_n 0, 0, 0, 0, []) else (14, .iload_n 2, 0, 0, 0, []))))) else (bif Nat.ble i 12 then (bif Nat.ble i 10 then (bif Nat.ble i 9 then (15, .invokevirtual 200, 179, 2, 0, []) else (18, .ifCond .ne 6, 13, 0, 0, [])) else (bif Nat.ble i 11 then (21, .ldc 67, 0, 0, (-1000001), []) else (23, .ireturn, 0, 0, 0, []))) else (bif Nat.ble i 14 then (bif Nat.ble i 13 then (24, .aload_n 0, 0, 0, 0, []) else (25, .invokevirtual 222, 193, 1, 0, [])) else (bif Nat.ble i 15 then (28, .iconst 0, 0, 0, 0, []) else (bif Nat.ble i 16 then (29, .istore_n 3, 0, 0, 0, []) else (30, .iload_n 3, 0, 0, 0, [])))))) else (bif Nat.ble i 26 then (bif Nat.ble i 21 then (bif Nat.ble i 19 then (bif Nat.ble i 18 then (31, .bipush 60, 0, 0, 60, []) else (33, .if_icmp .gt 31, 34, 0, 0, [])) else (bif Nat.ble i 20 then (36, .aload_n 0, 0, 0, 0, []) else (37, .getfield 25, 7, 7, 0, []))) else (bif Nat.ble i 23 then (bif Nat.ble i 22 then (40, .iload_n 1, 0, 0, 0, []) else (41, .iload_n 2, 0, 0, 0, [])) else (bif Nat.ble i 24 then (42, .invokestatic 217, 187, 3, 0, []) else (bif Nat.ble i 25 then (45, .ifCond .eq 5, 28, 0, 0, []) else (48, .iload_n 3, 0, 0, 0, []))))) else (bif Nat.ble i 30 then (bif Nat.ble i 28 then (bif Nat.ble i 27 then (49, .ireturn, 0, 0, 0, []) else (50, .aload_n 0, 0, 0, 0, [])) else (bif Nat.ble i 29 then (51, .aload_n 0, 0, 0, 0, []) else (52, .getfield 25, 7, 7, 0, []))) else (bif Nat.ble i 32 then (bif Nat.ble i 31 then (55, .invokevirtual 183, 191, 2, 0, []) else (58, .iinc 3 1, 0, 0, 1, [])) else (bif Nat.ble i 33 then (61, .goto (-31), 17, 0, 0, []) else (bif Nat.ble i 34 then (64, .ldc 90, 0, 0, (-1000000), []) else (66, .ireturn, 0, 0, 0, [])))))))
/-- GridQuarrelsModel.meet(II)I -/
def cd211 : Nat → mmE := fun i => (bif Nat.ble i 23 then (bif Nat.ble i 11 then (bif Nat.ble i 5 then (bif Nat.ble i 2 then (bif Nat.ble i 0 then (0, .aload_n 0, 0, 0, 0, []) else (bif Nat.ble i 1 then (1, .iconst 0, 0, 0, 0, []) else (2, .putfield 47, 0, 7, 0, []))) else (bif Nat.ble i 3 then (5, .aload_n 0, 0, 0, 0, []) else (bif Nat.ble i 4 then (6, .iload_n 1, 0, 0, 0, []) else (7, .invokevirtual 212, 181, 2, 0, [])))) else (bif Nat.ble i 8 then (bif Nat.ble i 6 then (10, .ifCond .eq 16, 14, 0, 0, []) else (bif Nat.ble i 7 then (13, .aload_n 0, 0, 0, 0, []) else (14, .iload_n 2, 0, 0, 0, []))) else (bif Nat.ble i 9 then (15, .invokevirtual 212, 181, 2, 0, []) else (bif Nat.ble i 10 then (18, .ifCond .eq 8, 14, 0, 0, []) else (21, .iload_n 1, 0, 0, 0, []))))) else (bif Nat.ble i 17 then (bif Nat.ble i 14 then (bif Nat.ble i 12 then (22, .iload_n 2, 0, 0, 0, []) else (bif Nat.ble i 13 then (23, .if_icmp .ne 6, 16, 0, 0, []) else (26, .ldc 67, 0, 0, (-1000001), []))) else (bif Nat.ble i 15 then (28, .ireturn, 0, 0, 0, []) else (bif Nat.ble i 16 then (29, .aload_n 0, 0, 0, 0, []) else (30, .invokevirtual 222, 193, 1, 0, [])))) else (bif Nat.ble i 20 then (bif Nat.ble i 18 then (33, .iconst 0, 0, 0, 0, []) else (bif Nat.ble i 19 then (34, .istore_n 3, 0, 0, 0, []) else (35, .iload_n 3, 0, 0, 0, []))) else (bif Nat.ble i 21 then (36, .bipush 60, 0, 0, 60, []) else (bif Nat.ble i 22 then (38, .if_icmp .gt 50, 46, 0, 0, []) else (41, .aload_n 0, 0, 0, 0, [])))))) else (bif Nat.ble i 35 then (bif Nat.ble i 29 then (bif Nat.ble i 26 then (bif Nat.ble i 24 then (42, .getfield 25, 7, 7, 0, []) else (bif Nat.ble i 25 then (45, .iload_n 1, 0, 0, 0, []) else (46, .invokestatic 156, 186, 2, 0, []))) else (bif Nat.ble i 27 then (49, .ifCond .eq 25, 40, 0, 0, []) else (bif Nat.ble i 28 then (52, .aload_n 0, 0, 0, 0, []) else (53, .getfield 25, 7, 7, 0, [])))) else (bif Nat.ble i 32 then (bif Nat.ble i 30 then (56, .iload_n 2, 0, 0, 0, []) else (bif Nat.ble i 31 then (57, .aload_n 0, 0, 0, 0, []) else (58, .getfield 25, 7, 7, 0, []))) else (bif Nat.ble i 33 then (61, .iload_n 1, 0, 0, 0, []) else (bif Nat.ble i 34 then (62, .iconst 1, 0, 0, 1, []) else (63, .invokestatic 152, 184, 3, 0, []))))) else (bif Nat.ble i 41 then (bif Nat.ble i 38 then (bif Nat.ble i 36 then (66, .invokestatic 217, 187, 3, 0, []) else (bif Nat.ble i 37 then (69, .ifCond .eq 5, 40, 0, 0, []) else (72, .iload_n 3, 0, 0, 0, []))) else (bif Nat.ble i 39 then (73, .ireturn, 0, 0, 0, []) else (bif Nat.ble i 40 then (74, .aload_n 0, 0, 0, 0, []) else (75, .aload_n 0, 0, 0, 0, [])))) else (bif Nat.ble i 44 then (bif Nat.ble i 42 then (76, .getfield 25, 7, 7, 0, []) else (bif Nat.ble i 43 then (79, .invokevirtual 183, 191, 2, 0, []) else (82, .iinc 3 1, 0, 0, 1, []))) else (bif Nat.ble i 45 then (85, .goto (-50), 20, 0, 0, []) else (bif Nat.ble i 46 then (88, .ldc 90, 0, 0, (-1000000), []) else (90, .ireturn, 0, 0, 0, [])))))))
/-- GridQuarrelsModel.grazed(I)I -/
def cd212 : Nat → mmE := fun i => (bif Nat.ble i 18 then (bif Nat.ble i 8 then (bif Nat.ble i 3 then (bif Nat.ble i 1 then (bif Nat.ble i 0 then (0, .aload_n 0, 0, 0, 0, []) else (1, .iconst 0, 0, 0, 0, [])) else (bif Nat.ble i 2 then (2, .putfield 47, 0, 7, 0, []) else (5, .aload_n 0, 0, 0, 0, []))) else (bif Nat.ble i 5 then (bif Nat.ble i 4 then (6, .invokevirtual 187, 178, 1, 0, []) else (9, .ifCond .ne 6, 8, 0, 0, [])) else (bif Nat.ble i 6 then (12, .ldc 190, 0, 0, (-1000002), []) else (bif Nat.ble i 7 then (14, .ireturn, 0, 0, 0, []) else (15, .iload_n 1, 0, 0, 0, []))))) else (bif Nat.ble i 13 then (bif Nat.ble i 10 then (bif Nat.ble i 9 then (16, .i2l, 0, 0, 0, []) else (17, .lconst 1, 0, 0, 1, [])) else (bif Nat.ble i 11 then (18, .ldc2_w 220, 0, 0, 60, []) else (bif Nat.ble i 12 then (21, .invokestatic 57, 156, 3, 0, []) else (24, .ifCond .ne 6, 16, 0, 0, [])))) else (bif Nat.ble i 15 then (bif Nat.ble i 14 then (27, .ldc 67, 0, 0, (-1000001), []) else (29, .ireturn, 0, 0, 0, [])) else (bif Nat.ble i 16 then (30, .aload_n 0, 0, 0, 0, []) else (bif Nat.ble i 17 then (31, .invokevirtual 222, 193, 1, 0, []) else (34, .iconst 0, 0, 0, 0, [])))))) else (bif Nat.ble i 27 then (bif Nat.ble i 22 then (bif Nat.ble i 20 then (bif Nat.ble i 19 then (35, .istore_n 2, 0, 0, 0, []) else (36, .iconst 0, 0, 0, 0, [])) else (bif Nat.ble i 21 then (37, .istore_n 3, 0, 0, 0, []) else (38, .iload_n 3, 0, 0, 0, []))) else (bif Nat.ble i 24 then (bif Nat.ble i 23 then (39, .iload_n 1, 0, 0, 0, []) else (40, .if_icmp .ge 24, 36, 0, 0, [])) else (bif Nat.ble i 25 then (43, .aload_n 0, 0, 0, 0, []) else (bif Nat.ble i 26 then (44, .aload_n 0, 0, 0, 0, []) else (45, .getfield 25, 7, 7, 0, []))))) else (bif Nat.ble i 32 then (bif Nat.ble i 29 then (bif Nat.ble i 28 then (48, .invokevirtual 183, 191, 2, 0, []) else (51, .iload_n 2, 0, 0, 0, [])) else (bif Nat.ble i 30 then (52, .aload_n 0, 0, 0, 0, []) else (bif Nat.ble i 31 then (53, .getfield 173, 20, 7, 0, []) else (56, .ior, 0, 0, 0, [])))) else (bif Nat.ble i 34 then (bif Nat.ble i 33 then (57, .istore_n 2, 0, 0, 0, []) else (58, .iinc 3 1, 0, 0, 1, [])) else (bif Nat.ble i 35 then (61, .goto (-23), 22, 0, 0, []) else (bif Nat.ble i 36 then (64, .iload_n 2, 0, 0, 0, []) else (65, .ireturn, 0, 0, 0, [])))))))
/-- GridQuarrelsModel.shuts(III)I -/
def cd213 : Nat → mmE := fun i => (bif Nat.ble i 67 then (bif Nat.ble i 33 then (bif Nat.ble i 16 then (bif Nat.ble i 7 then (bif Nat.ble i 3 then (bif Nat.ble i 1 then (bif Nat.ble i 0 then (0, .aload_n 0, 0, 0, 0, []) else (1, .iconst 0, 0, 0, 0, [])) else (bif Nat.ble i 2 then (2, .putfield 47, 0, 7, 0, []) else (5, .aload_n 0, 0, 0, 0, []))) else (bif Nat.ble i 5 then (bif Nat.ble i 4 then (6, .iload_n 1, 0, 0, 0, []) else (7, .invokevirtual 200, 179, 2, 0, [])) else (bif Nat.ble i 6 then (10, .ifCond .eq 25, 19, 0, 0, []) else (13, .iload_n 2, 0, 0, 0, [])))) else (bif Nat.ble i 11 then (bif Nat.ble i 9 then (bif Nat.ble i 8 then (14, .i2l, 0, 0, 0, []) else (15, .lconst 1, 0, 0, 1, [])) else (bif Nat.ble i 10 then (16, .ldc2_w 232, 0, 0, 30, []) else (19, .invokestatic 57, 156, 3, 0, []))) else (bif Nat.ble i 13 then (bif Nat.ble i 12 then (22, .ifCond .eq 13, 19, 0, 0, []) else (25, .iload_n 3, 0, 0, 0, [])) else (bif Nat.ble i 14 then (26, .i2l, 0, 0, 0, []) else (bif Nat.ble i 15 then (27, .lconst 0, 0, 0, 0, []) else (28, .lconst 1, 0, 0, 1, [])))))) else (bif Nat.ble i 24 then (bif Nat.ble i 20 then (bif Nat.ble i 18 then (bif Nat.ble i 17 then (29, .invokestatic 57, 156, 3, 0, []) else (32, .ifCond .ne 6, 21, 0, 0, [])) else (bif Nat.ble i 19 then (35, .ldc 67, 0, 0, (-1000001), []) else (37, .ireturn, 0, 0, 0, []))) else (bif Nat.ble i 22 then (bif Nat.ble i 21 then (38, .ldc 90, 0, 0, (-1000000), []) else (40, .istore 4, 0, 0, 0, [])) else (bif Nat.ble i 23 then (42, .iconst 0, 0, 0, 0, []) else (43, .istore 5, 0, 0, 0, [])))) else (bif Nat.ble i 28 then (bif Nat.ble i 26 then (bif Nat.ble i 25 then (45, .iload 5, 0, 0, 0, []) else (47, .iconst 1, 0, 0, 1, [])) else (bif Nat.ble i 27 then (48, .aload_n 0, 0, 0, 0, []) else (49, .getfield 19, 5, 7, 0, []))) else (bif Nat.ble i 30 then (bif Nat.ble i 29 then (52, .iconst 1, 0, 0, 1, []) else (53, .iaload, 0, 0, 0, [])) else (bif Nat.ble i 31 then (54, .ishl, 0, 0, 0, []) else (bif Nat.ble i 32 then (55, .if_icmp .ge 195, 125, 0, 0, []) else (58, .iload 4, 0, 0, 0, []))))))) else (bif Nat.ble i 50 then (bif Nat.ble i 41 then (bif Nat.ble i 37 then (bif Nat.ble i 35 then (bif Nat.ble i 34 then (60, .ldc 90, 0, 0, (-1000000), []) else (62, .if_icmp .eq 16, 41, 0, 0, [])) else (bif Nat.ble i 36 then (65, .iload 5, 0, 0, 0, []) else (67, .invokestatic 234, 182, 1, 0, []))) else (bif Nat.ble i 39 then (bif Nat.ble i 38 then (70, .iload 4, 0, 0, 0, []) else (72, .invokestatic 234, 182, 1, 0, [])) else (bif Nat.ble i 40 then (75, .if_icmp .ge 169, 123, 0, 0, []) else (78, .aload_n 0, 0, 0, 0, [])))) else (bif Nat.ble i 45 then (bif Nat.ble i 43 then (bif Nat.ble i 42 then (79, .invokevirtual 222, 193, 1, 0, []) else (82, .iconst 0, 0, 0, 0, [])) else (bif Nat.ble i 44 then (83, .istore 6, 0, 0, 0, []) else (85, .iload 6, 0, 0, 0, []))) else (bif Nat.ble i 47 then (bif Nat.ble i 46 then (87, .aload_n 0, 0, 0, 0, []) else (88, .getfield 19, 5, 7, 0, [])) else (bif Nat.ble i 48 then (91, .iconst 1, 0, 0, 1, []) else (bif Nat.ble i 49 then (92, .iaload, 0, 0, 0, []) else (93, .if_icmp .ge 48, 74, 0, 0, [])))))) else (bif Nat.ble i 58 then (bif Nat.ble i 54 then (bif Nat.ble i 52 then (bif Nat.ble i 51 then (96, .aload_n 0, 0, 0, 0, []) else (97, .getfield 25, 7, 7, 0, [])) else (bif Nat.ble i 53 then (100, .bipush 11, 0, 0, 11, []) else (102, .iconst 3, 0, 0, 3, []))) else (bif Nat.ble i 56 then (bif Nat.ble i 55 then (103, .iload 6, 0, 0, 0, []) else (105, .imul, 0, 0, 0, [])) else (bif Nat.ble i 57 then (106, .iadd, 0, 0, 0, []) else (107, .iconst 2, 0, 0, 2, [])))) else (bif Nat.ble i 62 then (bif Nat.ble i 60 then (bif Nat.ble i 59 then (108, .iadd, 0, 0, 0, []) else (109, .iload 5, 0, 0, 0, [])) else (bif Nat.ble i 61 then (111, .iload 6, 0, 0, 0, []) else (113, .invokestatic 237, 183, 2, 0, []))) else (bif Nat.ble i 64 then (bif Nat.ble i 63 then (116, .ifCond .eq 8, 66, 0, 0, []) else (119, .bipush 12, 0, 0, 12, [])) else (bif Nat.ble i 65 then (121, .goto 13, 71, 0, 0, []) else (bif Nat.ble i 66 then (124, .aload_n 0, 0, 0, 0, []) else (125, .getfield 19, 5, 7, 0, [])))))))) else (bif Nat.ble i 101 then (bif Nat.ble i 84 then (bif Nat.ble i 75 then (bif Nat.ble i 71 then (bif Nat.ble i 69 then (bif Nat.ble i 68 then (128, .iload 6, 0, 0, 0, []) else (130, .iconst 2, 0, 0, 2, [])) else (bif Nat.ble i 70 then (131, .invokestatic 160, 185, 3, 0, []) else (134, .iastore, 0, 0, 0, []))) else (bif Nat.ble i 73 then (bif Nat.ble i 72 then (135, .iinc 6 1, 0, 0, 1, []) else (138, .goto (-53), 45, 0, 0, [])) else (bif Nat.ble i 74 then (141, .iconst 1, 0, 0, 1, []) else (142, .istore 6, 0, 0, 0, [])))) else (bif Nat.ble i 79 then (bif Nat.ble i 77 then (bif Nat.ble i 76 then (144, .iconst 0, 0, 0, 0, []) else (145, .istore 7, 0, 0, 0, [])) else (bif Nat.ble i 78 then (147, .iload 7, 0, 0, 0, []) else (149, .iload_n 2, 0, 0, 0, []))) else (bif Nat.ble i 81 then (bif Nat.ble i 80 then (150, .if_icmp .ge 80, 117, 0, 0, []) else (153, .iload 6, 0, 0, 0, [])) else (bif Nat.ble i 82 then (155, .ifCond .eq 75, 117, 0, 0, []) else (bif Nat.ble i 83 then (158, .aload_n 0, 0, 0, 0, []) else (159, .aload_n 0, 0, 0, 0, [])))))) else (bif Nat.ble i 92 then (bif Nat.ble i 88 then (bif Nat.ble i 86 then (bif Nat.ble i 85 then (160, .getfield 25, 7, 7, 0, []) else (163, .invokevirtual 183, 191, 2, 0, [])) else (bif Nat.ble i 87 then (166, .iconst 0, 0, 0, 0, []) else (167, .istore 8, 0, 0, 0, []))) else (bif Nat.ble i 90 then (bif Nat.ble i 89 then (169, .iload 8, 0, 0, 0, []) else (171, .aload_n 0, 0, 0, 0, [])) else (bif Nat.ble i 91 then (172, .getfield 19, 5, 7, 0, []) else (175, .iconst 2, 0, 0, 2, [])))) else (bif Nat.ble i 96 then (bif Nat.ble i 94 then (bif Nat.ble i 93 then (176, .iaload, 0, 0, 0, []) else (177, .if_icmp .ge 47, 115, 0, 0, [])) else (bif Nat.ble i 95 then (180, .iload 6, 0, 0, 0, []) else (182, .ifCond .eq 33, 111, 0, 0, []))) else (bif Nat.ble i 98 then (bif Nat.ble i 97 then (185, .aload_n 0, 0, 0, 0, []) else (186, .getfield 19, 5, 7, 0, [])) else (bif Nat.ble i 99 then (189, .iload 8, 0, 0, 0, []) else (bif Nat.ble i 100 then (191, .iload_n 1, 0, 0, 0, []) else (192, .invokestatic 217, 187, 3, 0, []))))))) else (bif Nat.ble i 118 then (bif Nat.ble i 109 then (bif Nat.ble i 105 then (bif Nat.ble i 103 then (bif Nat.ble i 102 then (195, .ifCond .ne 16, 109, 0, 0, []) else (198, .aload_n 0, 0, 0, 0, [])) else (bif Nat.ble i 104 then (199, .getfield 25, 7, 7, 0, []) else (202, .iload 8, 0, 0, 0, []))) else (bif Nat.ble i 107 then (bif Nat.ble i 106 then (204, .iload_n 1, 0, 0, 0, []) else (205, .invokestatic 217, 187, 3, 0, [])) else (bif Nat.ble i 108 then (208, .ifCond .ne 7, 111, 0, 0, []) else (211, .iconst 1, 0, 0, 1, [])))) else (bif Nat.ble i 113 then (bif Nat.ble i 111 then (bif Nat.ble i 110 then (212, .goto 4, 112, 0, 0, []) else (215, .iconst 0, 0, 0, 0, [])) else (bif Nat.ble i 112 then (216, .istore 6, 0, 0, 0, []) else (218, .iinc 8 1, 0, 0, 1, []))) else (bif Nat.ble i 115 then (bif Nat.ble i 114 then (221, .goto (-52), 89, 0, 0, []) else (224, .iinc 7 1, 0, 0, 1, [])) else (bif Nat.ble i 116 then (227, .goto (-80), 78, 0, 0, []) else (bif Nat.ble i 117 then (230, .iload 6, 0, 0, 0, []) else (232, .ifCond .eq 8, 121, 0, 0, [])))))) else (bif Nat.ble i 126 then (bif Nat.ble i 122 then (bif Nat.ble i 120 then (bif Nat.ble i 119 then (235, .iload 5, 0, 0, 0, []) else (237, .goto 5, 122, 0, 0, [])) else (bif Nat.ble i 121 then (240, .iload 4, 0, 0, 0, []) else (242, .istore 4, 0, 0, 0, []))) else (bif Nat.ble i 124 then (bif Nat.ble i 123 then (244, .iinc 5 1, 0, 0, 1, []) else (247, .goto (-202), 25, 0, 0, [])) else (bif Nat.ble i 125 then (250, .iload 4, 0, 0, 0, []) else (252, .ldc 90, 0, 0, (-1000000), [])))) else (bif Nat.ble i 130 then (bif Nat.ble i 128 then (bif Nat.ble i 127 then (254, .if_icmp .eq 8, 131, 0, 0, []) else (257, .iload_n 3, 0, 0, 0, [])) else (bif Nat.ble i 129 then (258, .iconst 1, 0, 0, 1, []) else (259, .if_icmp .ne 8, 133, 0, 0, []))) else (bif Nat.ble i 132 then (bif Nat.ble i 131 then (262, .iload 4, 0, 0, 0, []) else (264, .goto 8, 135, 0, 0, [])) else (bif Nat.ble i 133 then (267, .iload 4, 0, 0, 0, []) else (bif Nat.ble i 134 then (269, .invokestatic 234, 182, 1, 0, []) else (272, .ireturn, 0, 0, 0, [])))))))))
/-- GridQuarrelsModel.lures(IIII)I -/
def cd214 : Nat → mmE := fun i => (bif Nat.ble i 47 then (bif Nat.ble i 23 then (bif Nat.ble i 11 then (bif Nat.ble i 5 then (bif Nat.ble i 2 then (bif Nat.ble i 0 then (0, .aload_n 0, 0, 0, 0, []) else (bif Nat.ble i 1 then (1, .iconst 0, 0, 0, 0, []) else (2, .putfield 47, 0, 7, 0, []))) else (bif Nat.ble i 3 then (5, .aload_n 0, 0, 0, 0, []) else (bif Nat.ble i 4 then (6, .iload_n 1, 0, 0, 0, []) else (7, .invokevirtual 212, 181, 2, 0, [])))) else (bif Nat.ble i 8 then (bif Nat.ble i 6 then (10, .ifCond .eq 34, 23, 0, 0, []) else (bif Nat.ble i 7 then (13, .aload_n 0, 0, 0, 0, []) else (14, .iload_n 2, 0, 0, 0, []))) else (bif Nat.ble i 9 then (15, .invokevirtual 200, 179, 2, 0, []) else (bif Nat.ble i 10 then (18, .ifCond .eq 26, 23, 0, 0, []) else (21, .iload_n 3, 0, 0, 0, []))))) else (bif Nat.ble i 17 then (bif Nat.ble i 14 then (bif Nat.ble i 12 then (22, .i2l, 0, 0, 0, []) else (bif Nat.ble i 13 then (23, .lconst 1, 0, 0, 1, []) else (24, .ldc2_w 232, 0, 0, 30, []))) else (bif Nat.ble i 15 then (27, .invokestatic 57, 156, 3, 0, []) else (bif Nat.ble i 16 then (30, .ifCond .eq 14, 23, 0, 0, []) else (33, .iload 4, 0, 0, 0, [])))) else (bif Nat.ble i 20 then (bif Nat.ble i 18 then (35, .i2l, 0, 0, 0, []) else (bif Nat.ble i 19 then (36, .lconst 0, 0, 0, 0, []) else (37, .lconst 1, 0, 0, 1, []))) else (bif Nat.ble i 21 then (38, .invokestatic 57, 156, 3, 0, []) else (bif Nat.ble i 22 then (41, .ifCond .ne 6, 25, 0, 0, []) else (44, .ldc 67, 0, 0, (-1000001), [])))))) else (bif Nat.ble i 35 then (bif Nat.ble i 29 then (bif Nat.ble i 26 then (bif Nat.ble i 24 then (46, .ireturn, 0, 0, 0, []) else (bif Nat.ble i 25 then (47, .ldc 90, 0, 0, (-1000000), []) else (49, .istore 5, 0, 0, 0, []))) else (bif Nat.ble i 27 then (51, .iconst 0, 0, 0, 0, []) else (bif Nat.ble i 28 then (52, .istore 6, 0, 0, 0, []) else (54, .iload 6, 0, 0, 0, [])))) else (bif Nat.ble i 32 then (bif Nat.ble i 30 then (56, .iconst 1, 0, 0, 1, []) else (bif Nat.ble i 31 then (57, .aload_n 0, 0, 0, 0, []) else (58, .getfield 19, 5, 7, 0, []))) else (bif Nat.ble i 33 then (61, .iconst 0, 0, 0, 0, []) else (bif Nat.ble i 34 then (62, .iaload, 0, 0, 0, []) else (63, .ishl, 0, 0, 0, []))))) else (bif Nat.ble i 41 then (bif Nat.ble i 38 then (bif Nat.ble i 36 then (64, .if_icmp .ge 108, 85, 0, 0, []) else (bif Nat.ble i 37 then (67, .iload 5, 0, 0, 0, []) else (69, .ldc 90, 0, 0, (-1000000), []))) else (bif Nat.ble i 39 then (71, .if_icmp .eq 16, 45, 0, 0, []) else (bif Nat.ble i 40 then (74, .iload 6, 0, 0, 0, []) else (76, .invokestatic 234, 182, 1, 0, [])))) else (bif Nat.ble i 44 then (bif Nat.ble i 42 then (79, .iload 5, 0, 0, 0, []) else (bif Nat.ble i 43 then (81, .invokestatic 234, 182, 1, 0, []) else (84, .if_icmp .ge 82, 83, 0, 0, []))) else (bif Nat.ble i 45 then (87, .aload_n 0, 0, 0, 0, []) else (bif Nat.ble i 46 then (88, .invokevirtual 222, 193, 1, 0, []) else (91, .iconst 0, 0, 0, 0, []))))))) else (bif Nat.ble i 71 then (bif Nat.ble i 59 then (bif Nat.ble i 53 then (bif Nat.ble i 50 then (bif Nat.ble i 48 then (92, .istore 7, 0, 0, 0, []) else (bif Nat.ble i 49 then (94, .iload 7, 0, 0, 0, []) else (96, .aload_n 0, 0, 0, 0, []))) else (bif Nat.ble i 51 then (97, .getfield 19, 5, 7, 0, []) else (bif Nat.ble i 52 then (100, .iconst 0, 0, 0, 0, []) else (101, .iaload, 0, 0, 0, [])))) else (bif Nat.ble i 56 then (bif Nat.ble i 54 then (102, .if_icmp .ge 34, 68, 0, 0, []) else (bif Nat.ble i 55 then (105, .aload_n 0, 0, 0, 0, []) else (106, .getfield 25, 7, 7, 0, []))) else (bif Nat.ble i 57 then (109, .iload 7, 0, 0, 0, []) else (bif Nat.ble i 58 then (111, .iload 6, 0, 0, 0, []) else (113, .iload 7, 0, 0, 0, []))))) else (bif Nat.ble i 65 then (bif Nat.ble i 62 then (bif Nat.ble i 60 then (115, .invokestatic 237, 183, 2, 0, []) else (bif Nat.ble i 61 then (118, .ifCond .eq 8, 64, 0, 0, []) else (121, .bipush 9, 0, 0, 9, []))) else (bif Nat.ble i 63 then (123, .goto 4, 65, 0, 0, []) else (bif Nat.ble i 64 then (126, .iconst 0, 0, 0, 0, []) else (127, .invokestatic 205, 195, 3, 0, [])))) else (bif Nat.ble i 68 then (bif Nat.ble i 66 then (130, .iinc 7 1, 0, 0, 1, []) else (bif Nat.ble i 67 then (133, .goto (-39), 49, 0, 0, []) else (136, .aload_n 0, 0, 0, 0, []))) else (bif Nat.ble i 69 then (137, .aload_n 0, 0, 0, 0, []) else (bif Nat.ble i 70 then (138, .getfield 25, 7, 7, 0, []) else (141, .iload_n 3, 0, 0, 0, [])))))) else (bif Nat.ble i 83 then (bif Nat.ble i 77 then (bif Nat.ble i 74 then (bif Nat.ble i 72 then (142, .invokevirtual 225, 192, 3, 0, []) else (bif Nat.ble i 73 then (145, .aload_n 0, 0, 0, 0, []) else (146, .getfield 25, 7, 7, 0, []))) else (bif Nat.ble i 75 then (149, .iload_n 1, 0, 0, 0, []) else (bif Nat.ble i 76 then (150, .iload_n 2, 0, 0, 0, []) else (151, .invokestatic 217, 187, 3, 0, [])))) else (bif Nat.ble i 80 then (bif Nat.ble i 78 then (154, .ifCond .eq 8, 81, 0, 0, []) else (bif Nat.ble i 79 then (157, .iload 6, 0, 0, 0, []) else (159, .goto 5, 82, 0, 0, []))) else (bif Nat.ble i 81 then (162, .iload 5, 0, 0, 0, []) else (bif Nat.ble i 82 then (164, .istore 5, 0, 0, 0, []) else (166, .iinc 6 1, 0, 0, 1, []))))) else (bif Nat.ble i 89 then (bif Nat.ble i 86 then (bif Nat.ble i 84 then (169, .goto (-115), 29, 0, 0, []) else (bif Nat.ble i 85 then (172, .iload 5, 0, 0, 0, []) else (174, .ldc 90, 0, 0, (-1000000), []))) else (bif Nat.ble i 87 then (176, .if_icmp .eq 9, 91, 0, 0, []) else (bif Nat.ble i 88 then (179, .iload 4, 0, 0, 0, []) else (181, .iconst 1, 0, 0, 1, [])))) else (bif Nat.ble i 92 then (bif Nat.ble i 90 then (182, .if_icmp .ne 8, 93, 0, 0, []) else (bif Nat.ble i 91 then (185, .iload 5, 0, 0, 0, []) else (187, .goto 8, 95, 0, 0, []))) else (bif Nat.ble i 93 then (190, .iload 5, 0, 0, 0, []) else (bif Nat.ble i 94 then (192, .invokestatic 234, 182, 1, 0, []) else (195, .ireturn, 0, 0, 0, []))))))))
/-- GridQuarrelsModel.starve(II)I -/
def cd215 : Nat → mmE := fun i => (bif Nat.ble i 38 then (bif Nat.ble i 18 then (bif Nat.ble i 8 then (bif Nat.ble i 3 then (bif Nat.ble i 1 then (bif Nat.ble i 0 then (0, .aload_n 0, 0, 0, 0, []) else (1, .iconst 0, 0, 0, 0, [])) else (bif Nat.ble i 2 then (2, .putfield 47, 0, 7, 0, []) else (5, .aload_n 0, 0, 0, 0, []))) else (bif Nat.ble i 5 then (bif Nat.ble i 4 then (6, .iload_n 1, 0, 0, 0, []) else (7, .invokevirtual 212, 181, 2, 0, [])) else (bif Nat.ble i 6 then (10, .ifCond .eq 13, 13, 0, 0, []) else (bif Nat.ble i 7 then (13, .iload_n 2, 0, 0, 0, []) else (14, .i2l, 0, 0, 0, []))))) else (bif Nat.ble i 13 then (bif Nat.ble i 10 then (bif Nat.ble i 9 then (15, .lconst 0, 0, 0, 0, []) else (16, .lconst 1, 0, 0, 1, [])) else (bif Nat.ble i 11 then (17, .invokestatic 57, 156, 3, 0, []) else (bif Nat.ble i 12 then (20, .ifCond .ne 6, 15, 0, 0, []) else (23, .ldc 67, 0, 0, (-1000001), [])))) else (bif Nat.ble i 15 then (bif Nat.ble i 14 then (25, .ireturn, 0, 0, 0, []) else (26, .ldc 90, 0, 0, (-1000000), [])) else (bif Nat.ble i 16 then (28, .istore_n 3, 0, 0, 0, []) else (bif Nat.ble i 17 then (29, .ldc 90, 0, 0, (-1000000), []) else (31, .istore 4, 0, 0, 0, [])))))) else (bif Nat.ble i 28 then (bif Nat.ble i 23 then (bif Nat.ble i 20 then (bif Nat.ble i 19 then (33, .iconst 0, 0, 0, 0, []) else (34, .istore 5, 0, 0, 0, [])) else (bif Nat.ble i 21 then (36, .iload 5, 0, 0, 0, []) else (bif Nat.ble i 22 then (38, .aload_n 0, 0, 0, 0, []) else (39, .getfield 19, 5, 7, 0, [])))) else (bif Nat.ble i 25 then (bif Nat.ble i 24 then (42, .iconst 0, 0, 0, 0, []) else (43, .iaload, 0, 0, 0, [])) else (bif Nat.ble i 26 then (44, .if_icmp .ge 94, 72, 0, 0, []) else (bif Nat.ble i 27 then (47, .aload_n 0, 0, 0, 0, []) else (48, .getfield 19, 5, 7, 0, []))))) else (bif Nat.ble i 33 then (bif Nat.ble i 30 then (bif Nat.ble i 29 then (51, .iload_n 1, 0, 0, 0, []) else (52, .invokestatic 156, 186, 2, 0, [])) else (bif Nat.ble i 31 then (55, .ifCond .eq 83, 72, 0, 0, []) else (bif Nat.ble i 32 then (58, .aload_n 0, 0, 0, 0, []) else (59, .invokevirtual 222, 193, 1, 0, [])))) else (bif Nat.ble i 35 then (bif Nat.ble i 34 then (62, .aload_n 0, 0, 0, 0, []) else (63, .getfield 25, 7, 7, 0, [])) else (bif Nat.ble i 36 then (66, .iconst 4, 0, 0, 4, []) else (bif Nat.ble i 37 then (67, .iload 5, 0, 0, 0, []) else (69, .iadd, 0, 0, 0, []))))))) else (bif Nat.ble i 57 then (bif Nat.ble i 47 then (bif Nat.ble i 42 then (bif Nat.ble i 40 then (bif Nat.ble i 39 then (70, .iconst 0, 0, 0, 0, []) else (71, .iastore, 0, 0, 0, [])) else (bif Nat.ble i 41 then (72, .aload_n 0, 0, 0, 0, []) else (73, .iload_n 1, 0, 0, 0, []))) else (bif Nat.ble i 44 then (bif Nat.ble i 43 then (74, .invokevirtual 229, 208, 2, 0, []) else (77, .istore 6, 0, 0, 0, [])) else (bif Nat.ble i 45 then (79, .iload 6, 0, 0, 0, []) else (bif Nat.ble i 46 then (81, .ldc 90, 0, 0, (-1000000), []) else (83, .if_icmp .eq 20, 56, 0, 0, []))))) else (bif Nat.ble i 52 then (bif Nat.ble i 49 then (bif Nat.ble i 48 then (86, .iload_n 3, 0, 0, 0, []) else (87, .ldc 90, 0, 0, (-1000000), [])) else (bif Nat.ble i 50 then (89, .if_icmp .eq 10, 54, 0, 0, []) else (bif Nat.ble i 51 then (92, .iload 6, 0, 0, 0, []) else (94, .iload 4, 0, 0, 0, [])))) else (bif Nat.ble i 54 then (bif Nat.ble i 53 then (96, .if_icmp .ge 7, 56, 0, 0, []) else (99, .iconst 1, 0, 0, 1, [])) else (bif Nat.ble i 55 then (100, .goto 4, 57, 0, 0, []) else (bif Nat.ble i 56 then (103, .iconst 0, 0, 0, 0, []) else (104, .istore 7, 0, 0, 0, [])))))) else (bif Nat.ble i 67 then (bif Nat.ble i 62 then (bif Nat.ble i 59 then (bif Nat.ble i 58 then (106, .iload 7, 0, 0, 0, []) else (108, .ifCond .eq 8, 62, 0, 0, [])) else (bif Nat.ble i 60 then (111, .iload 5, 0, 0, 0, []) else (bif Nat.ble i 61 then (113, .goto 4, 63, 0, 0, []) else (116, .iload_n 3, 0, 0, 0, [])))) else (bif Nat.ble i 64 then (bif Nat.ble i 63 then (117, .istore_n 3, 0, 0, 0, []) else (118, .iload 7, 0, 0, 0, [])) else (bif Nat.ble i 65 then (120, .ifCond .eq 8, 68, 0, 0, []) else (bif Nat.ble i 66 then (123, .iload 6, 0, 0, 0, []) else (125, .goto 5, 69, 0, 0, []))))) else (bif Nat.ble i 72 then (bif Nat.ble i 69 then (bif Nat.ble i 68 then (128, .iload 4, 0, 0, 0, []) else (130, .istore 4, 0, 0, 0, [])) else (bif Nat.ble i 70 then (132, .iinc 5 1, 0, 0, 1, []) else (bif Nat.ble i 71 then (135, .goto (-99), 21, 0, 0, []) else (138, .iload_n 2, 0, 0, 0, [])))) else (bif Nat.ble i 74 then (bif Nat.ble i 73 then (139, .ifCond .ne 7, 76, 0, 0, []) else (142, .iload_n 3, 0, 0, 0, [])) else (bif Nat.ble i 75 then (143, .goto 5, 77, 0, 0, []) else (bif Nat.ble i 76 then (146, .iload 4, 0, 0, 0, []) else (148, .ireturn, 0, 0, 0, []))))))))
/-- GridQuarrelsModel.reachBy(II)I -/
def cd216 : Nat → mmE := fun i => (bif Nat.ble i 37 then (bif Nat.ble i 18 then (bif Nat.ble i 8 then (bif Nat.ble i 3 then (bif Nat.ble i 1 then (bif Nat.ble i 0 then (0, .iconst 1, 0, 0, 1, []) else (1, .aload_n 0, 0, 0, 0, [])) else (bif Nat.ble i 2 then (2, .getfield 19, 5, 7, 0, []) else (5, .iload_n 1, 0, 0, 0, []))) else (bif Nat.ble i 5 then (bif Nat.ble i 4 then (6, .iconst 1, 0, 0, 1, []) else (7, .invokestatic 152, 184, 3, 0, [])) else (bif Nat.ble i 6 then (10, .ishl, 0, 0, 0, []) else (bif Nat.ble i 7 then (11, .istore_n 3, 0, 0, 0, []) else (12, .iconst 0, 0, 0, 0, []))))) else (bif Nat.ble i 13 then (bif Nat.ble i 10 then (bif Nat.ble i 9 then (13, .istore 4, 0, 0, 0, []) else (15, .iload 4, 0, 0, 0, [])) else (bif Nat.ble i 11 then (17, .iload_n 2, 0, 0, 0, []) else (bif Nat.ble i 12 then (18, .if_icmp .ge 124, 75, 0, 0, []) else (21, .iload_n 3, 0, 0, 0, [])))) else (bif Nat.ble i 15 then (bif Nat.ble i 14 then (22, .istore 5, 0, 0, 0, []) else (24, .iconst 0, 0, 0, 0, [])) else (bif Nat.ble i 16 then (25, .istore 6, 0, 0, 0, []) else (bif Nat.ble i 17 then (27, .iload 6, 0, 0, 0, []) else (29, .aload_n 0, 0, 0, 0, [])))))) else (bif Nat.ble i 27 then (bif Nat.ble i 22 then (bif Nat.ble i 20 then (bif Nat.ble i 19 then (30, .getfield 19, 5, 7, 0, []) else (33, .iconst 1, 0, 0, 1, [])) else (bif Nat.ble i 21 then (34, .iaload, 0, 0, 0, []) else (35, .if_icmp .ge 98, 71, 0, 0, []))) else (bif Nat.ble i 24 then (bif Nat.ble i 23 then (38, .aload_n 0, 0, 0, 0, []) else (39, .getfield 19, 5, 7, 0, [])) else (bif Nat.ble i 25 then (42, .iload_n 1, 0, 0, 0, []) else (bif Nat.ble i 26 then (43, .iload 6, 0, 0, 0, []) else (45, .invokestatic 166, 188, 3, 0, []))))) else (bif Nat.ble i 32 then (bif Nat.ble i 29 then (bif Nat.ble i 28 then (48, .ifCond .eq 79, 69, 0, 0, []) else (51, .iload 5, 0, 0, 0, [])) else (bif Nat.ble i 30 then (53, .iload_n 3, 0, 0, 0, []) else (bif Nat.ble i 31 then (54, .aload_n 0, 0, 0, 0, []) else (55, .getfield 19, 5, 7, 0, [])))) else (bif Nat.ble i 34 then (bif Nat.ble i 33 then (58, .iload 6, 0, 0, 0, []) else (60, .iconst 0, 0, 0, 0, [])) else (bif Nat.ble i 35 then (61, .invokestatic 160, 185, 3, 0, []) else (bif Nat.ble i 36 then (64, .invokestatic 237, 183, 2, 0, []) else (67, .ifCond .eq 18, 46, 0, 0, []))))))) else (bif Nat.ble i 56 then (bif Nat.ble i 46 then (bif Nat.ble i 41 then (bif Nat.ble i 39 then (bif Nat.ble i 38 then (70, .iconst 1, 0, 0, 1, []) else (71, .aload_n 0, 0, 0, 0, [])) else (bif Nat.ble i 40 then (72, .getfield 19, 5, 7, 0, []) else (75, .iload 6, 0, 0, 0, []))) else (bif Nat.ble i 43 then (bif Nat.ble i 42 then (77, .iconst 1, 0, 0, 1, []) else (78, .invokestatic 160, 185, 3, 0, [])) else (bif Nat.ble i 44 then (81, .ishl, 0, 0, 0, []) else (bif Nat.ble i 45 then (82, .goto 4, 47, 0, 0, []) else (85, .iconst 0, 0, 0, 0, []))))) else (bif Nat.ble i 51 then (bif Nat.ble i 48 then (bif Nat.ble i 47 then (86, .ior, 0, 0, 0, []) else (87, .istore 5, 0, 0, 0, [])) else (bif Nat.ble i 49 then (89, .iload 5, 0, 0, 0, []) else (bif Nat.ble i 50 then (91, .iload_n 3, 0, 0, 0, []) else (92, .aload_n 0, 0, 0, 0, [])))) else (bif Nat.ble i 53 then (bif Nat.ble i 52 then (93, .getfield 19, 5, 7, 0, []) else (96, .iload 6, 0, 0, 0, [])) else (bif Nat.ble i 54 then (98, .iconst 1, 0, 0, 1, []) else (bif Nat.ble i 55 then (99, .invokestatic 160, 185, 3, 0, []) else (102, .invokestatic 237, 183, 2, 0, [])))))) else (bif Nat.ble i 66 then (bif Nat.ble i 61 then (bif Nat.ble i 58 then (bif Nat.ble i 57 then (105, .ifCond .eq 18, 66, 0, 0, []) else (108, .iconst 1, 0, 0, 1, [])) else (bif Nat.ble i 59 then (109, .aload_n 0, 0, 0, 0, []) else (bif Nat.ble i 60 then (110, .getfield 19, 5, 7, 0, []) else (113, .iload 6, 0, 0, 0, [])))) else (bif Nat.ble i 63 then (bif Nat.ble i 62 then (115, .iconst 0, 0, 0, 0, []) else (116, .invokestatic 160, 185, 3, 0, [])) else (bif Nat.ble i 64 then (119, .ishl, 0, 0, 0, []) else (bif Nat.ble i 65 then (120, .goto 4, 67, 0, 0, []) else (123, .iconst 0, 0, 0, 0, []))))) else (bif Nat.ble i 71 then (bif Nat.ble i 68 then (bif Nat.ble i 67 then (124, .ior, 0, 0, 0, []) else (125, .istore 5, 0, 0, 0, [])) else (bif Nat.ble i 69 then (127, .iinc 6 1, 0, 0, 1, []) else (bif Nat.ble i 70 then (130, .goto (-103), 17, 0, 0, []) else (133, .iload 5, 0, 0, 0, [])))) else (bif Nat.ble i 73 then (bif Nat.ble i 72 then (135, .istore_n 3, 0, 0, 0, []) else (136, .iinc 4 1, 0, 0, 1, [])) else (bif Nat.ble i 74 then (139, .goto (-124), 10, 0, 0, []) else (bif Nat.ble i 75 then (142, .iload_n 3, 0, 0, 0, []) else (143, .ireturn, 0, 0, 0, []))))))))
/-- GridQuarrelsModel.way(II)I -/
def cd217 : Nat → mmE := fun i => (bif Nat.ble i 18 then (bif Nat.ble i 8 then (bif Nat.ble i 3 then (bif Nat.ble i 1 then (bif Nat.ble i 0 then (0, .aload_n 0, 0, 0, 0, []) else (1, .iconst 0, 0, 0, 0, [])) else (bif Nat.ble i 2 then (2, .putfield 47, 0, 7, 0, []) else (5, .aload_n 0, 0, 0, 0, []))) else (bif Nat.ble i 5 then (bif Nat.ble i 4 then (6, .iload_n 1, 0, 0, 0, []) else (7, .invokevirtual 212, 181, 2, 0, [])) else (bif Nat.ble i 6 then (10, .ifCond .eq 11, 11, 0, 0, []) else (bif Nat.ble i 7 then (13, .aload_n 0, 0, 0, 0, []) else (14, .iload_n 2, 0, 0, 0, []))))) else (bif Nat.ble i 13 then (bif Nat.ble i 10 then (bif Nat.ble i 9 then (15, .invokevirtual 200, 179, 2, 0, []) else (18, .ifCond .ne 6, 13, 0, 0, [])) else (bif Nat.ble i 11 then (21, .ldc 67, 0, 0, (-1000001), []) else (bif Nat.ble i 12 then (23, .ireturn, 0, 0, 0, []) else (24, .aload_n 0, 0, 0, 0, [])))) else (bif Nat.ble i 15 then (bif Nat.ble i 14 then (25, .getfield 19, 5, 7, 0, []) else (28, .iload_n 1, 0, 0, 0, [])) else (bif Nat.ble i 16 then (29, .invokestatic 156, 186, 2, 0, []) else (bif Nat.ble i 17 then (32, .ifCond .ne 6, 20, 0, 0, []) else (35, .ldc 190, 0, 0, (-1000002), [])))))) else (bif Nat.ble i 27 then (bif Nat.ble i 22 then (bif Nat.ble i 20 then (bif Nat.ble i 19 then (37, .ireturn, 0, 0, 0, []) else (38, .iconst 0, 0, 0, 0, [])) else (bif Nat.ble i 21 then (39, .istore_n 3, 0, 0, 0, []) else (40, .iload_n 3, 0, 0, 0, []))) else (bif Nat.ble i 24 then (bif Nat.ble i 23 then (41, .bipush 7, 0, 0, 7, []) else (43, .if_icmp .ge 24, 36, 0, 0, [])) else (bif Nat.ble i 25 then (46, .aload_n 0, 0, 0, 0, []) else (bif Nat.ble i 26 then (47, .iload_n 1, 0, 0, 0, []) else (48, .iload_n 3, 0, 0, 0, []))))) else (bif Nat.ble i 32 then (bif Nat.ble i 29 then (bif Nat.ble i 28 then (49, .invokevirtual 241, 216, 3, 0, []) else (52, .iload_n 2, 0, 0, 0, [])) else (bif Nat.ble i 30 then (53, .invokestatic 237, 183, 2, 0, []) else (bif Nat.ble i 31 then (56, .ifCond .eq 5, 34, 0, 0, []) else (59, .iload_n 3, 0, 0, 0, [])))) else (bif Nat.ble i 34 then (bif Nat.ble i 33 then (60, .ireturn, 0, 0, 0, []) else (61, .iinc 3 1, 0, 0, 1, [])) else (bif Nat.ble i 35 then (64, .goto (-24), 22, 0, 0, []) else (bif Nat.ble i 36 then (67, .ldc 90, 0, 0, (-1000000), []) else (69, .ireturn, 0, 0, 0, [])))))))
/-- GridQuarrelsModel.reach(I)I -/
def cd218 : Nat → mmE := fun i => (bif Nat.ble i 9 then (bif Nat.ble i 4 then (bif Nat.ble i 1 then (bif Nat.ble i 0 then (0, .aload_n 0, 0, 0, 0, []) else (1, .iconst 0, 0, 0, 0, [])) else (bif Nat.ble i 2 then (2, .putfield 47, 0, 7, 0, []) else (bif Nat.ble i 3 then (5, .aload_n 0, 0, 0, 0, []) else (6, .iload_n 1, 0, 0, 0, [])))) else (bif Nat.ble i 6 then (bif Nat.ble i 5 then (7, .invokevirtual 212, 181, 2, 0, []) else (10, .ifCond .ne 6, 9, 0, 0, [])) else (bif Nat.ble i 7 then (13, .ldc 67, 0, 0, (-1000001), []) else (bif Nat.ble i 8 then (15, .ireturn, 0, 0, 0, []) else (16, .aload_n 0, 0, 0, 0, []))))) else (bif Nat.ble i 14 then (bif Nat.ble i 11 then (bif Nat.ble i 10 then (17, .getfield 19, 5, 7, 0, []) else (20, .iload_n 1, 0, 0, 0, [])) else (bif Nat.ble i 12 then (21, .invokestatic 156, 186, 2, 0, []) else (bif Nat.ble i 13 then (24, .ifCond .eq 13, 19, 0, 0, []) else (27, .aload_n 0, 0, 0, 0, [])))) else (bif Nat.ble i 17 then (bif Nat.ble i 15 then (28, .iload_n 1, 0, 0, 0, []) else (bif Nat.ble i 16 then (29, .bipush 7, 0, 0, 7, []) else (31, .invokevirtual 241, 216, 3, 0, []))) else (bif Nat.ble i 18 then (34, .goto 5, 20, 0, 0, []) else (bif Nat.ble i 19 then (37, .ldc 190, 0, 0, (-1000002), []) else (39, .ireturn, 0, 0, 0, []))))))
/-- GridQuarrelsModel.home()I -/
def cd219 : Nat → mmE := fun i => (bif Nat.ble i 19 then (bif Nat.ble i 9 then (bif Nat.ble i 4 then (bif Nat.ble i 1 then (bif Nat.ble i 0 then (0, .aload_n 0, 0, 0, 0, []) else (1, .iconst 0, 0, 0, 0, [])) else (bif Nat.ble i 2 then (2, .putfield 47, 0, 7, 0, []) else (bif Nat.ble i 3 then (5, .aload_n 0, 0, 0, 0, []) else (6, .invokevirtual 187, 178, 1, 0, [])))) else (bif Nat.ble i 6 then (bif Nat.ble i 5 then (9, .ifCond .ne 6, 8, 0, 0, []) else (12, .ldc 190, 0, 0, (-1000002), [])) else (bif Nat.ble i 7 then (14, .ireturn, 0, 0, 0, []) else (bif Nat.ble i 8 then (15, .iconst 0, 0, 0, 0, []) else (16, .istore_n 1, 0, 0, 0, []))))) else (bif Nat.ble i 14 then (bif Nat.ble i 11 then (bif Nat.ble i 10 then (17, .iconst 0, 0, 0, 0, []) else (18, .istore_n 2, 0, 0, 0, [])) else (bif Nat.ble i 12 then (19, .iload_n 2, 0, 0, 0, []) else (bif Nat.ble i 13 then (20, .aload_n 0, 0, 0, 0, []) else (21, .getfield 19, 5, 7, 0, [])))) else (bif Nat.ble i 16 then (bif Nat.ble i 15 then (24, .iconst 2, 0, 0, 2, []) else (25, .iaload, 0, 0, 0, [])) else (bif Nat.ble i 17 then (26, .if_icmp .ge 39, 38, 0, 0, []) else (bif Nat.ble i 18 then (29, .iload_n 1, 0, 0, 0, []) else (30, .aload_n 0, 0, 0, 0, [])))))) else (bif Nat.ble i 29 then (bif Nat.ble i 24 then (bif Nat.ble i 21 then (bif Nat.ble i 20 then (31, .getfield 19, 5, 7, 0, []) else (34, .iload_n 2, 0, 0, 0, [])) else (bif Nat.ble i 22 then (35, .aload_n 0, 0, 0, 0, []) else (bif Nat.ble i 23 then (36, .getfield 19, 5, 7, 0, []) else (39, .iload_n 2, 0, 0, 0, [])))) else (bif Nat.ble i 26 then (bif Nat.ble i 25 then (40, .iconst 3, 0, 0, 3, []) else (41, .invokestatic 152, 184, 3, 0, [])) else (bif Nat.ble i 27 then (44, .invokestatic 217, 187, 3, 0, []) else (bif Nat.ble i 28 then (47, .ifCond .eq 9, 33, 0, 0, []) else (50, .iconst 1, 0, 0, 1, []))))) else (bif Nat.ble i 34 then (bif Nat.ble i 31 then (bif Nat.ble i 30 then (51, .iload_n 2, 0, 0, 0, []) else (52, .ishl, 0, 0, 0, [])) else (bif Nat.ble i 32 then (53, .goto 4, 34, 0, 0, []) else (bif Nat.ble i 33 then (56, .iconst 0, 0, 0, 0, []) else (57, .ior, 0, 0, 0, [])))) else (bif Nat.ble i 36 then (bif Nat.ble i 35 then (58, .istore_n 1, 0, 0, 0, []) else (59, .iinc 2 1, 0, 0, 1, [])) else (bif Nat.ble i 37 then (62, .goto (-43), 12, 0, 0, []) else (bif Nat.ble i 38 then (65, .iload_n 1, 0, 0, 0, []) else (66, .ireturn, 0, 0, 0, [])))))))
/-- GridQuarrelsModel.fed(II)I -/
def cd220 : Nat → mmE := fun i => (bif Nat.ble i 51 then (bif Nat.ble i 25 then (bif Nat.ble i 12 then (bif Nat.ble i 5 then (bif Nat.ble i 2 then (bif Nat.ble i 0 then (0, .aload_n 0, 0, 0, 0, []) else (bif Nat.ble i 1 then (1, .iconst 0, 0, 0, 0, []) else (2, .putfield 47, 0, 7, 0, []))) else (bif Nat.ble i 3 then (5, .aload_n 0, 0, 0, 0, []) else (bif Nat.ble i 4 then (6, .invokevirtual 187, 178, 1, 0, []) else (9, .ifCond .ne 6, 8, 0, 0, [])))) else (bif Nat.ble i 8 then (bif Nat.ble i 6 then (12, .ldc 190, 0, 0, (-1000002), []) else (bif Nat.ble i 7 then (14, .ireturn, 0, 0, 0, []) else (15, .iload_n 1, 0, 0, 0, []))) else (bif Nat.ble i 10 then (bif Nat.ble i 9 then (16, .i2l, 0, 0, 0, []) else (17, .lconst 1, 0, 0, 1, [])) else (bif Nat.ble i 11 then (18, .ldc2_w 220, 0, 0, 60, []) else (21, .invokestatic 57, 156, 3, 0, []))))) else (bif Nat.ble i 18 then (bif Nat.ble i 15 then (bif Nat.ble i 13 then (24, .ifCond .eq 13, 20, 0, 0, []) else (bif Nat.ble i 14 then (27, .iload_n 2, 0, 0, 0, []) else (28, .i2l, 0, 0, 0, []))) else (bif Nat.ble i 16 then (29, .lconst 0, 0, 0, 0, []) else (bif Nat.ble i 17 then (30, .lconst 1, 0, 0, 1, []) else (31, .invokestatic 57, 156, 3, 0, [])))) else (bif Nat.ble i 21 then (bif Nat.ble i 19 then (34, .ifCond .ne 6, 22, 0, 0, []) else (bif Nat.ble i 20 then (37, .ldc 67, 0, 0, (-1000001), []) else (39, .ireturn, 0, 0, 0, []))) else (bif Nat.ble i 23 then (bif Nat.ble i 22 then (40, .aload_n 0, 0, 0, 0, []) else (41, .invokevirtual 222, 193, 1, 0, [])) else (bif Nat.ble i 24 then (44, .iconst 0, 0, 0, 0, []) else (45, .istore_n 3, 0, 0, 0, [])))))) else (bif Nat.ble i 38 then (bif Nat.ble i 31 then (bif Nat.ble i 28 then (bif Nat.ble i 26 then (46, .iload_n 3, 0, 0, 0, []) else (bif Nat.ble i 27 then (47, .iconst 5, 0, 0, 5, []) else (48, .if_icmp .ge 16, 36, 0, 0, []))) else (bif Nat.ble i 29 then (51, .aload_n 0, 0, 0, 0, []) else (bif Nat.ble i 30 then (52, .getfield 34, 22, 7, 0, []) else (55, .iload_n 3, 0, 0, 0, [])))) else (bif Nat.ble i 34 then (bif Nat.ble i 32 then (56, .iconst 0, 0, 0, 0, []) else (bif Nat.ble i 33 then (57, .iastore, 0, 0, 0, []) else (58, .iinc 3 1, 0, 0, 1, []))) else (bif Nat.ble i 36 then (bif Nat.ble i 35 then (61, .goto (-15), 26, 0, 0, []) else (64, .iconst 0, 0, 0, 0, [])) else (bif Nat.ble i 37 then (65, .istore_n 3, 0, 0, 0, []) else (66, .iload_n 3, 0, 0, 0, []))))) else (bif Nat.ble i 44 then (bif Nat.ble i 41 then (bif Nat.ble i 39 then (67, .iload_n 1, 0, 0, 0, []) else (bif Nat.ble i 40 then (68, .if_icmp .ge 56, 70, 0, 0, []) else (71, .aload_n 0, 0, 0, 0, []))) else (bif Nat.ble i 42 then (72, .aload_n 0, 0, 0, 0, []) else (bif Nat.ble i 43 then (73, .getfield 25, 7, 7, 0, []) else (76, .invokevirtual 183, 191, 2, 0, [])))) else (bif Nat.ble i 47 then (bif Nat.ble i 45 then (79, .iconst 0, 0, 0, 0, []) else (bif Nat.ble i 46 then (80, .istore 4, 0, 0, 0, []) else (82, .iload 4, 0, 0, 0, []))) else (bif Nat.ble i 49 then (bif Nat.ble i 48 then (84, .aload_n 0, 0, 0, 0, []) else (85, .getfield 19, 5, 7, 0, [])) else (bif Nat.ble i 50 then (88, .iconst 2, 0, 0, 2, []) else (89, .iaload, 0, 0, 0, []))))))) else (bif Nat.ble i 77 then (bif Nat.ble i 64 then (bif Nat.ble i 57 then (bif Nat.ble i 54 then (bif Nat.ble i 52 then (90, .if_icmp .ge 28, 68, 0, 0, []) else (bif Nat.ble i 53 then (93, .aload_n 0, 0, 0, 0, []) else (94, .getfield 34, 22, 7, 0, []))) else (bif Nat.ble i 55 then (97, .iload 4, 0, 0, 0, []) else (bif Nat.ble i 56 then (99, .dup2, 0, 0, 0, []) else (100, .iaload, 0, 0, 0, [])))) else (bif Nat.ble i 60 then (bif Nat.ble i 58 then (101, .aload_n 0, 0, 0, 0, []) else (bif Nat.ble i 59 then (102, .getfield 170, 19, 7, 0, []) else (105, .iload 4, 0, 0, 0, []))) else (bif Nat.ble i 62 then (bif Nat.ble i 61 then (107, .ishr, 0, 0, 0, []) else (108, .iconst 1, 0, 0, 1, [])) else (bif Nat.ble i 63 then (109, .iand, 0, 0, 0, []) else (110, .iadd, 0, 0, 0, []))))) else (bif Nat.ble i 70 then (bif Nat.ble i 67 then (bif Nat.ble i 65 then (111, .iastore, 0, 0, 0, []) else (bif Nat.ble i 66 then (112, .iinc 4 1, 0, 0, 1, []) else (115, .goto (-33), 47, 0, 0, []))) else (bif Nat.ble i 68 then (118, .iinc 3 1, 0, 0, 1, []) else (bif Nat.ble i 69 then (121, .goto (-55), 38, 0, 0, []) else (124, .iconst 0, 0, 0, 0, [])))) else (bif Nat.ble i 73 then (bif Nat.ble i 71 then (125, .istore_n 3, 0, 0, 0, []) else (bif Nat.ble i 72 then (126, .iconst 1, 0, 0, 1, []) else (127, .istore 4, 0, 0, 0, []))) else (bif Nat.ble i 75 then (bif Nat.ble i 74 then (129, .iload 4, 0, 0, 0, []) else (131, .aload_n 0, 0, 0, 0, [])) else (bif Nat.ble i 76 then (132, .getfield 19, 5, 7, 0, []) else (135, .iconst 2, 0, 0, 2, [])))))) else (bif Nat.ble i 90 then (bif Nat.ble i 83 then (bif Nat.ble i 80 then (bif Nat.ble i 78 then (136, .iaload, 0, 0, 0, []) else (bif Nat.ble i 79 then (137, .if_icmp .ge 32, 95, 0, 0, []) else (140, .aload_n 0, 0, 0, 0, []))) else (bif Nat.ble i 81 then (141, .getfield 34, 22, 7, 0, []) else (bif Nat.ble i 82 then (144, .iload 4, 0, 0, 0, []) else (146, .iaload, 0, 0, 0, [])))) else (bif Nat.ble i 86 then (bif Nat.ble i 84 then (147, .aload_n 0, 0, 0, 0, []) else (bif Nat.ble i 85 then (148, .getfield 34, 22, 7, 0, []) else (151, .iload_n 3, 0, 0, 0, []))) else (bif Nat.ble i 88 then (bif Nat.ble i 87 then (152, .iaload, 0, 0, 0, []) else (153, .if_icmp .le 8, 91, 0, 0, [])) else (bif Nat.ble i 89 then (156, .iload 4, 0, 0, 0, []) else (158, .goto 4, 92, 0, 0, []))))) else (bif Nat.ble i 96 then (bif Nat.ble i 93 then (bif Nat.ble i 91 then (161, .iload_n 3, 0, 0, 0, []) else (bif Nat.ble i 92 then (162, .istore_n 3, 0, 0, 0, []) else (163, .iinc 4 1, 0, 0, 1, []))) else (bif Nat.ble i 94 then (166, .goto (-37), 74, 0, 0, []) else (bif Nat.ble i 95 then (169, .iload_n 2, 0, 0, 0, []) else (170, .ifCond .ne 7, 99, 0, 0, [])))) else (bif Nat.ble i 99 then (bif Nat.ble i 97 then (173, .iload_n 3, 0, 0, 0, []) else (bif Nat.ble i 98 then (174, .goto 9, 103, 0, 0, []) else (177, .aload_n 0, 0, 0, 0, []))) else (bif Nat.ble i 101 then (bif Nat.ble i 100 then (178, .getfield 34, 22, 7, 0, []) else (181, .iload_n 3, 0, 0, 0, [])) else (bif Nat.ble i 102 then (182, .iaload, 0, 0, 0, []) else (183, .ireturn, 0, 0, 0, []))))))))
/-- GridQuarrelsModel.isSo(III)Z -/
def cd221 : Nat → mmE := fun i => (bif Nat.ble i 15 then (bif Nat.ble i 7 then (bif Nat.ble i 3 then (bif Nat.ble i 1 then (bif Nat.ble i 0 then (0, .iconst 1, 0, 0, 1, []) else (1, .istore 4, 0, 0, 0, [])) else (bif Nat.ble i 2 then (3, .iconst 0, 0, 0, 0, []) else (4, .istore 5, 0, 0, 0, []))) else (bif Nat.ble i 5 then (bif Nat.ble i 4 then (6, .iload 5, 0, 0, 0, []) else (8, .iload_n 3, 0, 0, 0, [])) else (bif Nat.ble i 6 then (9, .if_icmp .ge 50, 31, 0, 0, []) else (12, .aload_n 0, 0, 0, 0, [])))) else (bif Nat.ble i 11 then (bif Nat.ble i 9 then (bif Nat.ble i 8 then (13, .aload_n 0, 0, 0, 0, []) else (14, .getfield 25, 7, 7, 0, [])) else (bif Nat.ble i 10 then (17, .invokevirtual 183, 191, 2, 0, []) else (20, .iload 4, 0, 0, 0, []))) else (bif Nat.ble i 13 then (bif Nat.ble i 12 then (22, .ifCond .eq 28, 27, 0, 0, []) else (25, .aload_n 0, 0, 0, 0, [])) else (bif Nat.ble i 14 then (26, .getfield 25, 7, 7, 0, []) else (29, .iload_n 1, 0, 0, 0, []))))) else (bif Nat.ble i 23 then (bif Nat.ble i 19 then (bif Nat.ble i 17 then (bif Nat.ble i 16 then (30, .iconst 1, 0, 0, 1, []) else (31, .invokestatic 152, 184, 3, 0, [])) else (bif Nat.ble i 18 then (34, .aload_n 0, 0, 0, 0, []) else (35, .getfield 16, 4, 7, 0, []))) else (bif Nat.ble i 21 then (bif Nat.ble i 20 then (38, .iload_n 2, 0, 0, 0, []) else (39, .iload 5, 0, 0, 0, [])) else (bif Nat.ble i 22 then (41, .iadd, 0, 0, 0, []) else (42, .iaload, 0, 0, 0, [])))) else (bif Nat.ble i 27 then (bif Nat.ble i 25 then (bif Nat.ble i 24 then (43, .if_icmp .ne 7, 27, 0, 0, []) else (46, .iconst 1, 0, 0, 1, [])) else (bif Nat.ble i 26 then (47, .goto 4, 28, 0, 0, []) else (50, .iconst 0, 0, 0, 0, []))) else (bif Nat.ble i 29 then (bif Nat.ble i 28 then (51, .istore 4, 0, 0, 0, []) else (53, .iinc 5 1, 0, 0, 1, [])) else (bif Nat.ble i 30 then (56, .goto (-50), 4, 0, 0, []) else (bif Nat.ble i 31 then (59, .iload 4, 0, 0, 0, []) else (61, .ireturn, 0, 0, 0, [])))))))
/-- GridQuarrelsModel.rowFound(III)I -/
def cd222 : Nat → mmE := fun i => (bif Nat.ble i 15 then (bif Nat.ble i 7 then (bif Nat.ble i 3 then (bif Nat.ble i 1 then (bif Nat.ble i 0 then (0, .aload_n 0, 0, 0, 0, []) else (1, .getfield 7, 2, 7, 0, [])) else (bif Nat.ble i 2 then (4, .iload_n 1, 0, 0, 0, []) else (5, .iaload, 0, 0, 0, []))) else (bif Nat.ble i 5 then (bif Nat.ble i 4 then (6, .ifCond .ge 9, 9, 0, 0, []) else (9, .aload_n 0, 0, 0, 0, [])) else (bif Nat.ble i 6 then (10, .iconst 1, 0, 0, 1, []) else (11, .invokevirtual 68, 157, 2, 0, [])))) else (bif Nat.ble i 11 then (bif Nat.ble i 9 then (bif Nat.ble i 8 then (14, .ireturn, 0, 0, 0, []) else (15, .iload_n 2, 0, 0, 0, [])) else (bif Nat.ble i 10 then (16, .ifCond .lt 19, 23, 0, 0, []) else (19, .iload_n 2, 0, 0, 0, []))) else (bif Nat.ble i 13 then (bif Nat.ble i 12 then (20, .i2l, 0, 0, 0, []) else (21, .iload_n 3, 0, 0, 0, [])) else (bif Nat.ble i 14 then (22, .i2l, 0, 0, 0, []) else (23, .ladd, 0, 0, 0, []))))) else (bif Nat.ble i 23 then (bif Nat.ble i 19 then (bif Nat.ble i 17 then (bif Nat.ble i 16 then (24, .aload_n 0, 0, 0, 0, []) else (25, .getfield 13, 3, 7, 0, [])) else (bif Nat.ble i 18 then (28, .iload_n 1, 0, 0, 0, []) else (29, .iaload, 0, 0, 0, []))) else (bif Nat.ble i 21 then (bif Nat.ble i 20 then (30, .i2l, 0, 0, 0, []) else (31, .lcmp, 0, 0, 0, [])) else (bif Nat.ble i 22 then (32, .ifCond .le 9, 27, 0, 0, []) else (35, .aload_n 0, 0, 0, 0, [])))) else (bif Nat.ble i 27 then (bif Nat.ble i 25 then (bif Nat.ble i 24 then (36, .iconst 2, 0, 0, 2, []) else (37, .invokevirtual 68, 157, 2, 0, [])) else (bif Nat.ble i 26 then (40, .ireturn, 0, 0, 0, []) else (41, .aload_n 0, 0, 0, 0, []))) else (bif Nat.ble i 29 then (bif Nat.ble i 28 then (42, .iconst 0, 0, 0, 0, []) else (43, .putfield 51, 1, 7, 0, [])) else (bif Nat.ble i 30 then (46, .iconst 0, 0, 0, 0, []) else (47, .ireturn, 0, 0, 0, []))))))
/-- GridQuarrelsModel.who(IIIII)I -/
def cd223 : Nat → mmE := fun i => (bif Nat.ble i 55 then (bif Nat.ble i 27 then (bif Nat.ble i 13 then (bif Nat.ble i 6 then (bif Nat.ble i 2 then (bif Nat.ble i 0 then (0, .aload_n 0, 0, 0, 0, []) else (bif Nat.ble i 1 then (1, .iconst 0, 0, 0, 0, []) else (2, .putfield 47, 0, 7, 0, []))) else (bif Nat.ble i 4 then (bif Nat.ble i 3 then (5, .aload_n 0, 0, 0, 0, []) else (6, .iload_n 1, 0, 0, 0, [])) else (bif Nat.ble i 5 then (7, .invokevirtual 212, 181, 2, 0, []) else (10, .ifCond .eq 35, 22, 0, 0, [])))) else (bif Nat.ble i 9 then (bif Nat.ble i 7 then (13, .iload_n 2, 0, 0, 0, []) else (bif Nat.ble i 8 then (14, .i2l, 0, 0, 0, []) else (15, .lconst 0, 0, 0, 0, []))) else (bif Nat.ble i 11 then (bif Nat.ble i 10 then (16, .ldc2_w 65, 0, 0, 2, []) else (19, .invokestatic 57, 156, 3, 0, [])) else (bif Nat.ble i 12 then (22, .ifCond .eq 23, 22, 0, 0, []) else (25, .iload_n 3, 0, 0, 0, []))))) else (bif Nat.ble i 20 then (bif Nat.ble i 16 then (bif Nat.ble i 14 then (26, .invokestatic 61, 158, 1, 0, []) else (bif Nat.ble i 15 then (29, .ifCond .eq 16, 22, 0, 0, []) else (32, .iload 5, 0, 0, 0, []))) else (bif Nat.ble i 18 then (bif Nat.ble i 17 then (34, .i2l, 0, 0, 0, []) else (35, .lconst 1, 0, 0, 1, [])) else (bif Nat.ble i 19 then (36, .ldc2_w 244, 0, 0, 12, []) else (39, .invokestatic 57, 156, 3, 0, [])))) else (bif Nat.ble i 23 then (bif Nat.ble i 21 then (42, .ifCond .ne 6, 24, 0, 0, []) else (bif Nat.ble i 22 then (45, .ldc 67, 0, 0, (-1000001), []) else (47, .ireturn, 0, 0, 0, []))) else (bif Nat.ble i 25 then (bif Nat.ble i 24 then (48, .aload_n 0, 0, 0, 0, []) else (49, .getfield 19, 5, 7, 0, [])) else (bif Nat.ble i 26 then (52, .iload_n 1, 0, 0, 0, []) else (53, .invokestatic 156, 186, 2, 0, [])))))) else (bif Nat.ble i 41 then (bif Nat.ble i 34 then (bif Nat.ble i 30 then (bif Nat.ble i 28 then (56, .ifCond .ne 6, 31, 0, 0, []) else (bif Nat.ble i 29 then (59, .ldc 190, 0, 0, (-1000002), []) else (61, .ireturn, 0, 0, 0, []))) else (bif Nat.ble i 32 then (bif Nat.ble i 31 then (62, .aload_n 0, 0, 0, 0, []) else (63, .iload_n 3, 0, 0, 0, [])) else (bif Nat.ble i 33 then (64, .iload 4, 0, 0, 0, []) else (66, .iload 5, 0, 0, 0, [])))) else (bif Nat.ble i 37 then (bif Nat.ble i 35 then (68, .invokevirtual 246, 222, 4, 0, []) else (bif Nat.ble i 36 then (71, .istore 6, 0, 0, 0, []) else (73, .iload 6, 0, 0, 0, []))) else (bif Nat.ble i 39 then (bif Nat.ble i 38 then (75, .ifCond .eq 6, 41, 0, 0, []) else (78, .iload 6, 0, 0, 0, [])) else (bif Nat.ble i 40 then (80, .ireturn, 0, 0, 0, []) else (81, .iconst 0, 0, 0, 0, []))))) else (bif Nat.ble i 48 then (bif Nat.ble i 44 then (bif Nat.ble i 42 then (82, .istore 7, 0, 0, 0, []) else (bif Nat.ble i 43 then (84, .iload_n 2, 0, 0, 0, []) else (85, .ifCond .ne 7, 47, 0, 0, []))) else (bif Nat.ble i 46 then (bif Nat.ble i 45 then (88, .iconst 0, 0, 0, 0, []) else (89, .goto 13, 53, 0, 0, [])) else (bif Nat.ble i 47 then (92, .iload_n 2, 0, 0, 0, []) else (93, .iconst 1, 0, 0, 1, [])))) else (bif Nat.ble i 51 then (bif Nat.ble i 49 then (94, .if_icmp .ne 7, 52, 0, 0, []) else (bif Nat.ble i 50 then (97, .iconst 2, 0, 0, 2, []) else (98, .goto 4, 53, 0, 0, []))) else (bif Nat.ble i 53 then (bif Nat.ble i 52 then (101, .iconst 1, 0, 0, 1, []) else (102, .istore 8, 0, 0, 0, [])) else (bif Nat.ble i 54 then (104, .iload_n 2, 0, 0, 0, []) else (105, .iconst 2, 0, 0, 2, []))))))) else (bif Nat.ble i 83 then (bif Nat.ble i 69 then (bif Nat.ble i 62 then (bif Nat.ble i 58 then (bif Nat.ble i 56 then (106, .if_icmp .ne 7, 59, 0, 0, []) else (bif Nat.ble i 57 then (109, .iconst 0, 0, 0, 0, []) else (110, .goto 4, 60, 0, 0, []))) else (bif Nat.ble i 60 then (bif Nat.ble i 59 then (113, .iconst 1, 0, 0, 1, []) else (114, .istore 9, 0, 0, 0, [])) else (bif Nat.ble i 61 then (116, .iload 9, 0, 0, 0, []) else (118, .iload_n 2, 0, 0, 0, [])))) else (bif Nat.ble i 65 then (bif Nat.ble i 63 then (119, .ifCond .ne 7, 66, 0, 0, []) else (bif Nat.ble i 64 then (122, .iconst 5, 0, 0, 5, []) else (123, .goto 21, 77, 0, 0, []))) else (bif Nat.ble i 67 then (bif Nat.ble i 66 then (126, .iload_n 2, 0, 0, 0, []) else (127, .iconst 1, 0, 0, 1, [])) else (bif Nat.ble i 68 then (128, .if_icmp .ne 8, 71, 0, 0, []) else (131, .bipush 9, 0, 0, 9, []))))) else (bif Nat.ble i 76 then (bif Nat.ble i 72 then (bif Nat.ble i 70 then (133, .goto 11, 77, 0, 0, []) else (bif Nat.ble i 71 then (136, .aload_n 0, 0, 0, 0, []) else (137, .getfield 19, 5, 7, 0, []))) else (bif Nat.ble i 74 then (bif Nat.ble i 73 then (140, .iconst 0, 0, 0, 0, []) else (141, .iaload, 0, 0, 0, [])) else (bif Nat.ble i 75 then (142, .iconst 1, 0, 0, 1, []) else (143, .isub, 0, 0, 0, [])))) else (bif Nat.ble i 79 then (bif Nat.ble i 77 then (144, .if_icmp .gt 59, 111, 0, 0, []) else (bif Nat.ble i 78 then (147, .aload_n 0, 0, 0, 0, []) else (148, .invokevirtual 222, 193, 1, 0, []))) else (bif Nat.ble i 81 then (bif Nat.ble i 80 then (151, .aload_n 0, 0, 0, 0, []) else (152, .getfield 25, 7, 7, 0, [])) else (bif Nat.ble i 82 then (155, .bipush 32, 0, 0, 32, []) else (157, .iconst 4, 0, 0, 4, [])))))) else (bif Nat.ble i 97 then (bif Nat.ble i 90 then (bif Nat.ble i 86 then (bif Nat.ble i 84 then (158, .iload_n 1, 0, 0, 0, []) else (bif Nat.ble i 85 then (159, .imul, 0, 0, 0, []) else (160, .iadd, 0, 0, 0, []))) else (bif Nat.ble i 88 then (bif Nat.ble i 87 then (161, .iload 8, 0, 0, 0, []) else (163, .iadd, 0, 0, 0, [])) else (bif Nat.ble i 89 then (164, .iload 9, 0, 0, 0, []) else (166, .iastore, 0, 0, 0, [])))) else (bif Nat.ble i 93 then (bif Nat.ble i 91 then (167, .iload 7, 0, 0, 0, []) else (bif Nat.ble i 92 then (169, .aload_n 0, 0, 0, 0, []) else (170, .iload_n 1, 0, 0, 0, []))) else (bif Nat.ble i 95 then (bif Nat.ble i 94 then (171, .bipush 40, 0, 0, 40, []) else (173, .iload_n 3, 0, 0, 0, [])) else (bif Nat.ble i 96 then (174, .imul, 0, 0, 0, []) else (175, .iload 4, 0, 0, 0, []))))) else (bif Nat.ble i 104 then (bif Nat.ble i 100 then (bif Nat.ble i 98 then (177, .iadd, 0, 0, 0, []) else (bif Nat.ble i 99 then (178, .iload 5, 0, 0, 0, []) else (180, .invokevirtual 250, 221, 4, 0, []))) else (bif Nat.ble i 102 then (bif Nat.ble i 101 then (183, .ifCond .eq 10, 106, 0, 0, []) else (186, .iconst 1, 0, 0, 1, [])) else (bif Nat.ble i 103 then (187, .iload 9, 0, 0, 0, []) else (189, .ishl, 0, 0, 0, [])))) else (bif Nat.ble i 108 then (bif Nat.ble i 106 then (bif Nat.ble i 105 then (190, .goto 4, 107, 0, 0, []) else (193, .iconst 0, 0, 0, 0, [])) else (bif Nat.ble i 107 then (194, .ior, 0, 0, 0, []) else (195, .istore 7, 0, 0, 0, []))) else (bif Nat.ble i 110 then (bif Nat.ble i 109 then (197, .iinc 9 1, 0, 0, 1, []) else (200, .goto (-84), 61, 0, 0, [])) else (bif Nat.ble i 111 then (203, .iload 7, 0, 0, 0, []) else (205, .ireturn, 0, 0, 0, []))))))))
/-- GridQuarrelsModel.grids(IIIII)I -/
def cd224 : Nat → mmE := fun i => (bif Nat.ble i 36 then (bif Nat.ble i 17 then (bif Nat.ble i 8 then (bif Nat.ble i 3 then (bif Nat.ble i 1 then (bif Nat.ble i 0 then (0, .aload_n 0, 0, 0, 0, []) else (1, .iconst 0, 0, 0, 0, [])) else (bif Nat.ble i 2 then (2, .putfield 47, 0, 7, 0, []) else (5, .aload_n 0, 0, 0, 0, []))) else (bif Nat.ble i 5 then (bif Nat.ble i 4 then (6, .iload_n 1, 0, 0, 0, []) else (7, .invokevirtual 209, 180, 2, 0, [])) else (bif Nat.ble i 6 then (10, .ifCond .eq 31, 20, 0, 0, []) else (bif Nat.ble i 7 then (13, .aload_n 0, 0, 0, 0, []) else (14, .iload_n 2, 0, 0, 0, []))))) else (bif Nat.ble i 12 then (bif Nat.ble i 10 then (bif Nat.ble i 9 then (15, .invokevirtual 212, 181, 2, 0, []) else (18, .ifCond .eq 23, 20, 0, 0, [])) else (bif Nat.ble i 11 then (21, .iload_n 3, 0, 0, 0, []) else (22, .invokestatic 61, 158, 1, 0, []))) else (bif Nat.ble i 14 then (bif Nat.ble i 13 then (25, .ifCond .eq 16, 20, 0, 0, []) else (28, .iload 5, 0, 0, 0, [])) else (bif Nat.ble i 15 then (30, .i2l, 0, 0, 0, []) else (bif Nat.ble i 16 then (31, .lconst 1, 0, 0, 1, []) else (32, .ldc2_w 244, 0, 0, 12, [])))))) else (bif Nat.ble i 26 then (bif Nat.ble i 21 then (bif Nat.ble i 19 then (bif Nat.ble i 18 then (35, .invokestatic 57, 156, 3, 0, []) else (38, .ifCond .ne 6, 22, 0, 0, [])) else (bif Nat.ble i 20 then (41, .ldc 67, 0, 0, (-1000001), []) else (43, .ireturn, 0, 0, 0, []))) else (bif Nat.ble i 23 then (bif Nat.ble i 22 then (44, .aload_n 0, 0, 0, 0, []) else (45, .iload_n 3, 0, 0, 0, [])) else (bif Nat.ble i 24 then (46, .iload 4, 0, 0, 0, []) else (bif Nat.ble i 25 then (48, .iload 5, 0, 0, 0, []) else (50, .invokevirtual 246, 222, 4, 0, []))))) else (bif Nat.ble i 31 then (bif Nat.ble i 28 then (bif Nat.ble i 27 then (53, .istore 6, 0, 0, 0, []) else (55, .iload 6, 0, 0, 0, [])) else (bif Nat.ble i 29 then (57, .ifCond .eq 6, 32, 0, 0, []) else (bif Nat.ble i 30 then (60, .iload 6, 0, 0, 0, []) else (62, .ireturn, 0, 0, 0, [])))) else (bif Nat.ble i 33 then (bif Nat.ble i 32 then (63, .iconst 0, 0, 0, 0, []) else (64, .istore 7, 0, 0, 0, [])) else (bif Nat.ble i 34 then (66, .iconst 0, 0, 0, 0, []) else (bif Nat.ble i 35 then (67, .istore 8, 0, 0, 0, []) else (69, .iload 8, 0, 0, 0, []))))))) else (bif Nat.ble i 54 then (bif Nat.ble i 45 then (bif Nat.ble i 40 then (bif Nat.ble i 38 then (bif Nat.ble i 37 then (71, .bipush 10, 0, 0, 10, []) else (73, .if_icmp .ge 58, 72, 0, 0, [])) else (bif Nat.ble i 39 then (76, .aload_n 0, 0, 0, 0, []) else (77, .invokevirtual 222, 193, 1, 0, []))) else (bif Nat.ble i 42 then (bif Nat.ble i 41 then (80, .aload_n 0, 0, 0, 0, []) else (81, .getfield 25, 7, 7, 0, [])) else (bif Nat.ble i 43 then (84, .bipush 11, 0, 0, 11, []) else (bif Nat.ble i 44 then (86, .iconst 3, 0, 0, 3, []) else (87, .iload_n 1, 0, 0, 0, []))))) else (bif Nat.ble i 49 then (bif Nat.ble i 47 then (bif Nat.ble i 46 then (88, .imul, 0, 0, 0, []) else (89, .iadd, 0, 0, 0, [])) else (bif Nat.ble i 48 then (90, .iconst 2, 0, 0, 2, []) else (91, .iadd, 0, 0, 0, []))) else (bif Nat.ble i 51 then (bif Nat.ble i 50 then (92, .iload 8, 0, 0, 0, []) else (94, .iastore, 0, 0, 0, [])) else (bif Nat.ble i 52 then (95, .iload 7, 0, 0, 0, []) else (bif Nat.ble i 53 then (97, .aload_n 0, 0, 0, 0, []) else (98, .iload_n 2, 0, 0, 0, [])))))) else (bif Nat.ble i 63 then (bif Nat.ble i 58 then (bif Nat.ble i 56 then (bif Nat.ble i 55 then (99, .bipush 40, 0, 0, 40, []) else (101, .iload_n 3, 0, 0, 0, [])) else (bif Nat.ble i 57 then (102, .imul, 0, 0, 0, []) else (103, .iload 4, 0, 0, 0, []))) else (bif Nat.ble i 60 then (bif Nat.ble i 59 then (105, .iadd, 0, 0, 0, []) else (106, .iload 5, 0, 0, 0, [])) else (bif Nat.ble i 61 then (108, .invokevirtual 250, 221, 4, 0, []) else (bif Nat.ble i 62 then (111, .ifCond .eq 10, 67, 0, 0, []) else (114, .iconst 1, 0, 0, 1, []))))) else (bif Nat.ble i 68 then (bif Nat.ble i 65 then (bif Nat.ble i 64 then (115, .iload 8, 0, 0, 0, []) else (117, .ishl, 0, 0, 0, [])) else (bif Nat.ble i 66 then (118, .goto 4, 68, 0, 0, []) else (bif Nat.ble i 67 then (121, .iconst 0, 0, 0, 0, []) else (122, .ior, 0, 0, 0, [])))) else (bif Nat.ble i 70 then (bif Nat.ble i 69 then (123, .istore 7, 0, 0, 0, []) else (125, .iinc 8 1, 0, 0, 1, [])) else (bif Nat.ble i 71 then (128, .goto (-59), 36, 0, 0, []) else (bif Nat.ble i 72 then (131, .iload 7, 0, 0, 0, []) else (133, .ireturn, 0, 0, 0, []))))))))
/-- GridQuarrelsModel.which(III)I -/
def cd225 : Nat → mmE := fun i => (bif Nat.ble i 30 then (bif Nat.ble i 14 then (bif Nat.ble i 6 then (bif Nat.ble i 2 then (bif Nat.ble i 0 then (0, .aload_n 0, 0, 0, 0, []) else (bif Nat.ble i 1 then (1, .iconst 0, 0, 0, 0, []) else (2, .putfield 47, 0, 7, 0, []))) else (bif Nat.ble i 4 then (bif Nat.ble i 3 then (5, .aload_n 0, 0, 0, 0, []) else (6, .invokevirtual 187, 178, 1, 0, [])) else (bif Nat.ble i 5 then (9, .ifCond .ne 6, 8, 0, 0, []) else (12, .ldc 190, 0, 0, (-1000002), [])))) else (bif Nat.ble i 10 then (bif Nat.ble i 8 then (bif Nat.ble i 7 then (14, .ireturn, 0, 0, 0, []) else (15, .iload_n 1, 0, 0, 0, [])) else (bif Nat.ble i 9 then (16, .invokestatic 61, 158, 1, 0, []) else (19, .ifCond .eq 15, 17, 0, 0, []))) else (bif Nat.ble i 12 then (bif Nat.ble i 11 then (22, .iload_n 3, 0, 0, 0, []) else (23, .i2l, 0, 0, 0, [])) else (bif Nat.ble i 13 then (24, .lconst 1, 0, 0, 1, []) else (25, .ldc2_w 244, 0, 0, 12, []))))) else (bif Nat.ble i 22 then (bif Nat.ble i 18 then (bif Nat.ble i 16 then (bif Nat.ble i 15 then (28, .invokestatic 57, 156, 3, 0, []) else (31, .ifCond .ne 6, 19, 0, 0, [])) else (bif Nat.ble i 17 then (34, .ldc 67, 0, 0, (-1000001), []) else (36, .ireturn, 0, 0, 0, []))) else (bif Nat.ble i 20 then (bif Nat.ble i 19 then (37, .aload_n 0, 0, 0, 0, []) else (38, .iload_n 1, 0, 0, 0, [])) else (bif Nat.ble i 21 then (39, .iload_n 2, 0, 0, 0, []) else (40, .iload_n 3, 0, 0, 0, [])))) else (bif Nat.ble i 26 then (bif Nat.ble i 24 then (bif Nat.ble i 23 then (41, .invokevirtual 246, 222, 4, 0, []) else (44, .istore 4, 0, 0, 0, [])) else (bif Nat.ble i 25 then (46, .iload 4, 0, 0, 0, []) else (48, .ifCond .eq 6, 29, 0, 0, []))) else (bif Nat.ble i 28 then (bif Nat.ble i 27 then (51, .iload 4, 0, 0, 0, []) else (53, .ireturn, 0, 0, 0, [])) else (bif Nat.ble i 29 then (54, .iconst 0, 0, 0, 0, []) else (55, .istore 5, 0, 0, 0, [])))))) else (bif Nat.ble i 46 then (bif Nat.ble i 38 then (bif Nat.ble i 34 then (bif Nat.ble i 32 then (bif Nat.ble i 31 then (57, .iconst 0, 0, 0, 0, []) else (58, .istore 6, 0, 0, 0, [])) else (bif Nat.ble i 33 then (60, .iload 6, 0, 0, 0, []) else (62, .aload_n 0, 0, 0, 0, []))) else (bif Nat.ble i 36 then (bif Nat.ble i 35 then (63, .getfield 19, 5, 7, 0, []) else (66, .iconst 2, 0, 0, 2, [])) else (bif Nat.ble i 37 then (67, .iaload, 0, 0, 0, []) else (68, .if_icmp .ge 42, 61, 0, 0, [])))) else (bif Nat.ble i 42 then (bif Nat.ble i 40 then (bif Nat.ble i 39 then (71, .aload_n 0, 0, 0, 0, []) else (72, .invokevirtual 222, 193, 1, 0, [])) else (bif Nat.ble i 41 then (75, .iload 5, 0, 0, 0, []) else (77, .aload_n 0, 0, 0, 0, []))) else (bif Nat.ble i 44 then (bif Nat.ble i 43 then (78, .iload 6, 0, 0, 0, []) else (80, .bipush 40, 0, 0, 40, [])) else (bif Nat.ble i 45 then (82, .iload_n 1, 0, 0, 0, []) else (83, .imul, 0, 0, 0, []))))) else (bif Nat.ble i 54 then (bif Nat.ble i 50 then (bif Nat.ble i 48 then (bif Nat.ble i 47 then (84, .iload_n 2, 0, 0, 0, []) else (85, .iadd, 0, 0, 0, [])) else (bif Nat.ble i 49 then (86, .iload_n 3, 0, 0, 0, []) else (87, .invokevirtual 250, 221, 4, 0, []))) else (bif Nat.ble i 52 then (bif Nat.ble i 51 then (90, .ifCond .eq 10, 56, 0, 0, []) else (93, .iconst 1, 0, 0, 1, [])) else (bif Nat.ble i 53 then (94, .iload 6, 0, 0, 0, []) else (96, .ishl, 0, 0, 0, [])))) else (bif Nat.ble i 58 then (bif Nat.ble i 56 then (bif Nat.ble i 55 then (97, .goto 4, 57, 0, 0, []) else (100, .iconst 0, 0, 0, 0, [])) else (bif Nat.ble i 57 then (101, .ior, 0, 0, 0, []) else (102, .istore 5, 0, 0, 0, []))) else (bif Nat.ble i 60 then (bif Nat.ble i 59 then (104, .iinc 6 1, 0, 0, 1, []) else (107, .goto (-47), 33, 0, 0, [])) else (bif Nat.ble i 61 then (110, .iload 5, 0, 0, 0, []) else (112, .ireturn, 0, 0, 0, [])))))))
/-- GridQuarrelsModel.snow(IIIII)J -/
def cd226 : Nat → mmE := fun i => (bif Nat.ble i 86 then (bif Nat.ble i 42 then (bif Nat.ble i 20 then (bif Nat.ble i 9 then (bif Nat.ble i 4 then (bif Nat.ble i 1 then (bif Nat.ble i 0 then (0, .aload_n 0, 0, 0, 0, []) else (1, .iconst 0, 0, 0, 0, [])) else (bif Nat.ble i 2 then (2, .putfield 47, 0, 7, 0, []) else (bif Nat.ble i 3 then (5, .aload_n 0, 0, 0, 0, []) else (6, .iload_n 1, 0, 0, 0, [])))) else (bif Nat.ble i 6 then (bif Nat.ble i 5 then (7, .invokevirtual 212, 181, 2, 0, []) else (10, .ifCond .eq 47, 29, 0, 0, [])) else (bif Nat.ble i 7 then (13, .aload_n 0, 0, 0, 0, []) else (bif Nat.ble i 8 then (14, .iload_n 2, 0, 0, 0, []) else (15, .invokevirtual 200, 179, 2, 0, []))))) else (bif Nat.ble i 14 then (bif Nat.ble i 11 then (bif Nat.ble i 10 then (18, .ifCond .eq 39, 29, 0, 0, []) else (21, .iload_n 3, 0, 0, 0, [])) else (bif Nat.ble i 12 then (22, .i2l, 0, 0, 0, []) else (bif Nat.ble i 13 then (23, .lconst 0, 0, 0, 0, []) else (24, .ldc2_w 232, 0, 0, 30, [])))) else (bif Nat.ble i 17 then (bif Nat.ble i 15 then (27, .invokestatic 57, 156, 3, 0, []) else (bif Nat.ble i 16 then (30, .ifCond .eq 27, 29, 0, 0, []) else (33, .iload 4, 0, 0, 0, []))) else (bif Nat.ble i 18 then (35, .i2l, 0, 0, 0, []) else (bif Nat.ble i 19 then (36, .lconst 0, 0, 0, 0, []) else (37, .ldc2_w 254, 0, 0, 10, [])))))) else (bif Nat.ble i 31 then (bif Nat.ble i 25 then (bif Nat.ble i 22 then (bif Nat.ble i 21 then (40, .invokestatic 57, 156, 3, 0, []) else (43, .ifCond .eq 14, 29, 0, 0, [])) else (bif Nat.ble i 23 then (46, .iload 5, 0, 0, 0, []) else (bif Nat.ble i 24 then (48, .i2l, 0, 0, 0, []) else (49, .lconst 0, 0, 0, 0, [])))) else (bif Nat.ble i 28 then (bif Nat.ble i 26 then (50, .lconst 1, 0, 0, 1, []) else (bif Nat.ble i 27 then (51, .invokestatic 57, 156, 3, 0, []) else (54, .ifCond .ne 7, 31, 0, 0, []))) else (bif Nat.ble i 29 then (57, .ldc2_w 256, 0, 0, (-1000001), []) else (bif Nat.ble i 30 then (60, .lreturn, 0, 0, 0, []) else (61, .iconst 0, 0, 0, 0, []))))) else (bif Nat.ble i 36 then (bif Nat.ble i 33 then (bif Nat.ble i 32 then (62, .istore 6, 0, 0, 0, []) else (64, .iconst 0, 0, 0, 0, [])) else (bif Nat.ble i 34 then (65, .istore 7, 0, 0, 0, []) else (bif Nat.ble i 35 then (67, .iload 7, 0, 0, 0, []) else (69, .aload_n 0, 0, 0, 0, [])))) else (bif Nat.ble i 39 then (bif Nat.ble i 37 then (70, .getfield 19, 5, 7, 0, []) else (bif Nat.ble i 38 then (73, .iconst 1, 0, 0, 1, []) else (74, .iaload, 0, 0, 0, []))) else (bif Nat.ble i 40 then (75, .if_icmp .ge 35, 57, 0, 0, []) else (bif Nat.ble i 41 then (78, .iload 6, 0, 0, 0, []) else (80, .aload_n 0, 0, 0, 0, []))))))) else (bif Nat.ble i 64 then (bif Nat.ble i 53 then (bif Nat.ble i 47 then (bif Nat.ble i 44 then (bif Nat.ble i 43 then (81, .getfield 19, 5, 7, 0, []) else (84, .iload 7, 0, 0, 0, [])) else (bif Nat.ble i 45 then (86, .iconst 2, 0, 0, 2, []) else (bif Nat.ble i 46 then (87, .invokestatic 160, 185, 3, 0, []) else (90, .ifCond .le 10, 52, 0, 0, [])))) else (bif Nat.ble i 50 then (bif Nat.ble i 48 then (93, .iconst 1, 0, 0, 1, []) else (bif Nat.ble i 49 then (94, .iload 7, 0, 0, 0, []) else (96, .ishl, 0, 0, 0, []))) else (bif Nat.ble i 51 then (97, .goto 4, 53, 0, 0, []) else (bif Nat.ble i 52 then (100, .iconst 0, 0, 0, 0, []) else (101, .ior, 0, 0, 0, []))))) else (bif Nat.ble i 58 then (bif Nat.ble i 55 then (bif Nat.ble i 54 then (102, .istore 6, 0, 0, 0, []) else (104, .iinc 7 1, 0, 0, 1, [])) else (bif Nat.ble i 56 then (107, .goto (-40), 35, 0, 0, []) else (bif Nat.ble i 57 then (110, .lconst 0, 0, 0, 0, []) else (111, .lstore 7, 0, 0, 0, [])))) else (bif Nat.ble i 61 then (bif Nat.ble i 59 then (113, .lconst 0, 0, 0, 0, []) else (bif Nat.ble i 60 then (114, .lstore 9, 0, 0, 0, []) else (116, .iconst 0, 0, 0, 0, []))) else (bif Nat.ble i 62 then (117, .istore 11, 0, 0, 0, []) else (bif Nat.ble i 63 then (119, .iload 11, 0, 0, 0, []) else (121, .iload 6, 0, 0, 0, [])))))) else (bif Nat.ble i 75 then (bif Nat.ble i 69 then (bif Nat.ble i 66 then (bif Nat.ble i 65 then (123, .if_icmp .gt 165, 150, 0, 0, []) else (126, .iload 11, 0, 0, 0, [])) else (bif Nat.ble i 67 then (128, .iload 6, 0, 0, 0, []) else (bif Nat.ble i 68 then (130, .iconst (-1), 0, 0, (-1), []) else (131, .ixor, 0, 0, 0, [])))) else (bif Nat.ble i 72 then (bif Nat.ble i 70 then (132, .iand, 0, 0, 0, []) else (bif Nat.ble i 71 then (133, .ifCond .ne 149, 148, 0, 0, []) else (136, .lconst 1, 0, 0, 1, []))) else (bif Nat.ble i 73 then (137, .lstore 12, 0, 0, 0, []) else (bif Nat.ble i 74 then (139, .aload_n 0, 0, 0, 0, []) else (140, .invokevirtual 222, 193, 1, 0, []))))) else (bif Nat.ble i 80 then (bif Nat.ble i 77 then (bif Nat.ble i 76 then (143, .iconst 0, 0, 0, 0, []) else (144, .istore 14, 0, 0, 0, [])) else (bif Nat.ble i 78 then (146, .iload 14, 0, 0, 0, []) else (bif Nat.ble i 79 then (148, .aload_n 0, 0, 0, 0, []) else (149, .getfield 19, 5, 7, 0, [])))) else (bif Nat.ble i 83 then (bif Nat.ble i 81 then (152, .iconst 1, 0, 0, 1, []) else (bif Nat.ble i 82 then (153, .iaload, 0, 0, 0, []) else (154, .if_icmp .ge 89, 127, 0, 0, []))) else (bif Nat.ble i 84 then (157, .lload 12, 0, 0, 0, []) else (bif Nat.ble i 85 then (159, .iload 6, 0, 0, 0, []) else (161, .iload 14, 0, 0, 0, [])))))))) else (bif Nat.ble i 130 then (bif Nat.ble i 108 then (bif Nat.ble i 97 then (bif Nat.ble i 91 then (bif Nat.ble i 88 then (bif Nat.ble i 87 then (163, .invokestatic 237, 183, 2, 0, []) else (166, .ifCond .ne 7, 91, 0, 0, [])) else (bif Nat.ble i 89 then (169, .lconst 1, 0, 0, 1, []) else (bif Nat.ble i 90 then (170, .goto 26, 102, 0, 0, []) else (173, .iload 11, 0, 0, 0, [])))) else (bif Nat.ble i 94 then (bif Nat.ble i 92 then (175, .iload 14, 0, 0, 0, []) else (bif Nat.ble i 93 then (177, .invokestatic 237, 183, 2, 0, []) else (180, .ifCond .eq 9, 98, 0, 0, []))) else (bif Nat.ble i 95 then (183, .iload 4, 0, 0, 0, []) else (bif Nat.ble i 96 then (185, .i2l, 0, 0, 0, []) else (186, .goto 10, 102, 0, 0, []))))) else (bif Nat.ble i 102 then (bif Nat.ble i 99 then (bif Nat.ble i 98 then (189, .ldc2_w 254, 0, 0, 10, []) else (192, .iload 4, 0, 0, 0, [])) else (bif Nat.ble i 100 then (194, .i2l, 0, 0, 0, []) else (bif Nat.ble i 101 then (195, .lsub, 0, 0, 0, []) else (196, .lmul, 0, 0, 0, [])))) else (bif Nat.ble i 105 then (bif Nat.ble i 103 then (197, .lstore 12, 0, 0, 0, []) else (bif Nat.ble i 104 then (199, .aload_n 0, 0, 0, 0, []) else (200, .getfield 25, 7, 7, 0, []))) else (bif Nat.ble i 106 then (203, .bipush 11, 0, 0, 11, []) else (bif Nat.ble i 107 then (205, .iconst 3, 0, 0, 3, []) else (206, .iload 14, 0, 0, 0, [])))))) else (bif Nat.ble i 119 then (bif Nat.ble i 113 then (bif Nat.ble i 110 then (bif Nat.ble i 109 then (208, .imul, 0, 0, 0, []) else (209, .iadd, 0, 0, 0, [])) else (bif Nat.ble i 111 then (210, .iconst 2, 0, 0, 2, []) else (bif Nat.ble i 112 then (211, .iadd, 0, 0, 0, []) else (212, .iload 11, 0, 0, 0, [])))) else (bif Nat.ble i 116 then (bif Nat.ble i 114 then (214, .iload 14, 0, 0, 0, []) else (bif Nat.ble i 115 then (216, .invokestatic 237, 183, 2, 0, []) else (219, .ifCond .eq 7, 119, 0, 0, []))) else (bif Nat.ble i 117 then (222, .iconst 0, 0, 0, 0, []) else (bif Nat.ble i 118 then (223, .goto 13, 124, 0, 0, []) else (226, .aload_n 0, 0, 0, 0, []))))) else (bif Nat.ble i 124 then (bif Nat.ble i 121 then (bif Nat.ble i 120 then (227, .getfield 19, 5, 7, 0, []) else (230, .iload 14, 0, 0, 0, [])) else (bif Nat.ble i 122 then (232, .iconst 2, 0, 0, 2, []) else (bif Nat.ble i 123 then (233, .invokestatic 160, 185, 3, 0, []) else (236, .iastore, 0, 0, 0, [])))) else (bif Nat.ble i 127 then (bif Nat.ble i 125 then (237, .iinc 14 1, 0, 0, 1, []) else (bif Nat.ble i 126 then (240, .goto (-94), 78, 0, 0, []) else (243, .aload_n 0, 0, 0, 0, []))) else (bif Nat.ble i 128 then (244, .aload_n 0, 0, 0, 0, []) else (bif Nat.ble i 129 then (245, .getfield 25, 7, 7, 0, []) else (248, .iload_n 3, 0, 0, 0, []))))))) else (bif Nat.ble i 152 then (bif Nat.ble i 141 then (bif Nat.ble i 135 then (bif Nat.ble i 132 then (bif Nat.ble i 131 then (249, .invokevirtual 225, 192, 3, 0, []) else (252, .lload 9, 0, 0, 0, [])) else (bif Nat.ble i 133 then (254, .lload 12, 0, 0, 0, []) else (bif Nat.ble i 134 then (256, .ladd, 0, 0, 0, []) else (257, .lstore 9, 0, 0, 0, [])))) else (bif Nat.ble i 138 then (bif Nat.ble i 136 then (259, .lload 7, 0, 0, 0, []) else (bif Nat.ble i 137 then (261, .aload_n 0, 0, 0, 0, []) else (262, .getfield 25, 7, 7, 0, []))) else (bif Nat.ble i 139 then (265, .iload_n 1, 0, 0, 0, []) else (bif Nat.ble i 140 then (266, .iload_n 2, 0, 0, 0, []) else (267, .invokestatic 217, 187, 3, 0, []))))) else (bif Nat.ble i 146 then (bif Nat.ble i 143 then (bif Nat.ble i 142 then (270, .ifCond .eq 8, 145, 0, 0, []) else (273, .lload 12, 0, 0, 0, [])) else (bif Nat.ble i 144 then (275, .goto 4, 146, 0, 0, []) else (bif Nat.ble i 145 then (278, .lconst 0, 0, 0, 0, []) else (279, .ladd, 0, 0, 0, [])))) else (bif Nat.ble i 149 then (bif Nat.ble i 147 then (280, .lstore 7, 0, 0, 0, []) else (bif Nat.ble i 148 then (282, .iinc 11 1, 0, 0, 1, []) else (285, .goto (-166), 63, 0, 0, []))) else (bif Nat.ble i 150 then (288, .lload 7, 0, 0, 0, []) else (bif Nat.ble i 151 then (290, .lstore 11, 0, 0, 0, []) else (292, .lload 9, 0, 0, 0, [])))))) else (bif Nat.ble i 163 then (bif Nat.ble i 157 then (bif Nat.ble i 154 then (bif Nat.ble i 153 then (294, .lstore 13, 0, 0, 0, []) else (296, .lload 13, 0, 0, 0, [])) else (bif Nat.ble i 155 then (298, .lconst 0, 0, 0, 0, []) else (bif Nat.ble i 156 then (299, .lcmp, 0, 0, 0, []) else (300, .ifCond .eq 21, 167, 0, 0, [])))) else (bif Nat.ble i 160 then (bif Nat.ble i 158 then (303, .lload 11, 0, 0, 0, []) else (bif Nat.ble i 159 then (305, .lload 13, 0, 0, 0, []) else (307, .lrem, 0, 0, 0, []))) else (bif Nat.ble i 161 then (308, .lstore 15, 0, 0, 0, []) else (bif Nat.ble i 162 then (310, .lload 13, 0, 0, 0, []) else (312, .lstore 11, 0, 0, 0, []))))) else (bif Nat.ble i 168 then (bif Nat.ble i 165 then (bif Nat.ble i 164 then (314, .lload 15, 0, 0, 0, []) else (316, .lstore 13, 0, 0, 0, [])) else (bif Nat.ble i 166 then (318, .goto (-22), 154, 0, 0, []) else (bif Nat.ble i 167 then (321, .iload 5, 0, 0, 0, []) else (323, .ifCond .ne 8, 171, 0, 0, [])))) else (bif Nat.ble i 171 then (bif Nat.ble i 169 then (326, .lload 7, 0, 0, 0, []) else (bif Nat.ble i 170 then (328, .goto 5, 172, 0, 0, []) else (331, .lload 9, 0, 0, 0, []))) else (bif Nat.ble i 172 then (333, .lload 11, 0, 0, 0, []) else (bif Nat.ble i 173 then (335, .ldiv, 0, 0, 0, []) else (336, .lreturn, 0, 0, 0, [])))))))))
/-- GridQuarrelsModel.drawn(III)I -/
def cd227 : Nat → mmE := fun i => (bif Nat.ble i 51 then (bif Nat.ble i 25 then (bif Nat.ble i 12 then (bif Nat.ble i 5 then (bif Nat.ble i 2 then (bif Nat.ble i 0 then (0, .aload_n 0, 0, 0, 0, []) else (bif Nat.ble i 1 then (1, .iconst 0, 0, 0, 0, []) else (2, .putfield 47, 0, 7, 0, []))) else (bif Nat.ble i 3 then (5, .aload_n 0, 0, 0, 0, []) else (bif Nat.ble i 4 then (6, .invokevirtual 187, 178, 1, 0, []) else (9, .ifCond .ne 6, 8, 0, 0, [])))) else (bif Nat.ble i 8 then (bif Nat.ble i 6 then (12, .ldc 190, 0, 0, (-1000002), []) else (bif Nat.ble i 7 then (14, .ireturn, 0, 0, 0, []) else (15, .iload_n 1, 0, 0, 0, []))) else (bif Nat.ble i 10 then (bif Nat.ble i 9 then (16, .i2l, 0, 0, 0, []) else (17, .lconst 0, 0, 0, 0, [])) else (bif Nat.ble i 11 then (18, .ldc2_w 220, 0, 0, 60, []) else (21, .invokestatic 57, 156, 3, 0, []))))) else (bif Nat.ble i 18 then (bif Nat.ble i 15 then (bif Nat.ble i 13 then (24, .ifCond .eq 25, 26, 0, 0, []) else (bif Nat.ble i 14 then (27, .iload_n 2, 0, 0, 0, []) else (28, .i2l, 0, 0, 0, []))) else (bif Nat.ble i 16 then (29, .lconst 1, 0, 0, 1, []) else (bif Nat.ble i 17 then (30, .ldc2_w 258, 0, 0, 999999, []) else (33, .invokestatic 57, 156, 3, 0, [])))) else (bif Nat.ble i 21 then (bif Nat.ble i 19 then (36, .ifCond .eq 13, 26, 0, 0, []) else (bif Nat.ble i 20 then (39, .iload_n 3, 0, 0, 0, []) else (40, .i2l, 0, 0, 0, []))) else (bif Nat.ble i 23 then (bif Nat.ble i 22 then (41, .lconst 0, 0, 0, 0, []) else (42, .lconst 1, 0, 0, 1, [])) else (bif Nat.ble i 24 then (43, .invokestatic 57, 156, 3, 0, []) else (46, .ifCond .ne 6, 28, 0, 0, [])))))) else (bif Nat.ble i 38 then (bif Nat.ble i 31 then (bif Nat.ble i 28 then (bif Nat.ble i 26 then (49, .ldc 67, 0, 0, (-1000001), []) else (bif Nat.ble i 27 then (51, .ireturn, 0, 0, 0, []) else (52, .aload_n 0, 0, 0, 0, []))) else (bif Nat.ble i 29 then (53, .invokevirtual 222, 193, 1, 0, []) else (bif Nat.ble i 30 then (56, .iload_n 2, 0, 0, 0, []) else (57, .i2l, 0, 0, 0, [])))) else (bif Nat.ble i 34 then (bif Nat.ble i 32 then (58, .lstore 4, 0, 0, 0, []) else (bif Nat.ble i 33 then (60, .iconst 0, 0, 0, 0, []) else (61, .istore 6, 0, 0, 0, []))) else (bif Nat.ble i 36 then (bif Nat.ble i 35 then (63, .iconst 0, 0, 0, 0, []) else (64, .istore 7, 0, 0, 0, [])) else (bif Nat.ble i 37 then (66, .iload 7, 0, 0, 0, []) else (68, .iload_n 1, 0, 0, 0, []))))) else (bif Nat.ble i 44 then (bif Nat.ble i 41 then (bif Nat.ble i 39 then (69, .if_icmp .ge 98, 96, 0, 0, []) else (bif Nat.ble i 40 then (72, .lload 4, 0, 0, 0, []) else (74, .ldc2_w 260, 0, 0, 16807, []))) else (bif Nat.ble i 42 then (77, .lmul, 0, 0, 0, []) else (bif Nat.ble i 43 then (78, .ldc2_w 262, 0, 0, 2147483647, []) else (81, .lrem, 0, 0, 0, [])))) else (bif Nat.ble i 47 then (bif Nat.ble i 45 then (82, .lstore 4, 0, 0, 0, []) else (bif Nat.ble i 46 then (84, .aload_n 0, 0, 0, 0, []) else (85, .getfield 25, 7, 7, 0, []))) else (bif Nat.ble i 49 then (bif Nat.ble i 48 then (88, .lload 4, 0, 0, 0, []) else (90, .aload_n 0, 0, 0, 0, [])) else (bif Nat.ble i 50 then (91, .getfield 25, 7, 7, 0, []) else (94, .iconst 0, 0, 0, 0, []))))))) else (bif Nat.ble i 77 then (bif Nat.ble i 64 then (bif Nat.ble i 57 then (bif Nat.ble i 54 then (bif Nat.ble i 52 then (95, .iaload, 0, 0, 0, []) else (bif Nat.ble i 53 then (96, .i2l, 0, 0, 0, []) else (97, .lrem, 0, 0, 0, []))) else (bif Nat.ble i 55 then (98, .l2i, 0, 0, 0, []) else (bif Nat.ble i 56 then (99, .lload 4, 0, 0, 0, []) else (101, .ldc2_w 264, 0, 0, 5, [])))) else (bif Nat.ble i 60 then (bif Nat.ble i 58 then (104, .lrem, 0, 0, 0, []) else (bif Nat.ble i 59 then (105, .l2i, 0, 0, 0, []) else (106, .invokestatic 205, 195, 3, 0, []))) else (bif Nat.ble i 62 then (bif Nat.ble i 61 then (109, .lload 4, 0, 0, 0, []) else (111, .ldc2_w 266, 0, 0, 6, [])) else (bif Nat.ble i 63 then (114, .lrem, 0, 0, 0, []) else (115, .lconst 0, 0, 0, 0, []))))) else (bif Nat.ble i 70 then (bif Nat.ble i 67 then (bif Nat.ble i 65 then (116, .lcmp, 0, 0, 0, []) else (bif Nat.ble i 66 then (117, .ifCond .ne 27, 85, 0, 0, []) else (120, .aload_n 0, 0, 0, 0, []))) else (bif Nat.ble i 68 then (121, .getfield 25, 7, 7, 0, []) else (bif Nat.ble i 69 then (124, .bipush 11, 0, 0, 11, []) else (126, .iconst 3, 0, 0, 3, [])))) else (bif Nat.ble i 73 then (bif Nat.ble i 71 then (127, .lload 4, 0, 0, 0, []) else (bif Nat.ble i 72 then (129, .aload_n 0, 0, 0, 0, []) else (130, .getfield 25, 7, 7, 0, []))) else (bif Nat.ble i 75 then (bif Nat.ble i 74 then (133, .iconst 1, 0, 0, 1, []) else (134, .iaload, 0, 0, 0, [])) else (bif Nat.ble i 76 then (135, .i2l, 0, 0, 0, []) else (136, .lrem, 0, 0, 0, [])))))) else (bif Nat.ble i 90 then (bif Nat.ble i 83 then (bif Nat.ble i 80 then (bif Nat.ble i 78 then (137, .l2i, 0, 0, 0, []) else (bif Nat.ble i 79 then (138, .imul, 0, 0, 0, []) else (139, .iadd, 0, 0, 0, []))) else (bif Nat.ble i 81 then (140, .iconst 2, 0, 0, 2, []) else (bif Nat.ble i 82 then (141, .iadd, 0, 0, 0, []) else (142, .iconst 0, 0, 0, 0, [])))) else (bif Nat.ble i 86 then (bif Nat.ble i 84 then (143, .iastore, 0, 0, 0, []) else (bif Nat.ble i 85 then (144, .aload_n 0, 0, 0, 0, []) else (145, .aload_n 0, 0, 0, 0, []))) else (bif Nat.ble i 88 then (bif Nat.ble i 87 then (146, .getfield 25, 7, 7, 0, []) else (149, .invokevirtual 183, 191, 2, 0, [])) else (bif Nat.ble i 89 then (152, .iload 6, 0, 0, 0, []) else (154, .aload_n 0, 0, 0, 0, []))))) else (bif Nat.ble i 96 then (bif Nat.ble i 93 then (bif Nat.ble i 91 then (155, .getfield 176, 21, 7, 0, []) else (bif Nat.ble i 92 then (158, .iadd, 0, 0, 0, []) else (159, .istore 6, 0, 0, 0, []))) else (bif Nat.ble i 94 then (161, .iinc 7 1, 0, 0, 1, []) else (bif Nat.ble i 95 then (164, .goto (-98), 37, 0, 0, []) else (167, .iload_n 3, 0, 0, 0, [])))) else (bif Nat.ble i 99 then (bif Nat.ble i 97 then (168, .ifCond .ne 13, 102, 0, 0, []) else (bif Nat.ble i 98 then (171, .aload_n 0, 0, 0, 0, []) else (172, .getfield 25, 7, 7, 0, []))) else (bif Nat.ble i 101 then (bif Nat.ble i 100 then (175, .invokestatic 196, 194, 1, 0, []) else (178, .goto 5, 103, 0, 0, [])) else (bif Nat.ble i 102 then (181, .iload 6, 0, 0, 0, []) else (183, .ireturn, 0, 0, 0, []))))))))
/-- GridQuarrelsModel.image(I)I -/
def cd228 : Nat → mmE := fun i => (bif Nat.ble i 20 then (bif Nat.ble i 9 then (bif Nat.ble i 4 then (bif Nat.ble i 1 then (bif Nat.ble i 0 then (0, .aload_n 0, 0, 0, 0, []) else (1, .iconst 0, 0, 0, 0, [])) else (bif Nat.ble i 2 then (2, .putfield 47, 0, 7, 0, []) else (bif Nat.ble i 3 then (5, .iload_n 1, 0, 0, 0, []) else (6, .i2l, 0, 0, 0, [])))) else (bif Nat.ble i 6 then (bif Nat.ble i 5 then (7, .lconst 0, 0, 0, 0, []) else (8, .lconst 1, 0, 0, 1, [])) else (bif Nat.ble i 7 then (9, .invokestatic 57, 156, 3, 0, []) else (bif Nat.ble i 8 then (12, .ifCond .ne 6, 11, 0, 0, []) else (15, .ldc 67, 0, 0, (-1000001), []))))) else (bif Nat.ble i 14 then (bif Nat.ble i 11 then (bif Nat.ble i 10 then (17, .ireturn, 0, 0, 0, []) else (18, .aload_n 0, 0, 0, 0, [])) else (bif Nat.ble i 12 then (19, .invokevirtual 187, 178, 1, 0, []) else (bif Nat.ble i 13 then (22, .ifCond .ne 6, 16, 0, 0, []) else (25, .ldc 190, 0, 0, (-1000002), [])))) else (bif Nat.ble i 17 then (bif Nat.ble i 15 then (27, .ireturn, 0, 0, 0, []) else (bif Nat.ble i 16 then (28, .iconst 0, 0, 0, 0, []) else (29, .istore_n 2, 0, 0, 0, []))) else (bif Nat.ble i 18 then (30, .iload_n 2, 0, 0, 0, []) else (bif Nat.ble i 19 then (31, .bipush 52, 0, 0, 52, []) else (33, .if_icmp .ge 26, 35, 0, 0, [])))))) else (bif Nat.ble i 30 then (bif Nat.ble i 25 then (bif Nat.ble i 22 then (bif Nat.ble i 21 then (36, .aload_n 0, 0, 0, 0, []) else (37, .getfield 41, 24, 7, 0, [])) else (bif Nat.ble i 23 then (40, .bipush 52, 0, 0, 52, []) else (bif Nat.ble i 24 then (42, .iload_n 1, 0, 0, 0, []) else (43, .imul, 0, 0, 0, [])))) else (bif Nat.ble i 27 then (bif Nat.ble i 26 then (44, .iload_n 2, 0, 0, 0, []) else (45, .iadd, 0, 0, 0, [])) else (bif Nat.ble i 28 then (46, .aload_n 0, 0, 0, 0, []) else (bif Nat.ble i 29 then (47, .getfield 19, 5, 7, 0, []) else (50, .iload_n 2, 0, 0, 0, []))))) else (bif Nat.ble i 35 then (bif Nat.ble i 32 then (bif Nat.ble i 31 then (51, .iaload, 0, 0, 0, []) else (52, .iastore, 0, 0, 0, [])) else (bif Nat.ble i 33 then (53, .iinc 2 1, 0, 0, 1, []) else (bif Nat.ble i 34 then (56, .goto (-26), 18, 0, 0, []) else (59, .aload_n 0, 0, 0, 0, [])))) else (bif Nat.ble i 38 then (bif Nat.ble i 36 then (60, .getfield 37, 23, 7, 0, []) else (bif Nat.ble i 37 then (63, .iload_n 1, 0, 0, 0, []) else (64, .iconst 1, 0, 0, 1, []))) else (bif Nat.ble i 39 then (65, .bastore, 0, 0, 0, []) else (bif Nat.ble i 40 then (66, .iconst 1, 0, 0, 1, []) else (67, .ireturn, 0, 0, 0, [])))))))
/-- GridQuarrelsModel.restore(I)I -/
def cd229 : Nat → mmE := fun i => (bif Nat.ble i 20 then (bif Nat.ble i 9 then (bif Nat.ble i 4 then (bif Nat.ble i 1 then (bif Nat.ble i 0 then (0, .aload_n 0, 0, 0, 0, []) else (1, .iconst 0, 0, 0, 0, [])) else (bif Nat.ble i 2 then (2, .putfield 47, 0, 7, 0, []) else (bif Nat.ble i 3 then (5, .iload_n 1, 0, 0, 0, []) else (6, .i2l, 0, 0, 0, [])))) else (bif Nat.ble i 6 then (bif Nat.ble i 5 then (7, .lconst 0, 0, 0, 0, []) else (8, .lconst 1, 0, 0, 1, [])) else (bif Nat.ble i 7 then (9, .invokestatic 57, 156, 3, 0, []) else (bif Nat.ble i 8 then (12, .ifCond .ne 6, 11, 0, 0, []) else (15, .ldc 67, 0, 0, (-1000001), []))))) else (bif Nat.ble i 14 then (bif Nat.ble i 11 then (bif Nat.ble i 10 then (17, .ireturn, 0, 0, 0, []) else (18, .aload_n 0, 0, 0, 0, [])) else (bif Nat.ble i 12 then (19, .getfield 37, 23, 7, 0, []) else (bif Nat.ble i 13 then (22, .iload_n 1, 0, 0, 0, []) else (23, .baload, 0, 0, 0, [])))) else (bif Nat.ble i 17 then (bif Nat.ble i 15 then (24, .ifCond .ne 6, 18, 0, 0, []) else (bif Nat.ble i 16 then (27, .ldc 190, 0, 0, (-1000002), []) else (29, .ireturn, 0, 0, 0, []))) else (bif Nat.ble i 18 then (30, .iconst 0, 0, 0, 0, []) else (bif Nat.ble i 19 then (31, .istore_n 2, 0, 0, 0, []) else (32, .iload_n 2, 0, 0, 0, [])))))) else (bif Nat.ble i 30 then (bif Nat.ble i 25 then (bif Nat.ble i 22 then (bif Nat.ble i 21 then (33, .bipush 52, 0, 0, 52, []) else (35, .if_icmp .ge 26, 37, 0, 0, [])) else (bif Nat.ble i 23 then (38, .aload_n 0, 0, 0, 0, []) else (bif Nat.ble i 24 then (39, .getfield 19, 5, 7, 0, []) else (42, .iload_n 2, 0, 0, 0, [])))) else (bif Nat.ble i 27 then (bif Nat.ble i 26 then (43, .aload_n 0, 0, 0, 0, []) else (44, .getfield 41, 24, 7, 0, [])) else (bif Nat.ble i 28 then (47, .bipush 52, 0, 0, 52, []) else (bif Nat.ble i 29 then (49, .iload_n 1, 0, 0, 0, []) else (50, .imul, 0, 0, 0, []))))) else (bif Nat.ble i 35 then (bif Nat.ble i 32 then (bif Nat.ble i 31 then (51, .iload_n 2, 0, 0, 0, []) else (52, .iadd, 0, 0, 0, [])) else (bif Nat.ble i 33 then (53, .iaload, 0, 0, 0, []) else (bif Nat.ble i 34 then (54, .iastore, 0, 0, 0, []) else (55, .iinc 2 1, 0, 0, 1, [])))) else (bif Nat.ble i 38 then (bif Nat.ble i 36 then (58, .goto (-26), 20, 0, 0, []) else (bif Nat.ble i 37 then (61, .aload_n 0, 0, 0, 0, []) else (62, .iconst 0, 0, 0, 0, []))) else (bif Nat.ble i 39 then (63, .putfield 149, 9, 7, 0, []) else (bif Nat.ble i 40 then (66, .iconst 1, 0, 0, 1, []) else (67, .ireturn, 0, 0, 0, [])))))))
/-- GridQuarrelsModel.isOf(II)Z -/
def cd230 : Nat → mmE := fun i => (bif Nat.ble i 9 then (bif Nat.ble i 4 then (bif Nat.ble i 1 then (bif Nat.ble i 0 then (0, .iload_n 1, 0, 0, 0, []) else (1, .ifCond .eq 28, 17, 0, 0, [])) else (bif Nat.ble i 2 then (4, .iload_n 0, 0, 0, 0, []) else (bif Nat.ble i 3 then (5, .iload_n 1, 0, 0, 0, []) else (6, .if_icmp .eq 23, 17, 0, 0, [])))) else (bif Nat.ble i 6 then (bif Nat.ble i 5 then (9, .iload_n 1, 0, 0, 0, []) else (10, .iconst 1, 0, 0, 1, [])) else (bif Nat.ble i 7 then (11, .if_icmp .ne 8, 11, 0, 0, []) else (bif Nat.ble i 8 then (14, .iload_n 0, 0, 0, 0, []) else (15, .iconst 4, 0, 0, 4, []))))) else (bif Nat.ble i 14 then (bif Nat.ble i 11 then (bif Nat.ble i 10 then (16, .if_icmp .lt 13, 17, 0, 0, []) else (19, .iload_n 1, 0, 0, 0, [])) else (bif Nat.ble i 12 then (20, .iconst 4, 0, 0, 4, []) else (bif Nat.ble i 13 then (21, .if_icmp .ne 12, 19, 0, 0, []) else (24, .iload_n 0, 0, 0, 0, [])))) else (bif Nat.ble i 17 then (bif Nat.ble i 15 then (25, .iconst 5, 0, 0, 5, []) else (bif Nat.ble i 16 then (26, .if_icmp .ne 7, 19, 0, 0, []) else (29, .iconst 1, 0, 0, 1, []))) else (bif Nat.ble i 18 then (30, .goto 4, 20, 0, 0, []) else (bif Nat.ble i 19 then (33, .iconst 0, 0, 0, 0, []) else (34, .ireturn, 0, 0, 0, []))))))
/-- GridQuarrelsModel.kind(I)I -/
def cd231 : Nat → mmE := fun i => (bif Nat.ble i 6 then (bif Nat.ble i 2 then (bif Nat.ble i 0 then (0, .aload_n 0, 0, 0, 0, []) else (bif Nat.ble i 1 then (1, .iconst 0, 0, 0, 0, []) else (2, .putfield 47, 0, 7, 0, []))) else (bif Nat.ble i 4 then (bif Nat.ble i 3 then (5, .aload_n 0, 0, 0, 0, []) else (6, .iload_n 1, 0, 0, 0, [])) else (bif Nat.ble i 5 then (7, .invokevirtual 212, 181, 2, 0, []) else (10, .ifCond .eq 15, 13, 0, 0, [])))) else (bif Nat.ble i 10 then (bif Nat.ble i 8 then (bif Nat.ble i 7 then (13, .aload_n 0, 0, 0, 0, []) else (14, .getfield 19, 5, 7, 0, [])) else (bif Nat.ble i 9 then (17, .iload_n 1, 0, 0, 0, []) else (18, .iconst 0, 0, 0, 0, []))) else (bif Nat.ble i 12 then (bif Nat.ble i 11 then (19, .invokestatic 152, 184, 3, 0, []) else (22, .goto 5, 14, 0, 0, [])) else (bif Nat.ble i 13 then (25, .ldc 67, 0, 0, (-1000001), []) else (27, .ireturn, 0, 0, 0, [])))))
/-- GridQuarrelsModel.as(II)I -/
def cd232 : Nat → mmE := fun i => (bif Nat.ble i 15 then (bif Nat.ble i 7 then (bif Nat.ble i 3 then (bif Nat.ble i 1 then (bif Nat.ble i 0 then (0, .aload_n 0, 0, 0, 0, []) else (1, .iconst 0, 0, 0, 0, [])) else (bif Nat.ble i 2 then (2, .putfield 47, 0, 7, 0, []) else (5, .aload_n 0, 0, 0, 0, []))) else (bif Nat.ble i 5 then (bif Nat.ble i 4 then (6, .iload_n 1, 0, 0, 0, []) else (7, .invokevirtual 212, 181, 2, 0, [])) else (bif Nat.ble i 6 then (10, .ifCond .eq 15, 13, 0, 0, []) else (13, .iload_n 2, 0, 0, 0, [])))) else (bif Nat.ble i 11 then (bif Nat.ble i 9 then (bif Nat.ble i 8 then (14, .i2l, 0, 0, 0, []) else (15, .lconst 0, 0, 0, 0, [])) else (bif Nat.ble i 10 then (16, .ldc2_w 264, 0, 0, 5, []) else (19, .invokestatic 57, 156, 3, 0, []))) else (bif Nat.ble i 13 then (bif Nat.ble i 12 then (22, .ifCond .ne 6, 15, 0, 0, []) else (25, .ldc 67, 0, 0, (-1000001), [])) else (bif Nat.ble i 14 then (27, .ireturn, 0, 0, 0, []) else (28, .aload_n 0, 0, 0, 0, []))))) else (bif Nat.ble i 23 then (bif Nat.ble i 19 then (bif Nat.ble i 17 then (bif Nat.ble i 16 then (29, .iconst 0, 0, 0, 0, []) else (30, .putfield 51, 1, 7, 0, [])) else (bif Nat.ble i 18 then (33, .aload_n 0, 0, 0, 0, []) else (34, .getfield 19, 5, 7, 0, []))) else (bif Nat.ble i 21 then (bif Nat.ble i 20 then (37, .iload_n 1, 0, 0, 0, []) else (38, .iconst 0, 0, 0, 0, [])) else (bif Nat.ble i 22 then (39, .invokestatic 152, 184, 3, 0, []) else (42, .iload_n 2, 0, 0, 0, [])))) else (bif Nat.ble i 27 then (bif Nat.ble i 25 then (bif Nat.ble i 24 then (43, .invokestatic 268, 230, 2, 0, []) else (46, .ifCond .eq 7, 28, 0, 0, [])) else (bif Nat.ble i 26 then (49, .iload_n 1, 0, 0, 0, []) else (50, .goto 8, 31, 0, 0, []))) else (bif Nat.ble i 29 then (bif Nat.ble i 28 then (53, .aload_n 0, 0, 0, 0, []) else (54, .iconst 3, 0, 0, 3, [])) else (bif Nat.ble i 30 then (55, .invokevirtual 68, 157, 2, 0, []) else (58, .ireturn, 0, 0, 0, []))))))
/-- GridQuarrelsModel.began(I)V -/
def cd233 : Nat → mmE := fun i => (bif Nat.ble i 7 then (bif Nat.ble i 3 then (bif Nat.ble i 1 then (bif Nat.ble i 0 then (0, .aload_n 0, 0, 0, 0, []) else (1, .getfield 271, 26, 7, 0, [])) else (bif Nat.ble i 2 then (4, .bipush 16, 0, 0, 16, []) else (6, .if_icmp .ge 23, 16, 0, 0, []))) else (bif Nat.ble i 5 then (bif Nat.ble i 4 then (9, .aload_n 0, 0, 0, 0, []) else (10, .getfield 44, 25, 7, 0, [])) else (bif Nat.ble i 6 then (13, .aload_n 0, 0, 0, 0, []) else (14, .getfield 271, 26, 7, 0, [])))) else (bif Nat.ble i 11 then (bif Nat.ble i 9 then (bif Nat.ble i 8 then (17, .iload_n 1, 0, 0, 0, []) else (18, .iastore, 0, 0, 0, [])) else (bif Nat.ble i 10 then (19, .aload_n 0, 0, 0, 0, []) else (20, .dup, 0, 0, 0, []))) else (bif Nat.ble i 13 then (bif Nat.ble i 12 then (21, .getfield 271, 26, 7, 0, []) else (24, .iconst 1, 0, 0, 1, [])) else (bif Nat.ble i 14 then (25, .iadd, 0, 0, 0, []) else (bif Nat.ble i 15 then (26, .putfield 271, 26, 7, 0, []) else (29, .return_, 0, 0, 0, []))))))
/-- GridQuarrelsModel.plainSize(I)I -/
def cd234 : Nat → mmE := fun i => (bif Nat.ble i 3 then (bif Nat.ble i 1 then (bif Nat.ble i 0 then (0, .aload_n 0, 0, 0, 0, []) else (1, .bipush 10, 0, 0, 10, [])) else (bif Nat.ble i 2 then (3, .invokevirtual 274, 233, 2, 0, []) else (6, .aload_n 0, 0, 0, 0, []))) else (bif Nat.ble i 5 then (bif Nat.ble i 4 then (7, .getfield 19, 5, 7, 0, []) else (10, .iload_n 1, 0, 0, 0, [])) else (bif Nat.ble i 6 then (11, .iconst 2, 0, 0, 2, []) else (bif Nat.ble i 7 then (12, .invokestatic 152, 184, 3, 0, []) else (15, .ireturn, 0, 0, 0, [])))))
/-- GridQuarrelsModel.bullSize(I)I -/
def cd235 : Nat → mmE := fun i => (bif Nat.ble i 15 then (bif Nat.ble i 7 then (bif Nat.ble i 3 then (bif Nat.ble i 1 then (bif Nat.ble i 0 then (0, .aload_n 0, 0, 0, 0, []) else (1, .getfield 19, 5, 7, 0, [])) else (bif Nat.ble i 2 then (4, .iload_n 1, 0, 0, 0, []) else (5, .iconst 0, 0, 0, 0, []))) else (bif Nat.ble i 5 then (bif Nat.ble i 4 then (6, .invokestatic 152, 184, 3, 0, []) else (9, .iconst 5, 0, 0, 5, [])) else (bif Nat.ble i 6 then (10, .if_icmp .ne 7, 9, 0, 0, []) else (13, .iconst 1, 0, 0, 1, [])))) else (bif Nat.ble i 11 then (bif Nat.ble i 9 then (bif Nat.ble i 8 then (14, .goto 4, 10, 0, 0, []) else (17, .iconst 0, 0, 0, 0, [])) else (bif Nat.ble i 10 then (18, .istore_n 2, 0, 0, 0, []) else (19, .iload_n 2, 0, 0, 0, []))) else (bif Nat.ble i 13 then (bif Nat.ble i 12 then (20, .ifCond .eq 9, 16, 0, 0, []) else (23, .aload_n 0, 0, 0, 0, [])) else (bif Nat.ble i 14 then (24, .bipush 14, 0, 0, 14, []) else (26, .invokevirtual 274, 233, 2, 0, []))))) else (bif Nat.ble i 23 then (bif Nat.ble i 19 then (bif Nat.ble i 17 then (bif Nat.ble i 16 then (29, .aload_n 0, 0, 0, 0, []) else (30, .bipush 13, 0, 0, 13, [])) else (bif Nat.ble i 18 then (32, .invokevirtual 274, 233, 2, 0, []) else (35, .aload_n 0, 0, 0, 0, []))) else (bif Nat.ble i 21 then (bif Nat.ble i 20 then (36, .iload_n 1, 0, 0, 0, []) else (37, .invokevirtual 277, 234, 2, 0, [])) else (bif Nat.ble i 22 then (40, .bipush 100, 0, 0, 100, []) else (42, .isub, 0, 0, 0, [])))) else (bif Nat.ble i 27 then (bif Nat.ble i 25 then (bif Nat.ble i 24 then (43, .istore_n 3, 0, 0, 0, []) else (44, .iload_n 2, 0, 0, 0, [])) else (bif Nat.ble i 26 then (45, .ifCond .eq 9, 31, 0, 0, []) else (48, .iconst 2, 0, 0, 2, []))) else (bif Nat.ble i 29 then (bif Nat.ble i 28 then (49, .iload_n 3, 0, 0, 0, []) else (50, .imul, 0, 0, 0, [])) else (bif Nat.ble i 30 then (51, .goto 4, 32, 0, 0, []) else (bif Nat.ble i 31 then (54, .iload_n 3, 0, 0, 0, []) else (55, .ireturn, 0, 0, 0, [])))))))
/-- GridQuarrelsModel.markOf(I)I -/
def cd236 : Nat → mmE := fun i => (bif Nat.ble i 30 then (bif Nat.ble i 14 then (bif Nat.ble i 6 then (bif Nat.ble i 2 then (bif Nat.ble i 0 then (0, .aload_n 0, 0, 0, 0, []) else (bif Nat.ble i 1 then (1, .getfield 19, 5, 7, 0, []) else (4, .iload_n 1, 0, 0, 0, []))) else (bif Nat.ble i 4 then (bif Nat.ble i 3 then (5, .iconst 0, 0, 0, 0, []) else (6, .invokestatic 152, 184, 3, 0, [])) else (bif Nat.ble i 5 then (9, .istore_n 2, 0, 0, 0, []) else (10, .iload_n 2, 0, 0, 0, [])))) else (bif Nat.ble i 10 then (bif Nat.ble i 8 then (bif Nat.ble i 7 then (11, .iconst 4, 0, 0, 4, []) else (12, .if_icmp .lt 23, 21, 0, 0, [])) else (bif Nat.ble i 9 then (15, .aload_n 0, 0, 0, 0, []) else (16, .bipush 23, 0, 0, 23, []))) else (bif Nat.ble i 12 then (bif Nat.ble i 11 then (18, .invokevirtual 274, 233, 2, 0, []) else (21, .aload_n 0, 0, 0, 0, [])) else (bif Nat.ble i 13 then (22, .bipush 20, 0, 0, 20, []) else (24, .invokevirtual 274, 233, 2, 0, []))))) else (bif Nat.ble i 22 then (bif Nat.ble i 18 then (bif Nat.ble i 16 then (bif Nat.ble i 15 then (27, .iload_n 1, 0, 0, 0, []) else (28, .aload_n 0, 0, 0, 0, [])) else (bif Nat.ble i 17 then (29, .iload_n 1, 0, 0, 0, []) else (30, .invokevirtual 280, 235, 2, 0, []))) else (bif Nat.ble i 20 then (bif Nat.ble i 19 then (33, .isub, 0, 0, 0, []) else (34, .ireturn, 0, 0, 0, [])) else (bif Nat.ble i 21 then (35, .iload_n 2, 0, 0, 0, []) else (36, .iconst 1, 0, 0, 1, [])))) else (bif Nat.ble i 26 then (bif Nat.ble i 24 then (bif Nat.ble i 23 then (37, .if_icmp .eq 19, 32, 0, 0, []) else (40, .aload_n 0, 0, 0, 0, [])) else (bif Nat.ble i 25 then (41, .iload_n 2, 0, 0, 0, []) else (42, .iconst 3, 0, 0, 3, []))) else (bif Nat.ble i 28 then (bif Nat.ble i 27 then (43, .if_icmp .ne 8, 30, 0, 0, []) else (46, .bipush 22, 0, 0, 22, [])) else (bif Nat.ble i 29 then (48, .goto 5, 31, 0, 0, []) else (51, .bipush 24, 0, 0, 24, [])))))) else (bif Nat.ble i 45 then (bif Nat.ble i 37 then (bif Nat.ble i 33 then (bif Nat.ble i 31 then (53, .invokevirtual 274, 233, 2, 0, []) else (bif Nat.ble i 32 then (56, .aload_n 0, 0, 0, 0, []) else (57, .bipush 21, 0, 0, 21, []))) else (bif Nat.ble i 35 then (bif Nat.ble i 34 then (59, .invokevirtual 274, 233, 2, 0, []) else (62, .aload_n 0, 0, 0, 0, [])) else (bif Nat.ble i 36 then (63, .bipush 20, 0, 0, 20, []) else (65, .invokevirtual 274, 233, 2, 0, [])))) else (bif Nat.ble i 41 then (bif Nat.ble i 39 then (bif Nat.ble i 38 then (68, .iload_n 1, 0, 0, 0, []) else (69, .aload_n 0, 0, 0, 0, [])) else (bif Nat.ble i 40 then (70, .getfield 19, 5, 7, 0, []) else (73, .iload_n 1, 0, 0, 0, []))) else (bif Nat.ble i 43 then (bif Nat.ble i 42 then (74, .iconst 1, 0, 0, 1, []) else (75, .invokestatic 152, 184, 3, 0, [])) else (bif Nat.ble i 44 then (78, .iadd, 0, 0, 0, []) else (79, .istore_n 3, 0, 0, 0, []))))) else (bif Nat.ble i 53 then (bif Nat.ble i 49 then (bif Nat.ble i 47 then (bif Nat.ble i 46 then (80, .iload_n 2, 0, 0, 0, []) else (81, .iconst 1, 0, 0, 1, [])) else (bif Nat.ble i 48 then (82, .if_icmp .ne 7, 51, 0, 0, []) else (85, .iload_n 3, 0, 0, 0, []))) else (bif Nat.ble i 51 then (bif Nat.ble i 50 then (86, .goto 19, 61, 0, 0, []) else (89, .iload_n 2, 0, 0, 0, [])) else (bif Nat.ble i 52 then (90, .iconst 3, 0, 0, 3, []) else (91, .if_icmp .ne 11, 58, 0, 0, [])))) else (bif Nat.ble i 57 then (bif Nat.ble i 55 then (bif Nat.ble i 54 then (94, .iload_n 3, 0, 0, 0, []) else (95, .sipush 1000, 0, 0, 1000, [])) else (bif Nat.ble i 56 then (98, .isub, 0, 0, 0, []) else (99, .goto 6, 61, 0, 0, []))) else (bif Nat.ble i 59 then (bif Nat.ble i 58 then (102, .iconst 2, 0, 0, 2, []) else (103, .iload_n 3, 0, 0, 0, [])) else (bif Nat.ble i 60 then (104, .imul, 0, 0, 0, []) else (105, .ireturn, 0, 0, 0, [])))))))
/-- GridQuarrelsModel.sizeOf(I)I -/
def cd237 : Nat → mmE := fun i => (bif Nat.ble i 19 then (bif Nat.ble i 9 then (bif Nat.ble i 4 then (bif Nat.ble i 1 then (bif Nat.ble i 0 then (0, .aload_n 0, 0, 0, 0, []) else (1, .getfield 19, 5, 7, 0, [])) else (bif Nat.ble i 2 then (4, .iload_n 1, 0, 0, 0, []) else (bif Nat.ble i 3 then (5, .iconst 0, 0, 0, 0, []) else (6, .invokestatic 152, 184, 3, 0, [])))) else (bif Nat.ble i 6 then (bif Nat.ble i 5 then (9, .istore_n 2, 0, 0, 0, []) else (10, .iload_n 2, 0, 0, 0, [])) else (bif Nat.ble i 7 then (11, .iconst 4, 0, 0, 4, []) else (bif Nat.ble i 8 then (12, .if_icmp .lt 9, 13, 0, 0, []) else (15, .aload_n 0, 0, 0, 0, []))))) else (bif Nat.ble i 14 then (bif Nat.ble i 11 then (bif Nat.ble i 10 then (16, .iload_n 1, 0, 0, 0, []) else (17, .invokevirtual 280, 235, 2, 0, [])) else (bif Nat.ble i 12 then (20, .ireturn, 0, 0, 0, []) else (bif Nat.ble i 13 then (21, .iload_n 2, 0, 0, 0, []) else (22, .iconst 2, 0, 0, 2, [])))) else (bif Nat.ble i 16 then (bif Nat.ble i 15 then (23, .if_icmp .ne 9, 19, 0, 0, []) else (26, .aload_n 0, 0, 0, 0, [])) else (bif Nat.ble i 17 then (27, .bipush 12, 0, 0, 12, []) else (bif Nat.ble i 18 then (29, .invokevirtual 274, 233, 2, 0, []) else (32, .aload_n 0, 0, 0, 0, [])))))) else (bif Nat.ble i 29 then (bif Nat.ble i 24 then (bif Nat.ble i 21 then (bif Nat.ble i 20 then (33, .bipush 11, 0, 0, 11, []) else (35, .invokevirtual 274, 233, 2, 0, [])) else (bif Nat.ble i 22 then (38, .aload_n 0, 0, 0, 0, []) else (bif Nat.ble i 23 then (39, .iload_n 1, 0, 0, 0, []) else (40, .invokevirtual 277, 234, 2, 0, [])))) else (bif Nat.ble i 26 then (bif Nat.ble i 25 then (43, .istore_n 3, 0, 0, 0, []) else (44, .iload_n 3, 0, 0, 0, [])) else (bif Nat.ble i 27 then (45, .aload_n 0, 0, 0, 0, []) else (bif Nat.ble i 28 then (46, .iload_n 1, 0, 0, 0, []) else (47, .invokevirtual 283, 236, 2, 0, []))))) else (bif Nat.ble i 34 then (bif Nat.ble i 31 then (bif Nat.ble i 30 then (50, .iadd, 0, 0, 0, []) else (51, .istore_n 3, 0, 0, 0, [])) else (bif Nat.ble i 32 then (52, .iload_n 2, 0, 0, 0, []) else (bif Nat.ble i 33 then (53, .iconst 2, 0, 0, 2, []) else (54, .if_icmp .ne 8, 38, 0, 0, [])))) else (bif Nat.ble i 36 then (bif Nat.ble i 35 then (57, .iload_n 3, 0, 0, 0, []) else (58, .ineg, 0, 0, 0, [])) else (bif Nat.ble i 37 then (59, .goto 4, 39, 0, 0, []) else (bif Nat.ble i 38 then (62, .iload_n 3, 0, 0, 0, []) else (63, .ireturn, 0, 0, 0, [])))))))
/-- GridQuarrelsModel.ask(II)I -/
def cd238 : Nat → mmE := fun i => (bif Nat.ble i 13 then (bif Nat.ble i 6 then (bif Nat.ble i 2 then (bif Nat.ble i 0 then (0, .aload_n 0, 0, 0, 0, []) else (bif Nat.ble i 1 then (1, .iconst 0, 0, 0, 0, []) else (2, .putfield 47, 0, 7, 0, []))) else (bif Nat.ble i 4 then (bif Nat.ble i 3 then (5, .aload_n 0, 0, 0, 0, []) else (6, .iload_n 1, 0, 0, 0, [])) else (bif Nat.ble i 5 then (7, .invokevirtual 212, 181, 2, 0, []) else (10, .ifCond .eq 13, 13, 0, 0, [])))) else (bif Nat.ble i 9 then (bif Nat.ble i 7 then (13, .iload_n 2, 0, 0, 0, []) else (bif Nat.ble i 8 then (14, .i2l, 0, 0, 0, []) else (15, .lconst 0, 0, 0, 0, []))) else (bif Nat.ble i 11 then (bif Nat.ble i 10 then (16, .lconst 1, 0, 0, 1, []) else (17, .invokestatic 57, 156, 3, 0, [])) else (bif Nat.ble i 12 then (20, .ifCond .ne 6, 15, 0, 0, []) else (23, .ldc 67, 0, 0, (-1000001), []))))) else (bif Nat.ble i 20 then (bif Nat.ble i 16 then (bif Nat.ble i 14 then (25, .ireturn, 0, 0, 0, []) else (bif Nat.ble i 15 then (26, .aload_n 0, 0, 0, 0, []) else (27, .iconst 0, 0, 0, 0, []))) else (bif Nat.ble i 18 then (bif Nat.ble i 17 then (28, .putfield 271, 26, 7, 0, []) else (31, .iload_n 2, 0, 0, 0, [])) else (bif Nat.ble i 19 then (32, .ifCond .ne 11, 24, 0, 0, []) else (35, .aload_n 0, 0, 0, 0, [])))) else (bif Nat.ble i 23 then (bif Nat.ble i 21 then (36, .iload_n 1, 0, 0, 0, []) else (bif Nat.ble i 22 then (37, .invokevirtual 286, 237, 2, 0, []) else (40, .goto 8, 27, 0, 0, []))) else (bif Nat.ble i 25 then (bif Nat.ble i 24 then (43, .aload_n 0, 0, 0, 0, []) else (44, .iload_n 1, 0, 0, 0, [])) else (bif Nat.ble i 26 then (45, .invokevirtual 283, 236, 2, 0, []) else (48, .ireturn, 0, 0, 0, []))))))
/-- GridQuarrelsModel.trace(I)I -/
def cd239 : Nat → mmE := fun i => (bif Nat.ble i 9 then (bif Nat.ble i 4 then (bif Nat.ble i 1 then (bif Nat.ble i 0 then (0, .aload_n 0, 0, 0, 0, []) else (1, .iconst 0, 0, 0, 0, [])) else (bif Nat.ble i 2 then (2, .putfield 47, 0, 7, 0, []) else (bif Nat.ble i 3 then (5, .iload_n 1, 0, 0, 0, []) else (6, .i2l, 0, 0, 0, [])))) else (bif Nat.ble i 6 then (bif Nat.ble i 5 then (7, .lconst 0, 0, 0, 0, []) else (8, .aload_n 0, 0, 0, 0, [])) else (bif Nat.ble i 7 then (9, .getfield 271, 26, 7, 0, []) else (bif Nat.ble i 8 then (12, .iconst 1, 0, 0, 1, []) else (13, .isub, 0, 0, 0, []))))) else (bif Nat.ble i 14 then (bif Nat.ble i 11 then (bif Nat.ble i 10 then (14, .i2l, 0, 0, 0, []) else (15, .invokestatic 57, 156, 3, 0, [])) else (bif Nat.ble i 12 then (18, .ifCond .eq 12, 18, 0, 0, []) else (bif Nat.ble i 13 then (21, .aload_n 0, 0, 0, 0, []) else (22, .getfield 44, 25, 7, 0, [])))) else (bif Nat.ble i 16 then (bif Nat.ble i 15 then (25, .iload_n 1, 0, 0, 0, []) else (26, .iaload, 0, 0, 0, [])) else (bif Nat.ble i 17 then (27, .goto 5, 19, 0, 0, []) else (bif Nat.ble i 18 then (30, .ldc 90, 0, 0, (-1000000), []) else (32, .ireturn, 0, 0, 0, []))))))
/-- GridQuarrelsModel.count(I)I -/
def cd240 : Nat → mmE := fun i => (bif Nat.ble i 35 then (bif Nat.ble i 17 then (bif Nat.ble i 8 then (bif Nat.ble i 3 then (bif Nat.ble i 1 then (bif Nat.ble i 0 then (0, .aload_n 0, 0, 0, 0, []) else (1, .iconst 0, 0, 0, 0, [])) else (bif Nat.ble i 2 then (2, .putfield 47, 0, 7, 0, []) else (5, .iconst 0, 0, 0, 0, []))) else (bif Nat.ble i 5 then (bif Nat.ble i 4 then (6, .istore_n 2, 0, 0, 0, []) else (7, .iload_n 1, 0, 0, 0, [])) else (bif Nat.ble i 6 then (8, .tableswitch 146 0 7 #[48, 81, 88, 95, 102, 109, 136, 141], 71, 0, 0, [(0, 7), (1, 27), (2, 32), (3, 37), (4, 42), (5, 47), (6, 65), (7, 68)]) else (bif Nat.ble i 7 then (56, .iconst 0, 0, 0, 0, []) else (57, .istore_n 3, 0, 0, 0, []))))) else (bif Nat.ble i 12 then (bif Nat.ble i 10 then (bif Nat.ble i 9 then (58, .iload_n 3, 0, 0, 0, []) else (59, .bipush 8, 0, 0, 8, [])) else (bif Nat.ble i 11 then (61, .if_icmp .ge 26, 25, 0, 0, []) else (64, .iload_n 2, 0, 0, 0, []))) else (bif Nat.ble i 14 then (bif Nat.ble i 13 then (65, .aload_n 0, 0, 0, 0, []) else (66, .getfield 7, 2, 7, 0, [])) else (bif Nat.ble i 15 then (69, .iload_n 3, 0, 0, 0, []) else (bif Nat.ble i 16 then (70, .iaload, 0, 0, 0, []) else (71, .ifCond .lt 7, 20, 0, 0, [])))))) else (bif Nat.ble i 26 then (bif Nat.ble i 21 then (bif Nat.ble i 19 then (bif Nat.ble i 18 then (74, .iconst 1, 0, 0, 1, []) else (75, .goto 4, 21, 0, 0, [])) else (bif Nat.ble i 20 then (78, .iconst 0, 0, 0, 0, []) else (79, .iadd, 0, 0, 0, []))) else (bif Nat.ble i 23 then (bif Nat.ble i 22 then (80, .istore_n 2, 0, 0, 0, []) else (81, .iinc 3 1, 0, 0, 1, [])) else (bif Nat.ble i 24 then (84, .goto (-26), 9, 0, 0, []) else (bif Nat.ble i 25 then (87, .iload_n 2, 0, 0, 0, []) else (88, .ireturn, 0, 0, 0, []))))) else (bif Nat.ble i 30 then (bif Nat.ble i 28 then (bif Nat.ble i 27 then (89, .aload_n 0, 0, 0, 0, []) else (90, .getfield 19, 5, 7, 0, [])) else (bif Nat.ble i 29 then (93, .iconst 0, 0, 0, 0, []) else (94, .iaload, 0, 0, 0, []))) else (bif Nat.ble i 32 then (bif Nat.ble i 31 then (95, .ireturn, 0, 0, 0, []) else (96, .aload_n 0, 0, 0, 0, [])) else (bif Nat.ble i 33 then (97, .getfield 19, 5, 7, 0, []) else (bif Nat.ble i 34 then (100, .iconst 1, 0, 0, 1, []) else (101, .iaload, 0, 0, 0, []))))))) else (bif Nat.ble i 53 then (bif Nat.ble i 44 then (bif Nat.ble i 39 then (bif Nat.ble i 37 then (bif Nat.ble i 36 then (102, .ireturn, 0, 0, 0, []) else (103, .aload_n 0, 0, 0, 0, [])) else (bif Nat.ble i 38 then (104, .getfield 19, 5, 7, 0, []) else (107, .iconst 2, 0, 0, 2, []))) else (bif Nat.ble i 41 then (bif Nat.ble i 40 then (108, .iaload, 0, 0, 0, []) else (109, .ireturn, 0, 0, 0, [])) else (bif Nat.ble i 42 then (110, .aload_n 0, 0, 0, 0, []) else (bif Nat.ble i 43 then (111, .getfield 19, 5, 7, 0, []) else (114, .iconst 3, 0, 0, 3, []))))) else (bif Nat.ble i 48 then (bif Nat.ble i 46 then (bif Nat.ble i 45 then (115, .iaload, 0, 0, 0, []) else (116, .ireturn, 0, 0, 0, [])) else (bif Nat.ble i 47 then (117, .iconst 0, 0, 0, 0, []) else (118, .istore_n 3, 0, 0, 0, []))) else (bif Nat.ble i 50 then (bif Nat.ble i 49 then (119, .iload_n 3, 0, 0, 0, []) else (120, .bipush 7, 0, 0, 7, [])) else (bif Nat.ble i 51 then (122, .if_icmp .ge 20, 63, 0, 0, []) else (bif Nat.ble i 52 then (125, .iload_n 2, 0, 0, 0, []) else (126, .aload_n 0, 0, 0, 0, [])))))) else (bif Nat.ble i 62 then (bif Nat.ble i 57 then (bif Nat.ble i 55 then (bif Nat.ble i 54 then (127, .getfield 19, 5, 7, 0, []) else (130, .iconst 4, 0, 0, 4, [])) else (bif Nat.ble i 56 then (131, .iload_n 3, 0, 0, 0, []) else (132, .iadd, 0, 0, 0, []))) else (bif Nat.ble i 59 then (bif Nat.ble i 58 then (133, .iaload, 0, 0, 0, []) else (134, .iadd, 0, 0, 0, [])) else (bif Nat.ble i 60 then (135, .istore_n 2, 0, 0, 0, []) else (bif Nat.ble i 61 then (136, .iinc 3 1, 0, 0, 1, []) else (139, .goto (-20), 49, 0, 0, []))))) else (bif Nat.ble i 67 then (bif Nat.ble i 64 then (bif Nat.ble i 63 then (142, .iload_n 2, 0, 0, 0, []) else (143, .ireturn, 0, 0, 0, [])) else (bif Nat.ble i 65 then (144, .aload_n 0, 0, 0, 0, []) else (bif Nat.ble i 66 then (145, .getfield 149, 9, 7, 0, []) else (148, .ireturn, 0, 0, 0, [])))) else (bif Nat.ble i 69 then (bif Nat.ble i 68 then (149, .aload_n 0, 0, 0, 0, []) else (150, .getfield 74, 11, 7, 0, [])) else (bif Nat.ble i 70 then (153, .ireturn, 0, 0, 0, []) else (bif Nat.ble i 71 then (154, .ldc 67, 0, 0, (-1000001), []) else (156, .ireturn, 0, 0, 0, []))))))))
/-- GridQuarrelsModel.status()I -/
def cd241 : Nat → mmE := fun i => (bif Nat.ble i 2 then (bif Nat.ble i 0 then (0, .aload_n 0, 0, 0, 0, []) else (bif Nat.ble i 1 then (1, .iconst 0, 0, 0, 0, []) else (2, .putfield 47, 0, 7, 0, []))) else (bif Nat.ble i 3 then (5, .aload_n 0, 0, 0, 0, []) else (bif Nat.ble i 4 then (6, .getfield 51, 1, 7, 0, []) else (9, .ireturn, 0, 0, 0, []))))
/-- GridQuarrelsLaw.law([I)Z -/
def cd242 : Nat → mmE := fun i => (bif Nat.ble i 574 then (bif Nat.ble i 286 then (bif Nat.ble i 142 then (bif Nat.ble i 70 then (bif Nat.ble i 34 then (bif Nat.ble i 16 then (bif Nat.ble i 7 then (bif Nat.ble i 3 then (bif Nat.ble i 1 then (bif Nat.ble i 0 then (0, .new 7, 6, 0, 0, []) else (3, .dup, 0, 0, 0, [])) else (bif Nat.ble i 2 then (4, .invokespecial 9, 105, 1, 0, []) else (7, .astore_n 1, 0, 0, 0, []))) else (bif Nat.ble i 5 then (bif Nat.ble i 4 then (8, .new 10, 7, 0, 0, []) else (11, .dup, 0, 0, 0, [])) else (bif Nat.ble i 6 then (12, .invokespecial 12, 155, 1, 0, []) else (15, .astore_n 2, 0, 0, 0, [])))) else (bif Nat.ble i 11 then (bif Nat.ble i 9 then (bif Nat.ble i 8 then (16, .iconst 0, 0, 0, 0, []) else (17, .istore_n 3, 0, 0, 0, [])) else (bif Nat.ble i 10 then (18, .iload_n 3, 0, 0, 0, []) else (19, .aload_n 0, 0, 0, 0, []))) else (bif Nat.ble i 13 then (bif Nat.ble i 12 then (20, .arraylength, 0, 0, 0, []) else (21, .bipush 6, 0, 0, 6, [])) else (bif Nat.ble i 14 then (23, .isub, 0, 0, 0, []) else (bif Nat.ble i 15 then (24, .if_icmp .gt 1575, 1149, 0, 0, []) else (27, .aload_n 0, 0, 0, 0, [])))))) else (bif Nat.ble i 25 then (bif Nat.ble i 20 then (bif Nat.ble i 18 then (bif Nat.ble i 17 then (28, .iload_n 3, 0, 0, 0, []) else (29, .iaload, 0, 0, 0, [])) else (bif Nat.ble i 19 then (30, .bipush 63, 0, 0, 63, []) else (32, .iand, 0, 0, 0, []))) else (bif Nat.ble i 22 then (bif Nat.ble i 21 then (33, .tableswitch 1560 0 41 #[183, 226, 269, 332, 355, 378, 391, 404, 417, 440, 473, 506, 539, 572, 605, 638, 671, 714, 747, 770, 803, 836, 859, 902, 955, 988, 1021, 1044, 1057, 1090, 1153, 1216, 1259, 1323, 1366, 1389, 1412, 1435, 1468, 1501, 1524, 1547], 1147, 0, 0, [(0, 22), (1, 59), (2, 96), (3, 153), (4, 170), (5, 187), (6, 194), (7, 201), (8, 208), (9, 225), (10, 252), (11, 279), (12, 306), (13, 333), (14, 360), (15, 387), (16, 414), (17, 451), (18, 478), (19, 495), (20, 522), (21, 549), (22, 566), (23, 603), (24, 650), (25, 677), (26, 704), (27, 721), (28, 728), (29, 755), (30, 812), (31, 869), (32, 906), (33, 964), (34, 1001), (35, 1018), (36, 1035), (37, 1052), (38, 1079), (39, 1106), (40, 1123), (41, 1140)]) else (216, .aload_n 1, 0, 0, 0, [])) else (bif Nat.ble i 23 then (217, .aload_n 0, 0, 0, 0, []) else (bif Nat.ble i 24 then (218, .iload_n 3, 0, 0, 0, []) else (219, .iconst 1, 0, 0, 1, []))))) else (bif Nat.ble i 29 then (bif Nat.ble i 27 then (bif Nat.ble i 26 then (220, .iadd, 0, 0, 0, []) else (221, .iaload, 0, 0, 0, [])) else (bif Nat.ble i 28 then (222, .aload_n 0, 0, 0, 0, []) else (223, .iload_n 3, 0, 0, 0, []))) else (bif Nat.ble i 31 then (bif Nat.ble i 30 then (224, .iconst 2, 0, 0, 2, []) else (225, .iadd, 0, 0, 0, [])) else (bif Nat.ble i 32 then (226, .iaload, 0, 0, 0, []) else (bif Nat.ble i 33 then (227, .aload_n 0, 0, 0, 0, []) else (228, .iload_n 3, 0, 0, 0, []))))))) else (bif Nat.ble i 52 then (bif Nat.ble i 43 then (bif Nat.ble i 38 then (bif Nat.ble i 36 then (bif Nat.ble i 35 then (229, .iconst 3, 0, 0, 3, []) else (230, .iadd, 0, 0, 0, [])) else (bif Nat.ble i 37 then (231, .iaload, 0, 0, 0, []) else (232, .invokevirtual 13, 106, 4, 0, []))) else (bif Nat.ble i 40 then (bif Nat.ble i 39 then (235, .aload_n 2, 0, 0, 0, []) else (236, .aload_n 0, 0, 0, 0, [])) else (bif Nat.ble i 41 then (237, .iload_n 3, 0, 0, 0, []) else (bif Nat.ble i 42 then (238, .iconst 1, 0, 0, 1, []) else (239, .iadd, 0, 0, 0, []))))) else (bif Nat.ble i 47 then (bif Nat.ble i 45 then (bif Nat.ble i 44 then (240, .iaload, 0, 0, 0, []) else (241, .aload_n 0, 0, 0, 0, [])) else (bif Nat.ble i 46 then (242, .iload_n 3, 0, 0, 0, []) else (243, .iconst 2, 0, 0, 2, []))) else (bif Nat.ble i 49 then (bif Nat.ble i 48 then (244, .iadd, 0, 0, 0, []) else (245, .iaload, 0, 0, 0, [])) else (bif Nat.ble i 50 then (246, .aload_n 0, 0, 0, 0, []) else (bif Nat.ble i 51 then (247, .iload_n 3, 0, 0, 0, []) else (248, .iconst 3, 0, 0, 3, [])))))) else (bif Nat.ble i 61 then (bif Nat.ble i 56 then (bif Nat.ble i 54 then (bif Nat.ble i 53 then (249, .iadd, 0, 0, 0, []) else (250, .iaload, 0, 0, 0, [])) else (bif Nat.ble i 55 then (251, .invokevirtual 17, 159, 4, 0, []) else (254, .if_icmp .eq 1339, 1147, 0, 0, []))) else (bif Nat.ble i 58 then (bif Nat.ble i 57 then (257, .iconst 0, 0, 0, 0, []) else (258, .ireturn, 0, 0, 0, [])) else (bif Nat.ble i 59 then (259, .aload_n 1, 0, 0, 0, []) else (bif Nat.ble i 60 then (260, .aload_n 0, 0, 0, 0, []) else (261, .iload_n 3, 0, 0, 0, []))))) else (bif Nat.ble i 65 then (bif Nat.ble i 63 then (bif Nat.ble i 62 then (262, .iconst 1, 0, 0, 1, []) else (263, .iadd, 0, 0, 0, [])) else (bif Nat.ble i 64 then (264, .iaload, 0, 0, 0, []) else (265, .aload_n 0, 0, 0, 0, []))) else (bif Nat.ble i 67 then (bif Nat.ble i 66 then (266, .iload_n 3, 0, 0, 0, []) else (267, .iconst 2, 0, 0, 2, [])) else (bif Nat.ble i 68 then (268, .iadd, 0, 0, 0, []) else (bif Nat.ble i 69 then (269, .iaload, 0, 0, 0, []) else (270, .aload_n 0, 0, 0, 0, [])))))))) else (bif Nat.ble i 106 then (bif Nat.ble i 88 then (bif Nat.ble i 79 then (bif Nat.ble i 74 then (bif Nat.ble i 72 then (bif Nat.ble i 71 then (271, .iload_n 3, 0, 0, 0, []) else (272, .iconst 3, 0, 0, 3, [])) else (bif Nat.ble i 73 then (273, .iadd, 0, 0, 0, []) else (274, .iaload, 0, 0, 0, []))) else (bif Nat.ble i 76 then (bif Nat.ble i 75 then (275, .invokevirtual 18, 107, 4, 0, []) else (278, .aload_n 2, 0, 0, 0, [])) else (bif Nat.ble i 77 then (279, .aload_n 0, 0, 0, 0, []) else (bif Nat.ble i 78 then (280, .iload_n 3, 0, 0, 0, []) else (281, .iconst 1, 0, 0, 1, []))))) else (bif Nat.ble i 83 then (bif Nat.ble i 81 then (bif Nat.ble i 80 then (282, .iadd, 0, 0, 0, []) else (283, .iaload, 0, 0, 0, [])) else (bif Nat.ble i 82 then (284, .aload_n 0, 0, 0, 0, []) else (285, .iload_n 3, 0, 0, 0, []))) else (bif Nat.ble i 85 then (bif Nat.ble i 84 then (286, .iconst 2, 0, 0, 2, []) else (287, .iadd, 0, 0, 0, [])) else (bif Nat.ble i 86 then (288, .iaload, 0, 0, 0, []) else (bif Nat.ble i 87 then (289, .aload_n 0, 0, 0, 0, []) else (290, .iload_n 3, 0, 0, 0, [])))))) else (bif Nat.ble i 97 then (bif Nat.ble i 92 then (bif Nat.ble i 90 then (bif Nat.ble i 89 then (291, .iconst 3, 0, 0, 3, []) else (292, .iadd, 0, 0, 0, [])) else (bif Nat.ble i 91 then (293, .iaload, 0, 0, 0, []) else (294, .invokevirtual 21, 160, 4, 0, []))) else (bif Nat.ble i 94 then (bif Nat.ble i 93 then (297, .if_icmp .eq 1296, 1147, 0, 0, []) else (300, .iconst 0, 0, 0, 0, [])) else (bif Nat.ble i 95 then (301, .ireturn, 0, 0, 0, []) else (bif Nat.ble i 96 then (302, .aload_n 1, 0, 0, 0, []) else (303, .aload_n 0, 0, 0, 0, []))))) else (bif Nat.ble i 101 then (bif Nat.ble i 99 then (bif Nat.ble i 98 then (304, .iload_n 3, 0, 0, 0, []) else (305, .iconst 1, 0, 0, 1, [])) else (bif Nat.ble i 100 then (306, .iadd, 0, 0, 0, []) else (307, .iaload, 0, 0, 0, []))) else (bif Nat.ble i 103 then (bif Nat.ble i 102 then (308, .aload_n 0, 0, 0, 0, []) else (309, .iload_n 3, 0, 0, 0, [])) else (bif Nat.ble i 104 then (310, .iconst 2, 0, 0, 2, []) else (bif Nat.ble i 105 then (311, .iadd, 0, 0, 0, []) else (312, .iaload, 0, 0, 0, []))))))) else (bif Nat.ble i 124 then (bif Nat.ble i 115 then (bif Nat.ble i 110 then (bif Nat.ble i 108 then (bif Nat.ble i 107 then (313, .aload_n 0, 0, 0, 0, []) else (314, .iload_n 3, 0, 0, 0, [])) else (bif Nat.ble i 109 then (315, .iconst 3, 0, 0, 3, []) else (316, .iadd, 0, 0, 0, []))) else (bif Nat.ble i 112 then (bif Nat.ble i 111 then (317, .iaload, 0, 0, 0, []) else (318, .aload_n 0, 0, 0, 0, [])) else (bif Nat.ble i 113 then (319, .iload_n 3, 0, 0, 0, []) else (bif Nat.ble i 114 then (320, .iconst 4, 0, 0, 4, []) else (321, .iadd, 0, 0, 0, []))))) else (bif Nat.ble i 119 then (bif Nat.ble i 117 then (bif Nat.ble i 116 then (322, .iaload, 0, 0, 0, []) else (323, .aload_n 0, 0, 0, 0, [])) else (bif Nat.ble i 118 then (324, .iload_n 3, 0, 0, 0, []) else (325, .iconst 5, 0, 0, 5, []))) else (bif Nat.ble i 121 then (bif Nat.ble i 120 then (326, .iadd, 0, 0, 0, []) else (327, .iaload, 0, 0, 0, [])) else (bif Nat.ble i 122 then (328, .invokevirtual 22, 108, 6, 0, []) else (bif Nat.ble i 123 then (331, .aload_n 2, 0, 0, 0, []) else (332, .aload_n 0, 0, 0, 0, [])))))) else (bif Nat.ble i 133 then (bif Nat.ble i 128 then (bif Nat.ble i 126 then (bif Nat.ble i 125 then (333, .iload_n 3, 0, 0, 0, []) else (334, .iconst 1, 0, 0, 1, [])) else (bif Nat.ble i 127 then (335, .iadd, 0, 0, 0, []) else (336, .iaload, 0, 0, 0, []))) else (bif Nat.ble i 130 then (bif Nat.ble i 129 then (337, .aload_n 0, 0, 0, 0, []) else (338, .iload_n 3, 0, 0, 0, [])) else (bif Nat.ble i 131 then (339, .iconst 2, 0, 0, 2, []) else (bif Nat.ble i 132 then (340, .iadd, 0, 0, 0, []) else (341, .iaload, 0, 0, 0, []))))) else (bif Nat.ble i 137 then (bif Nat.ble i 135 then (bif Nat.ble i 134 then (342, .aload_n 0, 0, 0, 0, []) else (343, .iload_n 3, 0, 0, 0, [])) else (bif Nat.ble i 136 then (344, .iconst 3, 0, 0, 3, []) else (345, .iadd, 0, 0, 0, []))) else (bif Nat.ble i 139 then (bif Nat.ble i 138 then (346, .iaload, 0, 0, 0, []) else (347, .aload_n 0, 0, 0, 0, [])) else (bif Nat.ble i 140 then (348, .iload_n 3, 0, 0, 0, []) else (bif Nat.ble i 141 then (349, .iconst 4, 0, 0, 4, []) else (350, .iadd, 0, 0, 0, []))))))))) else (bif Nat.ble i 214 then (bif Nat.ble i 178 then (bif Nat.ble i 160 then (bif Nat.ble i 151 then (bif Nat.ble i 146 then (bif Nat.ble i 144 then (bif Nat.ble i 143 then (351, .iaload, 0, 0, 0, []) else (352, .aload_n 0, 0, 0, 0, [])) else (bif Nat.ble i 145 then (353, .iload_n 3, 0, 0, 0, []) else (354, .iconst 5, 0, 0, 5, []))) else (bif Nat.ble i 148 then (bif Nat.ble i 147 then (355, .iadd, 0, 0, 0, []) else (356, .iaload, 0, 0, 0, [])) else (bif Nat.ble i 149 then (357, .invokevirtual 26, 161, 6, 0, []) else (bif Nat.ble i 150 then (360, .if_icmp .eq 1233, 1147, 0, 0, []) else (363, .iconst 0, 0, 0, 0, []))))) else (bif Nat.ble i 155 then (bif Nat.ble i 153 then (bif Nat.ble i 152 then (364, .ireturn, 0, 0, 0, []) else (365, .aload_n 1, 0, 0, 0, [])) else (bif Nat.ble i 154 then (366, .aload_n 0, 0, 0, 0, []) else (367, .iload_n 3, 0, 0, 0, []))) else (bif Nat.ble i 157 then (bif Nat.ble i 156 then (368, .iconst 1, 0, 0, 1, []) else (369, .iadd, 0, 0, 0, [])) else (bif Nat.ble i 158 then (370, .iaload, 0, 0, 0, []) else (bif Nat.ble i 159 then (371, .invokevirtual 27, 109, 2, 0, []) else (374, .aload_n 2, 0, 0, 0, [])))))) else (bif Nat.ble i 169 then (bif Nat.ble i 164 then (bif Nat.ble i 162 then (bif Nat.ble i 161 then (375, .aload_n 0, 0, 0, 0, []) else (376, .iload_n 3, 0, 0, 0, [])) else (bif Nat.ble i 163 then (377, .iconst 1, 0, 0, 1, []) else (378, .iadd, 0, 0, 0, []))) else (bif Nat.ble i 166 then (bif Nat.ble i 165 then (379, .iaload, 0, 0, 0, []) else (380, .invokevirtual 31, 162, 2, 0, [])) else (bif Nat.ble i 167 then (383, .if_icmp .eq 1210, 1147, 0, 0, []) else (bif Nat.ble i 168 then (386, .iconst 0, 0, 0, 0, []) else (387, .ireturn, 0, 0, 0, []))))) else (bif Nat.ble i 173 then (bif Nat.ble i 171 then (bif Nat.ble i 170 then (388, .aload_n 1, 0, 0, 0, []) else (389, .aload_n 0, 0, 0, 0, [])) else (bif Nat.ble i 172 then (390, .iload_n 3, 0, 0, 0, []) else (391, .iconst 1, 0, 0, 1, []))) else (bif Nat.ble i 175 then (bif Nat.ble i 174 then (392, .iadd, 0, 0, 0, []) else (393, .iaload, 0, 0, 0, [])) else (bif Nat.ble i 176 then (394, .invokevirtual 32, 110, 2, 0, []) else (bif Nat.ble i 177 then (397, .aload_n 2, 0, 0, 0, []) else (398, .aload_n 0, 0, 0, 0, []))))))) else (bif Nat.ble i 196 then (bif Nat.ble i 187 then (bif Nat.ble i 182 then (bif Nat.ble i 180 then (bif Nat.ble i 179 then (399, .iload_n 3, 0, 0, 0, []) else (400, .iconst 1, 0, 0, 1, [])) else (bif Nat.ble i 181 then (401, .iadd, 0, 0, 0, []) else (402, .iaload, 0, 0, 0, []))) else (bif Nat.ble i 184 then (bif Nat.ble i 183 then (403, .invokevirtual 35, 163, 2, 0, []) else (406, .if_icmp .eq 1187, 1147, 0, 0, [])) else (bif Nat.ble i 185 then (409, .iconst 0, 0, 0, 0, []) else (bif Nat.ble i 186 then (410, .ireturn, 0, 0, 0, []) else (411, .aload_n 1, 0, 0, 0, []))))) else (bif Nat.ble i 191 then (bif Nat.ble i 189 then (bif Nat.ble i 188 then (412, .invokevirtual 36, 111, 1, 0, []) else (415, .aload_n 2, 0, 0, 0, [])) else (bif Nat.ble i 190 then (416, .invokevirtual 40, 177, 1, 0, []) else (419, .if_icmp .eq 1174, 1147, 0, 0, []))) else (bif Nat.ble i 193 then (bif Nat.ble i 192 then (422, .iconst 0, 0, 0, 0, []) else (423, .ireturn, 0, 0, 0, [])) else (bif Nat.ble i 194 then (424, .aload_n 1, 0, 0, 0, []) else (bif Nat.ble i 195 then (425, .invokevirtual 41, 112, 1, 0, []) else (428, .aload_n 2, 0, 0, 0, [])))))) else (bif Nat.ble i 205 then (bif Nat.ble i 200 then (bif Nat.ble i 198 then (bif Nat.ble i 197 then (429, .invokevirtual 44, 172, 1, 0, []) else (432, .if_icmp .eq 1161, 1147, 0, 0, [])) else (bif Nat.ble i 199 then (435, .iconst 0, 0, 0, 0, []) else (436, .ireturn, 0, 0, 0, []))) else (bif Nat.ble i 202 then (bif Nat.ble i 201 then (437, .aload_n 1, 0, 0, 0, []) else (438, .invokevirtual 45, 113, 1, 0, [])) else (bif Nat.ble i 203 then (441, .aload_n 2, 0, 0, 0, []) else (bif Nat.ble i 204 then (442, .invokevirtual 48, 202, 1, 0, []) else (445, .if_icmp .eq 1148, 1147, 0, 0, []))))) else (bif Nat.ble i 209 then (bif Nat.ble i 207 then (bif Nat.ble i 206 then (448, .iconst 0, 0, 0, 0, []) else (449, .ireturn, 0, 0, 0, [])) else (bif Nat.ble i 208 then (450, .aload_n 1, 0, 0, 0, []) else (451, .aload_n 0, 0, 0, 0, []))) else (bif Nat.ble i 211 then (bif Nat.ble i 210 then (452, .iload_n 3, 0, 0, 0, []) else (453, .iconst 1, 0, 0, 1, [])) else (bif Nat.ble i 212 then (454, .iadd, 0, 0, 0, []) else (bif Nat.ble i 213 then (455, .iaload, 0, 0, 0, []) else (456, .invokevirtual 49, 114, 2, 0, [])))))))) else (bif Nat.ble i 250 then (bif Nat.ble i 232 then (bif Nat.ble i 223 then (bif Nat.ble i 218 then (bif Nat.ble i 216 then (bif Nat.ble i 215 then (459, .aload_n 2, 0, 0, 0, []) else (460, .aload_n 0, 0, 0, 0, [])) else (bif Nat.ble i 217 then (461, .iload_n 3, 0, 0, 0, []) else (462, .iconst 1, 0, 0, 1, []))) else (bif Nat.ble i 220 then (bif Nat.ble i 219 then (463, .iadd, 0, 0, 0, []) else (464, .iaload, 0, 0, 0, [])) else (bif Nat.ble i 221 then (465, .invokevirtual 52, 197, 2, 0, []) else (bif Nat.ble i 222 then (468, .if_icmp .eq 1125, 1147, 0, 0, []) else (471, .iconst 0, 0, 0, 0, []))))) else (bif Nat.ble i 227 then (bif Nat.ble i 225 then (bif Nat.ble i 224 then (472, .ireturn, 0, 0, 0, []) else (473, .aload_n 1, 0, 0, 0, [])) else (bif Nat.ble i 226 then (474, .aload_n 0, 0, 0, 0, []) else (475, .iload_n 3, 0, 0, 0, []))) else (bif Nat.ble i 229 then (bif Nat.ble i 228 then (476, .iconst 1, 0, 0, 1, []) else (477, .iadd, 0, 0, 0, [])) else (bif Nat.ble i 230 then (478, .iaload, 0, 0, 0, []) else (bif Nat.ble i 231 then (479, .aload_n 0, 0, 0, 0, []) else (480, .iload_n 3, 0, 0, 0, [])))))) else (bif Nat.ble i 241 then (bif Nat.ble i 236 then (bif Nat.ble i 234 then (bif Nat.ble i 233 then (481, .iconst 2, 0, 0, 2, []) else (482, .iadd, 0, 0, 0, [])) else (bif Nat.ble i 235 then (483, .iaload, 0, 0, 0, []) else (484, .invokevirtual 53, 115, 3, 0, []))) else (bif Nat.ble i 238 then (bif Nat.ble i 237 then (487, .aload_n 2, 0, 0, 0, []) else (488, .aload_n 0, 0, 0, 0, [])) else (bif Nat.ble i 239 then (489, .iload_n 3, 0, 0, 0, []) else (bif Nat.ble i 240 then (490, .iconst 1, 0, 0, 1, []) else (491, .iadd, 0, 0, 0, []))))) else (bif Nat.ble i 245 then (bif Nat.ble i 243 then (bif Nat.ble i 242 then (492, .iaload, 0, 0, 0, []) else (493, .aload_n 0, 0, 0, 0, [])) else (bif Nat.ble i 244 then (494, .iload_n 3, 0, 0, 0, []) else (495, .iconst 2, 0, 0, 2, []))) else (bif Nat.ble i 247 then (bif Nat.ble i 246 then (496, .iadd, 0, 0, 0, []) else (497, .iaload, 0, 0, 0, [])) else (bif Nat.ble i 248 then (498, .invokevirtual 57, 198, 3, 0, []) else (bif Nat.ble i 249 then (501, .if_icmp .eq 1092, 1147, 0, 0, []) else (504, .iconst 0, 0, 0, 0, []))))))) else (bif Nat.ble i 268 then (bif Nat.ble i 259 then (bif Nat.ble i 254 then (bif Nat.ble i 252 then (bif Nat.ble i 251 then (505, .ireturn, 0, 0, 0, []) else (506, .aload_n 1, 0, 0, 0, [])) else (bif Nat.ble i 253 then (507, .aload_n 0, 0, 0, 0, []) else (508, .iload_n 3, 0, 0, 0, []))) else (bif Nat.ble i 256 then (bif Nat.ble i 255 then (509, .iconst 1, 0, 0, 1, []) else (510, .iadd, 0, 0, 0, [])) else (bif Nat.ble i 257 then (511, .iaload, 0, 0, 0, []) else (bif Nat.ble i 258 then (512, .aload_n 0, 0, 0, 0, []) else (513, .iload_n 3, 0, 0, 0, []))))) else (bif Nat.ble i 263 then (bif Nat.ble i 261 then (bif Nat.ble i 260 then (514, .iconst 2, 0, 0, 2, []) else (515, .iadd, 0, 0, 0, [])) else (bif Nat.ble i 262 then (516, .iaload, 0, 0, 0, []) else (517, .invokevirtual 58, 116, 3, 0, []))) else (bif Nat.ble i 265 then (bif Nat.ble i 264 then (520, .aload_n 2, 0, 0, 0, []) else (521, .aload_n 0, 0, 0, 0, [])) else (bif Nat.ble i 266 then (522, .iload_n 3, 0, 0, 0, []) else (bif Nat.ble i 267 then (523, .iconst 1, 0, 0, 1, []) else (524, .iadd, 0, 0, 0, [])))))) else (bif Nat.ble i 277 then (bif Nat.ble i 272 then (bif Nat.ble i 270 then (bif Nat.ble i 269 then (525, .iaload, 0, 0, 0, []) else (526, .aload_n 0, 0, 0, 0, [])) else (bif Nat.ble i 271 then (527, .iload_n 3, 0, 0, 0, []) else (528, .iconst 2, 0, 0, 2, []))) else (bif Nat.ble i 274 then (bif Nat.ble i 273 then (529, .iadd, 0, 0, 0, []) else (530, .iaload, 0, 0, 0, [])) else (bif Nat.ble i 275 then (531, .invokevirtual 61, 199, 3, 0, []) else (bif Nat.ble i 276 then (534, .if_icmp .eq 1059, 1147, 0, 0, []) else (537, .iconst 0, 0, 0, 0, []))))) else (bif Nat.ble i 281 then (bif Nat.ble i 279 then (bif Nat.ble i 278 then (538, .ireturn, 0, 0, 0, []) else (539, .aload_n 1, 0, 0, 0, [])) else (bif Nat.ble i 280 then (540, .aload_n 0, 0, 0, 0, []) else (541, .iload_n 3, 0, 0, 0, []))) else (bif Nat.ble i 283 then (bif Nat.ble i 282 then (542, .iconst 1, 0, 0, 1, []) else (543, .iadd, 0, 0, 0, [])) else (bif Nat.ble i 284 then (544, .iaload, 0, 0, 0, []) else (bif Nat.ble i 285 then (545, .aload_n 0, 0, 0, 0, []) else (546, .iload_n 3, 0, 0, 0, [])))))))))) else (bif Nat.ble i 430 then (bif Nat.ble i 358 then (bif Nat.ble i 322 then (bif Nat.ble i 304 then (bif Nat.ble i 295 then (bif Nat.ble i 290 then (bif Nat.ble i 288 then (bif Nat.ble i 287 then (547, .iconst 2, 0, 0, 2, []) else (548, .iadd, 0, 0, 0, [])) else (bif Nat.ble i 289 then (549, .iaload, 0, 0, 0, []) else (550, .invokevirtual 62, 117, 3, 0, []))) else (bif Nat.ble i 292 then (bif Nat.ble i 291 then (553, .aload_n 2, 0, 0, 0, []) else (554, .aload_n 0, 0, 0, 0, [])) else (bif Nat.ble i 293 then (555, .iload_n 3, 0, 0, 0, []) else (bif Nat.ble i 294 then (556, .iconst 1, 0, 0, 1, []) else (557, .iadd, 0, 0, 0, []))))) else (bif Nat.ble i 299 then (bif Nat.ble i 297 then (bif Nat.ble i 296 then (558, .iaload, 0, 0, 0, []) else (559, .aload_n 0, 0, 0, 0, [])) else (bif Nat.ble i 298 then (560, .iload_n 3, 0, 0, 0, []) else (561, .iconst 2, 0, 0, 2, []))) else (bif Nat.ble i 301 then (bif Nat.ble i 300 then (562, .iadd, 0, 0, 0, []) else (563, .iaload, 0, 0, 0, [])) else (bif Nat.ble i 302 then (564, .invokevirtual 65, 200, 3, 0, []) else (bif Nat.ble i 303 then (567, .if_icmp .eq 1026, 1147, 0, 0, []) else (570, .iconst 0, 0, 0, 0, [])))))) else (bif Nat.ble i 313 then (bif Nat.ble i 308 then (bif Nat.ble i 306 then (bif Nat.ble i 305 then (571, .ireturn, 0, 0, 0, []) else (572, .aload_n 1, 0, 0, 0, [])) else (bif Nat.ble i 307 then (573, .aload_n 0, 0, 0, 0, []) else (574, .iload_n 3, 0, 0, 0, []))) else (bif Nat.ble i 310 then (bif Nat.ble i 309 then (575, .iconst 1, 0, 0, 1, []) else (576, .iadd, 0, 0, 0, [])) else (bif Nat.ble i 311 then (577, .iaload, 0, 0, 0, []) else (bif Nat.ble i 312 then (578, .aload_n 0, 0, 0, 0, []) else (579, .iload_n 3, 0, 0, 0, []))))) else (bif Nat.ble i 317 then (bif Nat.ble i 315 then (bif Nat.ble i 314 then (580, .iconst 2, 0, 0, 2, []) else (581, .iadd, 0, 0, 0, [])) else (bif Nat.ble i 316 then (582, .iaload, 0, 0, 0, []) else (583, .invokevirtual 66, 118, 3, 0, []))) else (bif Nat.ble i 319 then (bif Nat.ble i 318 then (586, .aload_n 2, 0, 0, 0, []) else (587, .aload_n 0, 0, 0, 0, [])) else (bif Nat.ble i 320 then (588, .iload_n 3, 0, 0, 0, []) else (bif Nat.ble i 321 then (589, .iconst 1, 0, 0, 1, []) else (590, .iadd, 0, 0, 0, []))))))) else (bif Nat.ble i 340 then (bif Nat.ble i 331 then (bif Nat.ble i 326 then (bif Nat.ble i 324 then (bif Nat.ble i 323 then (591, .iaload, 0, 0, 0, []) else (592, .aload_n 0, 0, 0, 0, [])) else (bif Nat.ble i 325 then (593, .iload_n 3, 0, 0, 0, []) else (594, .iconst 2, 0, 0, 2, []))) else (bif Nat.ble i 328 then (bif Nat.ble i 327 then (595, .iadd, 0, 0, 0, []) else (596, .iaload, 0, 0, 0, [])) else (bif Nat.ble i 329 then (597, .invokevirtual 69, 201, 3, 0, []) else (bif Nat.ble i 330 then (600, .if_icmp .eq 993, 1147, 0, 0, []) else (603, .iconst 0, 0, 0, 0, []))))) else (bif Nat.ble i 335 then (bif Nat.ble i 333 then (bif Nat.ble i 332 then (604, .ireturn, 0, 0, 0, []) else (605, .aload_n 1, 0, 0, 0, [])) else (bif Nat.ble i 334 then (606, .aload_n 0, 0, 0, 0, []) else (607, .iload_n 3, 0, 0, 0, []))) else (bif Nat.ble i 337 then (bif Nat.ble i 336 then (608, .iconst 1, 0, 0, 1, []) else (609, .iadd, 0, 0, 0, [])) else (bif Nat.ble i 338 then (610, .iaload, 0, 0, 0, []) else (bif Nat.ble i 339 then (611, .aload_n 0, 0, 0, 0, []) else (612, .iload_n 3, 0, 0, 0, [])))))) else (bif Nat.ble i 349 then (bif Nat.ble i 344 then (bif Nat.ble i 342 then (bif Nat.ble i 341 then (613, .iconst 2, 0, 0, 2, []) else (614, .iadd, 0, 0, 0, [])) else (bif Nat.ble i 343 then (615, .iaload, 0, 0, 0, []) else (616, .invokevirtual 70, 119, 3, 0, []))) else (bif Nat.ble i 346 then (bif Nat.ble i 345 then (619, .aload_n 2, 0, 0, 0, []) else (620, .aload_n 0, 0, 0, 0, [])) else (bif Nat.ble i 347 then (621, .iload_n 3, 0, 0, 0, []) else (bif Nat.ble i 348 then (622, .iconst 1, 0, 0, 1, []) else (623, .iadd, 0, 0, 0, []))))) else (bif Nat.ble i 353 then (bif Nat.ble i 351 then (bif Nat.ble i 350 then (624, .iaload, 0, 0, 0, []) else (625, .aload_n 0, 0, 0, 0, [])) else (bif Nat.ble i 352 then (626, .iload_n 3, 0, 0, 0, []) else (627, .iconst 2, 0, 0, 2, []))) else (bif Nat.ble i 355 then (bif Nat.ble i 354 then (628, .iadd, 0, 0, 0, []) else (629, .iaload, 0, 0, 0, [])) else (bif Nat.ble i 356 then (630, .invokevirtual 73, 203, 3, 0, []) else (bif Nat.ble i 357 then (633, .if_icmp .eq 960, 1147, 0, 0, []) else (636, .iconst 0, 0, 0, 0, [])))))))) else (bif Nat.ble i 394 then (bif Nat.ble i 376 then (bif Nat.ble i 367 then (bif Nat.ble i 362 then (bif Nat.ble i 360 then (bif Nat.ble i 359 then (637, .ireturn, 0, 0, 0, []) else (638, .aload_n 1, 0, 0, 0, [])) else (bif Nat.ble i 361 then (639, .aload_n 0, 0, 0, 0, []) else (640, .iload_n 3, 0, 0, 0, []))) else (bif Nat.ble i 364 then (bif Nat.ble i 363 then (641, .iconst 1, 0, 0, 1, []) else (642, .iadd, 0, 0, 0, [])) else (bif Nat.ble i 365 then (643, .iaload, 0, 0, 0, []) else (bif Nat.ble i 366 then (644, .aload_n 0, 0, 0, 0, []) else (645, .iload_n 3, 0, 0, 0, []))))) else (bif Nat.ble i 371 then (bif Nat.ble i 369 then (bif Nat.ble i 368 then (646, .iconst 2, 0, 0, 2, []) else (647, .iadd, 0, 0, 0, [])) else (bif Nat.ble i 370 then (648, .iaload, 0, 0, 0, []) else (649, .invokevirtual 74, 120, 3, 0, []))) else (bif Nat.ble i 373 then (bif Nat.ble i 372 then (652, .aload_n 2, 0, 0, 0, []) else (653, .aload_n 0, 0, 0, 0, [])) else (bif Nat.ble i 374 then (654, .iload_n 3, 0, 0, 0, []) else (bif Nat.ble i 375 then (655, .iconst 1, 0, 0, 1, []) else (656, .iadd, 0, 0, 0, [])))))) else (bif Nat.ble i 385 then (bif Nat.ble i 380 then (bif Nat.ble i 378 then (bif Nat.ble i 377 then (657, .iaload, 0, 0, 0, []) else (658, .aload_n 0, 0, 0, 0, [])) else (bif Nat.ble i 379 then (659, .iload_n 3, 0, 0, 0, []) else (660, .iconst 2, 0, 0, 2, []))) else (bif Nat.ble i 382 then (bif Nat.ble i 381 then (661, .iadd, 0, 0, 0, []) else (662, .iaload, 0, 0, 0, [])) else (bif Nat.ble i 383 then (663, .invokevirtual 77, 204, 3, 0, []) else (bif Nat.ble i 384 then (666, .if_icmp .eq 927, 1147, 0, 0, []) else (669, .iconst 0, 0, 0, 0, []))))) else (bif Nat.ble i 389 then (bif Nat.ble i 387 then (bif Nat.ble i 386 then (670, .ireturn, 0, 0, 0, []) else (671, .aload_n 1, 0, 0, 0, [])) else (bif Nat.ble i 388 then (672, .aload_n 0, 0, 0, 0, []) else (673, .iload_n 3, 0, 0, 0, []))) else (bif Nat.ble i 391 then (bif Nat.ble i 390 then (674, .iconst 1, 0, 0, 1, []) else (675, .iadd, 0, 0, 0, [])) else (bif Nat.ble i 392 then (676, .iaload, 0, 0, 0, []) else (bif Nat.ble i 393 then (677, .aload_n 0, 0, 0, 0, []) else (678, .iload_n 3, 0, 0, 0, []))))))) else (bif Nat.ble i 412 then (bif Nat.ble i 403 then (bif Nat.ble i 398 then (bif Nat.ble i 396 then (bif Nat.ble i 395 then (679, .iconst 2, 0, 0, 2, []) else (680, .iadd, 0, 0, 0, [])) else (bif Nat.ble i 397 then (681, .iaload, 0, 0, 0, []) else (682, .invokevirtual 78, 121, 3, 0, []))) else (bif Nat.ble i 400 then (bif Nat.ble i 399 then (685, .aload_n 2, 0, 0, 0, []) else (686, .aload_n 0, 0, 0, 0, [])) else (bif Nat.ble i 401 then (687, .iload_n 3, 0, 0, 0, []) else (bif Nat.ble i 402 then (688, .iconst 1, 0, 0, 1, []) else (689, .iadd, 0, 0, 0, []))))) else (bif Nat.ble i 407 then (bif Nat.ble i 405 then (bif Nat.ble i 404 then (690, .iaload, 0, 0, 0, []) else (691, .aload_n 0, 0, 0, 0, [])) else (bif Nat.ble i 406 then (692, .iload_n 3, 0, 0, 0, []) else (693, .iconst 2, 0, 0, 2, []))) else (bif Nat.ble i 409 then (bif Nat.ble i 408 then (694, .iadd, 0, 0, 0, []) else (695, .iaload, 0, 0, 0, [])) else (bif Nat.ble i 410 then (696, .invokevirtual 81, 205, 3, 0, []) else (bif Nat.ble i 411 then (699, .if_icmp .eq 894, 1147, 0, 0, []) else (702, .iconst 0, 0, 0, 0, [])))))) else (bif Nat.ble i 421 then (bif Nat.ble i 416 then (bif Nat.ble i 414 then (bif Nat.ble i 413 then (703, .ireturn, 0, 0, 0, []) else (704, .aload_n 1, 0, 0, 0, [])) else (bif Nat.ble i 415 then (705, .aload_n 0, 0, 0, 0, []) else (706, .iload_n 3, 0, 0, 0, []))) else (bif Nat.ble i 418 then (bif Nat.ble i 417 then (707, .iconst 1, 0, 0, 1, []) else (708, .iadd, 0, 0, 0, [])) else (bif Nat.ble i 419 then (709, .iaload, 0, 0, 0, []) else (bif Nat.ble i 420 then (710, .aload_n 0, 0, 0, 0, []) else (711, .iload_n 3, 0, 0, 0, []))))) else (bif Nat.ble i 425 then (bif Nat.ble i 423 then (bif Nat.ble i 422 then (712, .iconst 2, 0, 0, 2, []) else (713, .iadd, 0, 0, 0, [])) else (bif Nat.ble i 424 then (714, .iaload, 0, 0, 0, []) else (715, .aload_n 0, 0, 0, 0, []))) else (bif Nat.ble i 427 then (bif Nat.ble i 426 then (716, .iload_n 3, 0, 0, 0, []) else (717, .iconst 3, 0, 0, 3, [])) else (bif Nat.ble i 428 then (718, .iadd, 0, 0, 0, []) else (bif Nat.ble i 429 then (719, .iaload, 0, 0, 0, []) else (720, .invokevirtual 82, 122, 4, 0, []))))))))) else (bif Nat.ble i 502 then (bif Nat.ble i 466 then (bif Nat.ble i 448 then (bif Nat.ble i 439 then (bif Nat.ble i 434 then (bif Nat.ble i 432 then (bif Nat.ble i 431 then (723, .aload_n 2, 0, 0, 0, []) else (724, .aload_n 0, 0, 0, 0, [])) else (bif Nat.ble i 433 then (725, .iload_n 3, 0, 0, 0, []) else (726, .iconst 1, 0, 0, 1, []))) else (bif Nat.ble i 436 then (bif Nat.ble i 435 then (727, .iadd, 0, 0, 0, []) else (728, .iaload, 0, 0, 0, [])) else (bif Nat.ble i 437 then (729, .aload_n 0, 0, 0, 0, []) else (bif Nat.ble i 438 then (730, .iload_n 3, 0, 0, 0, []) else (731, .iconst 2, 0, 0, 2, []))))) else (bif Nat.ble i 443 then (bif Nat.ble i 441 then (bif Nat.ble i 440 then (732, .iadd, 0, 0, 0, []) else (733, .iaload, 0, 0, 0, [])) else (bif Nat.ble i 442 then (734, .aload_n 0, 0, 0, 0, []) else (735, .iload_n 3, 0, 0, 0, []))) else (bif Nat.ble i 445 then (bif Nat.ble i 444 then (736, .iconst 3, 0, 0, 3, []) else (737, .iadd, 0, 0, 0, [])) else (bif Nat.ble i 446 then (738, .iaload, 0, 0, 0, []) else (bif Nat.ble i 447 then (739, .invokevirtual 85, 206, 4, 0, []) else (742, .if_icmp .eq 851, 1147, 0, 0, [])))))) else (bif Nat.ble i 457 then (bif Nat.ble i 452 then (bif Nat.ble i 450 then (bif Nat.ble i 449 then (745, .iconst 0, 0, 0, 0, []) else (746, .ireturn, 0, 0, 0, [])) else (bif Nat.ble i 451 then (747, .aload_n 1, 0, 0, 0, []) else (748, .aload_n 0, 0, 0, 0, []))) else (bif Nat.ble i 454 then (bif Nat.ble i 453 then (749, .iload_n 3, 0, 0, 0, []) else (750, .iconst 1, 0, 0, 1, [])) else (bif Nat.ble i 455 then (751, .iadd, 0, 0, 0, []) else (bif Nat.ble i 456 then (752, .iaload, 0, 0, 0, []) else (753, .aload_n 0, 0, 0, 0, []))))) else (bif Nat.ble i 461 then (bif Nat.ble i 459 then (bif Nat.ble i 458 then (754, .iload_n 3, 0, 0, 0, []) else (755, .iconst 2, 0, 0, 2, [])) else (bif Nat.ble i 460 then (756, .iadd, 0, 0, 0, []) else (757, .iaload, 0, 0, 0, []))) else (bif Nat.ble i 463 then (bif Nat.ble i 462 then (758, .invokevirtual 86, 123, 3, 0, []) else (761, .aload_n 2, 0, 0, 0, [])) else (bif Nat.ble i 464 then (762, .aload_n 0, 0, 0, 0, []) else (bif Nat.ble i 465 then (763, .iload_n 3, 0, 0, 0, []) else (764, .iconst 1, 0, 0, 1, []))))))) else (bif Nat.ble i 484 then (bif Nat.ble i 475 then (bif Nat.ble i 470 then (bif Nat.ble i 468 then (bif Nat.ble i 467 then (765, .iadd, 0, 0, 0, []) else (766, .iaload, 0, 0, 0, [])) else (bif Nat.ble i 469 then (767, .aload_n 0, 0, 0, 0, []) else (768, .iload_n 3, 0, 0, 0, []))) else (bif Nat.ble i 472 then (bif Nat.ble i 471 then (769, .iconst 2, 0, 0, 2, []) else (770, .iadd, 0, 0, 0, [])) else (bif Nat.ble i 473 then (771, .iaload, 0, 0, 0, []) else (bif Nat.ble i 474 then (772, .invokevirtual 89, 207, 3, 0, []) else (775, .if_icmp .eq 818, 1147, 0, 0, []))))) else (bif Nat.ble i 479 then (bif Nat.ble i 477 then (bif Nat.ble i 476 then (778, .iconst 0, 0, 0, 0, []) else (779, .ireturn, 0, 0, 0, [])) else (bif Nat.ble i 478 then (780, .aload_n 1, 0, 0, 0, []) else (781, .aload_n 0, 0, 0, 0, []))) else (bif Nat.ble i 481 then (bif Nat.ble i 480 then (782, .iload_n 3, 0, 0, 0, []) else (783, .iconst 1, 0, 0, 1, [])) else (bif Nat.ble i 482 then (784, .iadd, 0, 0, 0, []) else (bif Nat.ble i 483 then (785, .iaload, 0, 0, 0, []) else (786, .invokevirtual 90, 124, 2, 0, [])))))) else (bif Nat.ble i 493 then (bif Nat.ble i 488 then (bif Nat.ble i 486 then (bif Nat.ble i 485 then (789, .aload_n 2, 0, 0, 0, []) else (790, .aload_n 0, 0, 0, 0, [])) else (bif Nat.ble i 487 then (791, .iload_n 3, 0, 0, 0, []) else (792, .iconst 1, 0, 0, 1, []))) else (bif Nat.ble i 490 then (bif Nat.ble i 489 then (793, .iadd, 0, 0, 0, []) else (794, .iaload, 0, 0, 0, [])) else (bif Nat.ble i 491 then (795, .invokevirtual 93, 209, 2, 0, []) else (bif Nat.ble i 492 then (798, .if_icmp .eq 795, 1147, 0, 0, []) else (801, .iconst 0, 0, 0, 0, []))))) else (bif Nat.ble i 497 then (bif Nat.ble i 495 then (bif Nat.ble i 494 then (802, .ireturn, 0, 0, 0, []) else (803, .aload_n 1, 0, 0, 0, [])) else (bif Nat.ble i 496 then (804, .aload_n 0, 0, 0, 0, []) else (805, .iload_n 3, 0, 0, 0, []))) else (bif Nat.ble i 499 then (bif Nat.ble i 498 then (806, .iconst 1, 0, 0, 1, []) else (807, .iadd, 0, 0, 0, [])) else (bif Nat.ble i 500 then (808, .iaload, 0, 0, 0, []) else (bif Nat.ble i 501 then (809, .aload_n 0, 0, 0, 0, []) else (810, .iload_n 3, 0, 0, 0, [])))))))) else (bif Nat.ble i 538 then (bif Nat.ble i 520 then (bif Nat.ble i 511 then (bif Nat.ble i 506 then (bif Nat.ble i 504 then (bif Nat.ble i 503 then (811, .iconst 2, 0, 0, 2, []) else (812, .iadd, 0, 0, 0, [])) else (bif Nat.ble i 505 then (813, .iaload, 0, 0, 0, []) else (814, .invokevirtual 94, 125, 3, 0, []))) else (bif Nat.ble i 508 then (bif Nat.ble i 507 then (817, .aload_n 2, 0, 0, 0, []) else (818, .aload_n 0, 0, 0, 0, [])) else (bif Nat.ble i 509 then (819, .iload_n 3, 0, 0, 0, []) else (bif Nat.ble i 510 then (820, .iconst 1, 0, 0, 1, []) else (821, .iadd, 0, 0, 0, []))))) else (bif Nat.ble i 515 then (bif Nat.ble i 513 then (bif Nat.ble i 512 then (822, .iaload, 0, 0, 0, []) else (823, .aload_n 0, 0, 0, 0, [])) else (bif Nat.ble i 514 then (824, .iload_n 3, 0, 0, 0, []) else (825, .iconst 2, 0, 0, 2, []))) else (bif Nat.ble i 517 then (bif Nat.ble i 516 then (826, .iadd, 0, 0, 0, []) else (827, .iaload, 0, 0, 0, [])) else (bif Nat.ble i 518 then (828, .invokevirtual 97, 210, 3, 0, []) else (bif Nat.ble i 519 then (831, .if_icmp .eq 762, 1147, 0, 0, []) else (834, .iconst 0, 0, 0, 0, [])))))) else (bif Nat.ble i 529 then (bif Nat.ble i 524 then (bif Nat.ble i 522 then (bif Nat.ble i 521 then (835, .ireturn, 0, 0, 0, []) else (836, .aload_n 1, 0, 0, 0, [])) else (bif Nat.ble i 523 then (837, .aload_n 0, 0, 0, 0, []) else (838, .iload_n 3, 0, 0, 0, []))) else (bif Nat.ble i 526 then (bif Nat.ble i 525 then (839, .iconst 1, 0, 0, 1, []) else (840, .iadd, 0, 0, 0, [])) else (bif Nat.ble i 527 then (841, .iaload, 0, 0, 0, []) else (bif Nat.ble i 528 then (842, .aload_n 0, 0, 0, 0, []) else (843, .iload_n 3, 0, 0, 0, []))))) else (bif Nat.ble i 533 then (bif Nat.ble i 531 then (bif Nat.ble i 530 then (844, .iconst 2, 0, 0, 2, []) else (845, .iadd, 0, 0, 0, [])) else (bif Nat.ble i 532 then (846, .iaload, 0, 0, 0, []) else (847, .invokevirtual 98, 126, 3, 0, []))) else (bif Nat.ble i 535 then (bif Nat.ble i 534 then (850, .aload_n 2, 0, 0, 0, []) else (851, .aload_n 0, 0, 0, 0, [])) else (bif Nat.ble i 536 then (852, .iload_n 3, 0, 0, 0, []) else (bif Nat.ble i 537 then (853, .iconst 1, 0, 0, 1, []) else (854, .iadd, 0, 0, 0, []))))))) else (bif Nat.ble i 556 then (bif Nat.ble i 547 then (bif Nat.ble i 542 then (bif Nat.ble i 540 then (bif Nat.ble i 539 then (855, .iaload, 0, 0, 0, []) else (856, .aload_n 0, 0, 0, 0, [])) else (bif Nat.ble i 541 then (857, .iload_n 3, 0, 0, 0, []) else (858, .iconst 2, 0, 0, 2, []))) else (bif Nat.ble i 544 then (bif Nat.ble i 543 then (859, .iadd, 0, 0, 0, []) else (860, .iaload, 0, 0, 0, [])) else (bif Nat.ble i 545 then (861, .invokevirtual 101, 211, 3, 0, []) else (bif Nat.ble i 546 then (864, .if_icmp .eq 729, 1147, 0, 0, []) else (867, .iconst 0, 0, 0, 0, []))))) else (bif Nat.ble i 551 then (bif Nat.ble i 549 then (bif Nat.ble i 548 then (868, .ireturn, 0, 0, 0, []) else (869, .aload_n 1, 0, 0, 0, [])) else (bif Nat.ble i 550 then (870, .aload_n 0, 0, 0, 0, []) else (871, .iload_n 3, 0, 0, 0, []))) else (bif Nat.ble i 553 then (bif Nat.ble i 552 then (872, .iconst 1, 0, 0, 1, []) else (873, .iadd, 0, 0, 0, [])) else (bif Nat.ble i 554 then (874, .iaload, 0, 0, 0, []) else (bif Nat.ble i 555 then (875, .invokevirtual 102, 127, 2, 0, []) else (878, .aload_n 2, 0, 0, 0, [])))))) else (bif Nat.ble i 565 then (bif Nat.ble i 560 then (bif Nat.ble i 558 then (bif Nat.ble i 557 then (879, .aload_n 0, 0, 0, 0, []) else (880, .iload_n 3, 0, 0, 0, [])) else (bif Nat.ble i 559 then (881, .iconst 1, 0, 0, 1, []) else (882, .iadd, 0, 0, 0, []))) else (bif Nat.ble i 562 then (bif Nat.ble i 561 then (883, .iaload, 0, 0, 0, []) else (884, .invokevirtual 105, 212, 2, 0, [])) else (bif Nat.ble i 563 then (887, .if_icmp .eq 706, 1147, 0, 0, []) else (bif Nat.ble i 564 then (890, .iconst 0, 0, 0, 0, []) else (891, .ireturn, 0, 0, 0, []))))) else (bif Nat.ble i 569 then (bif Nat.ble i 567 then (bif Nat.ble i 566 then (892, .aload_n 1, 0, 0, 0, []) else (893, .aload_n 0, 0, 0, 0, [])) else (bif Nat.ble i 568 then (894, .iload_n 3, 0, 0, 0, []) else (895, .iconst 1, 0, 0, 1, []))) else (bif Nat.ble i 571 then (bif Nat.ble i 570 then (896, .iadd, 0, 0, 0, []) else (897, .iaload, 0, 0, 0, [])) else (bif Nat.ble i 572 then (898, .aload_n 0, 0, 0, 0, []) else (bif Nat.ble i 573 then (899, .iload_n 3, 0, 0, 0, []) else (900, .iconst 2, 0, 0, 2, []))))))))))) else (bif Nat.ble i 862 then (bif Nat.ble i 718 then (bif Nat.ble i 646 then (bif Nat.ble i 610 then (bif Nat.ble i 592 then (bif Nat.ble i 583 then (bif Nat.ble i 578 then (bif Nat.ble i 576 then (bif Nat.ble i 575 then (901, .iadd, 0, 0, 0, []) else (902, .iaload, 0, 0, 0, [])) else (bif Nat.ble i 577 then (903, .aload_n 0, 0, 0, 0, []) else (904, .iload_n 3, 0, 0, 0, []))) else (bif Nat.ble i 580 then (bif Nat.ble i 579 then (905, .iconst 3, 0, 0, 3, []) else (906, .iadd, 0, 0, 0, [])) else (bif Nat.ble i 581 then (907, .iaload, 0, 0, 0, []) else (bif Nat.ble i 582 then (908, .invokevirtual 106, 128, 4, 0, []) else (911, .aload_n 2, 0, 0, 0, []))))) else (bif Nat.ble i 587 then (bif Nat.ble i 585 then (bif Nat.ble i 584 then (912, .aload_n 0, 0, 0, 0, []) else (913, .iload_n 3, 0, 0, 0, [])) else (bif Nat.ble i 586 then (914, .iconst 1, 0, 0, 1, []) else (915, .iadd, 0, 0, 0, []))) else (bif Nat.ble i 589 then (bif Nat.ble i 588 then (916, .iaload, 0, 0, 0, []) else (917, .aload_n 0, 0, 0, 0, [])) else (bif Nat.ble i 590 then (918, .iload_n 3, 0, 0, 0, []) else (bif Nat.ble i 591 then (919, .iconst 2, 0, 0, 2, []) else (920, .iadd, 0, 0, 0, [])))))) else (bif Nat.ble i 601 then (bif Nat.ble i 596 then (bif Nat.ble i 594 then (bif Nat.ble i 593 then (921, .iaload, 0, 0, 0, []) else (922, .aload_n 0, 0, 0, 0, [])) else (bif Nat.ble i 595 then (923, .iload_n 3, 0, 0, 0, []) else (924, .iconst 3, 0, 0, 3, []))) else (bif Nat.ble i 598 then (bif Nat.ble i 597 then (925, .iadd, 0, 0, 0, []) else (926, .iaload, 0, 0, 0, [])) else (bif Nat.ble i 599 then (927, .invokevirtual 109, 213, 4, 0, []) else (bif Nat.ble i 600 then (930, .if_icmp .eq 663, 1147, 0, 0, []) else (933, .iconst 0, 0, 0, 0, []))))) else (bif Nat.ble i 605 then (bif Nat.ble i 603 then (bif Nat.ble i 602 then (934, .ireturn, 0, 0, 0, []) else (935, .aload_n 1, 0, 0, 0, [])) else (bif Nat.ble i 604 then (936, .aload_n 0, 0, 0, 0, []) else (937, .iload_n 3, 0, 0, 0, []))) else (bif Nat.ble i 607 then (bif Nat.ble i 606 then (938, .iconst 1, 0, 0, 1, []) else (939, .iadd, 0, 0, 0, [])) else (bif Nat.ble i 608 then (940, .iaload, 0, 0, 0, []) else (bif Nat.ble i 609 then (941, .aload_n 0, 0, 0, 0, []) else (942, .iload_n 3, 0, 0, 0, []))))))) else (bif Nat.ble i 628 then (bif Nat.ble i 619 then (bif Nat.ble i 614 then (bif Nat.ble i 612 then (bif Nat.ble i 611 then (943, .iconst 2, 0, 0, 2, []) else (944, .iadd, 0, 0, 0, [])) else (bif Nat.ble i 613 then (945, .iaload, 0, 0, 0, []) else (946, .aload_n 0, 0, 0, 0, []))) else (bif Nat.ble i 616 then (bif Nat.ble i 615 then (947, .iload_n 3, 0, 0, 0, []) else (948, .iconst 3, 0, 0, 3, [])) else (bif Nat.ble i 617 then (949, .iadd, 0, 0, 0, []) else (bif Nat.ble i 618 then (950, .iaload, 0, 0, 0, []) else (951, .aload_n 0, 0, 0, 0, []))))) else (bif Nat.ble i 623 then (bif Nat.ble i 621 then (bif Nat.ble i 620 then (952, .iload_n 3, 0, 0, 0, []) else (953, .iconst 4, 0, 0, 4, [])) else (bif Nat.ble i 622 then (954, .iadd, 0, 0, 0, []) else (955, .iaload, 0, 0, 0, []))) else (bif Nat.ble i 625 then (bif Nat.ble i 624 then (956, .invokevirtual 110, 129, 5, 0, []) else (959, .aload_n 2, 0, 0, 0, [])) else (bif Nat.ble i 626 then (960, .aload_n 0, 0, 0, 0, []) else (bif Nat.ble i 627 then (961, .iload_n 3, 0, 0, 0, []) else (962, .iconst 1, 0, 0, 1, [])))))) else (bif Nat.ble i 637 then (bif Nat.ble i 632 then (bif Nat.ble i 630 then (bif Nat.ble i 629 then (963, .iadd, 0, 0, 0, []) else (964, .iaload, 0, 0, 0, [])) else (bif Nat.ble i 631 then (965, .aload_n 0, 0, 0, 0, []) else (966, .iload_n 3, 0, 0, 0, []))) else (bif Nat.ble i 634 then (bif Nat.ble i 633 then (967, .iconst 2, 0, 0, 2, []) else (968, .iadd, 0, 0, 0, [])) else (bif Nat.ble i 635 then (969, .iaload, 0, 0, 0, []) else (bif Nat.ble i 636 then (970, .aload_n 0, 0, 0, 0, []) else (971, .iload_n 3, 0, 0, 0, []))))) else (bif Nat.ble i 641 then (bif Nat.ble i 639 then (bif Nat.ble i 638 then (972, .iconst 3, 0, 0, 3, []) else (973, .iadd, 0, 0, 0, [])) else (bif Nat.ble i 640 then (974, .iaload, 0, 0, 0, []) else (975, .aload_n 0, 0, 0, 0, []))) else (bif Nat.ble i 643 then (bif Nat.ble i 642 then (976, .iload_n 3, 0, 0, 0, []) else (977, .iconst 4, 0, 0, 4, [])) else (bif Nat.ble i 644 then (978, .iadd, 0, 0, 0, []) else (bif Nat.ble i 645 then (979, .iaload, 0, 0, 0, []) else (980, .invokevirtual 114, 214, 5, 0, [])))))))) else (bif Nat.ble i 682 then (bif Nat.ble i 664 then (bif Nat.ble i 655 then (bif Nat.ble i 650 then (bif Nat.ble i 648 then (bif Nat.ble i 647 then (983, .if_icmp .eq 610, 1147, 0, 0, []) else (986, .iconst 0, 0, 0, 0, [])) else (bif Nat.ble i 649 then (987, .ireturn, 0, 0, 0, []) else (988, .aload_n 1, 0, 0, 0, []))) else (bif Nat.ble i 652 then (bif Nat.ble i 651 then (989, .aload_n 0, 0, 0, 0, []) else (990, .iload_n 3, 0, 0, 0, [])) else (bif Nat.ble i 653 then (991, .iconst 1, 0, 0, 1, []) else (bif Nat.ble i 654 then (992, .iadd, 0, 0, 0, []) else (993, .iaload, 0, 0, 0, []))))) else (bif Nat.ble i 659 then (bif Nat.ble i 657 then (bif Nat.ble i 656 then (994, .aload_n 0, 0, 0, 0, []) else (995, .iload_n 3, 0, 0, 0, [])) else (bif Nat.ble i 658 then (996, .iconst 2, 0, 0, 2, []) else (997, .iadd, 0, 0, 0, []))) else (bif Nat.ble i 661 then (bif Nat.ble i 660 then (998, .iaload, 0, 0, 0, []) else (999, .invokevirtual 115, 130, 3, 0, [])) else (bif Nat.ble i 662 then (1002, .aload_n 2, 0, 0, 0, []) else (bif Nat.ble i 663 then (1003, .aload_n 0, 0, 0, 0, []) else (1004, .iload_n 3, 0, 0, 0, [])))))) else (bif Nat.ble i 673 then (bif Nat.ble i 668 then (bif Nat.ble i 666 then (bif Nat.ble i 665 then (1005, .iconst 1, 0, 0, 1, []) else (1006, .iadd, 0, 0, 0, [])) else (bif Nat.ble i 667 then (1007, .iaload, 0, 0, 0, []) else (1008, .aload_n 0, 0, 0, 0, []))) else (bif Nat.ble i 670 then (bif Nat.ble i 669 then (1009, .iload_n 3, 0, 0, 0, []) else (1010, .iconst 2, 0, 0, 2, [])) else (bif Nat.ble i 671 then (1011, .iadd, 0, 0, 0, []) else (bif Nat.ble i 672 then (1012, .iaload, 0, 0, 0, []) else (1013, .invokevirtual 118, 215, 3, 0, []))))) else (bif Nat.ble i 677 then (bif Nat.ble i 675 then (bif Nat.ble i 674 then (1016, .if_icmp .eq 577, 1147, 0, 0, []) else (1019, .iconst 0, 0, 0, 0, [])) else (bif Nat.ble i 676 then (1020, .ireturn, 0, 0, 0, []) else (1021, .aload_n 1, 0, 0, 0, []))) else (bif Nat.ble i 679 then (bif Nat.ble i 678 then (1022, .aload_n 0, 0, 0, 0, []) else (1023, .iload_n 3, 0, 0, 0, [])) else (bif Nat.ble i 680 then (1024, .iconst 1, 0, 0, 1, []) else (bif Nat.ble i 681 then (1025, .iadd, 0, 0, 0, []) else (1026, .iaload, 0, 0, 0, []))))))) else (bif Nat.ble i 700 then (bif Nat.ble i 691 then (bif Nat.ble i 686 then (bif Nat.ble i 684 then (bif Nat.ble i 683 then (1027, .aload_n 0, 0, 0, 0, []) else (1028, .iload_n 3, 0, 0, 0, [])) else (bif Nat.ble i 685 then (1029, .iconst 2, 0, 0, 2, []) else (1030, .iadd, 0, 0, 0, []))) else (bif Nat.ble i 688 then (bif Nat.ble i 687 then (1031, .iaload, 0, 0, 0, []) else (1032, .invokevirtual 119, 131, 3, 0, [])) else (bif Nat.ble i 689 then (1035, .aload_n 2, 0, 0, 0, []) else (bif Nat.ble i 690 then (1036, .aload_n 0, 0, 0, 0, []) else (1037, .iload_n 3, 0, 0, 0, []))))) else (bif Nat.ble i 695 then (bif Nat.ble i 693 then (bif Nat.ble i 692 then (1038, .iconst 1, 0, 0, 1, []) else (1039, .iadd, 0, 0, 0, [])) else (bif Nat.ble i 694 then (1040, .iaload, 0, 0, 0, []) else (1041, .aload_n 0, 0, 0, 0, []))) else (bif Nat.ble i 697 then (bif Nat.ble i 696 then (1042, .iload_n 3, 0, 0, 0, []) else (1043, .iconst 2, 0, 0, 2, [])) else (bif Nat.ble i 698 then (1044, .iadd, 0, 0, 0, []) else (bif Nat.ble i 699 then (1045, .iaload, 0, 0, 0, []) else (1046, .invokevirtual 122, 217, 3, 0, [])))))) else (bif Nat.ble i 709 then (bif Nat.ble i 704 then (bif Nat.ble i 702 then (bif Nat.ble i 701 then (1049, .if_icmp .eq 544, 1147, 0, 0, []) else (1052, .iconst 0, 0, 0, 0, [])) else (bif Nat.ble i 703 then (1053, .ireturn, 0, 0, 0, []) else (1054, .aload_n 1, 0, 0, 0, []))) else (bif Nat.ble i 706 then (bif Nat.ble i 705 then (1055, .aload_n 0, 0, 0, 0, []) else (1056, .iload_n 3, 0, 0, 0, [])) else (bif Nat.ble i 707 then (1057, .iconst 1, 0, 0, 1, []) else (bif Nat.ble i 708 then (1058, .iadd, 0, 0, 0, []) else (1059, .iaload, 0, 0, 0, []))))) else (bif Nat.ble i 713 then (bif Nat.ble i 711 then (bif Nat.ble i 710 then (1060, .invokevirtual 123, 132, 2, 0, []) else (1063, .aload_n 2, 0, 0, 0, [])) else (bif Nat.ble i 712 then (1064, .aload_n 0, 0, 0, 0, []) else (1065, .iload_n 3, 0, 0, 0, []))) else (bif Nat.ble i 715 then (bif Nat.ble i 714 then (1066, .iconst 1, 0, 0, 1, []) else (1067, .iadd, 0, 0, 0, [])) else (bif Nat.ble i 716 then (1068, .iaload, 0, 0, 0, []) else (bif Nat.ble i 717 then (1069, .invokevirtual 126, 218, 2, 0, []) else (1072, .if_icmp .eq 521, 1147, 0, 0, []))))))))) else (bif Nat.ble i 790 then (bif Nat.ble i 754 then (bif Nat.ble i 736 then (bif Nat.ble i 727 then (bif Nat.ble i 722 then (bif Nat.ble i 720 then (bif Nat.ble i 719 then (1075, .iconst 0, 0, 0, 0, []) else (1076, .ireturn, 0, 0, 0, [])) else (bif Nat.ble i 721 then (1077, .aload_n 1, 0, 0, 0, []) else (1078, .invokevirtual 127, 133, 1, 0, []))) else (bif Nat.ble i 724 then (bif Nat.ble i 723 then (1081, .aload_n 2, 0, 0, 0, []) else (1082, .invokevirtual 130, 219, 1, 0, [])) else (bif Nat.ble i 725 then (1085, .if_icmp .eq 508, 1147, 0, 0, []) else (bif Nat.ble i 726 then (1088, .iconst 0, 0, 0, 0, []) else (1089, .ireturn, 0, 0, 0, []))))) else (bif Nat.ble i 731 then (bif Nat.ble i 729 then (bif Nat.ble i 728 then (1090, .aload_n 1, 0, 0, 0, []) else (1091, .aload_n 0, 0, 0, 0, [])) else (bif Nat.ble i 730 then (1092, .iload_n 3, 0, 0, 0, []) else (1093, .iconst 1, 0, 0, 1, []))) else (bif Nat.ble i 733 then (bif Nat.ble i 732 then (1094, .iadd, 0, 0, 0, []) else (1095, .iaload, 0, 0, 0, [])) else (bif Nat.ble i 734 then (1096, .aload_n 0, 0, 0, 0, []) else (bif Nat.ble i 735 then (1097, .iload_n 3, 0, 0, 0, []) else (1098, .iconst 2, 0, 0, 2, [])))))) else (bif Nat.ble i 745 then (bif Nat.ble i 740 then (bif Nat.ble i 738 then (bif Nat.ble i 737 then (1099, .iadd, 0, 0, 0, []) else (1100, .iaload, 0, 0, 0, [])) else (bif Nat.ble i 739 then (1101, .invokevirtual 131, 134, 3, 0, []) else (1104, .aload_n 2, 0, 0, 0, []))) else (bif Nat.ble i 742 then (bif Nat.ble i 741 then (1105, .aload_n 0, 0, 0, 0, []) else (1106, .iload_n 3, 0, 0, 0, [])) else (bif Nat.ble i 743 then (1107, .iconst 1, 0, 0, 1, []) else (bif Nat.ble i 744 then (1108, .iadd, 0, 0, 0, []) else (1109, .iaload, 0, 0, 0, []))))) else (bif Nat.ble i 749 then (bif Nat.ble i 747 then (bif Nat.ble i 746 then (1110, .aload_n 0, 0, 0, 0, []) else (1111, .iload_n 3, 0, 0, 0, [])) else (bif Nat.ble i 748 then (1112, .iconst 2, 0, 0, 2, []) else (1113, .iadd, 0, 0, 0, []))) else (bif Nat.ble i 751 then (bif Nat.ble i 750 then (1114, .iaload, 0, 0, 0, []) else (1115, .invokevirtual 134, 220, 3, 0, [])) else (bif Nat.ble i 752 then (1118, .if_icmp .eq 475, 1147, 0, 0, []) else (bif Nat.ble i 753 then (1121, .iconst 0, 0, 0, 0, []) else (1122, .ireturn, 0, 0, 0, []))))))) else (bif Nat.ble i 772 then (bif Nat.ble i 763 then (bif Nat.ble i 758 then (bif Nat.ble i 756 then (bif Nat.ble i 755 then (1123, .aload_n 1, 0, 0, 0, []) else (1124, .aload_n 0, 0, 0, 0, [])) else (bif Nat.ble i 757 then (1125, .iload_n 3, 0, 0, 0, []) else (1126, .iconst 1, 0, 0, 1, []))) else (bif Nat.ble i 760 then (bif Nat.ble i 759 then (1127, .iadd, 0, 0, 0, []) else (1128, .iaload, 0, 0, 0, [])) else (bif Nat.ble i 761 then (1129, .aload_n 0, 0, 0, 0, []) else (bif Nat.ble i 762 then (1130, .iload_n 3, 0, 0, 0, []) else (1131, .iconst 2, 0, 0, 2, []))))) else (bif Nat.ble i 767 then (bif Nat.ble i 765 then (bif Nat.ble i 764 then (1132, .iadd, 0, 0, 0, []) else (1133, .iaload, 0, 0, 0, [])) else (bif Nat.ble i 766 then (1134, .aload_n 0, 0, 0, 0, []) else (1135, .iload_n 3, 0, 0, 0, []))) else (bif Nat.ble i 769 then (bif Nat.ble i 768 then (1136, .iconst 3, 0, 0, 3, []) else (1137, .iadd, 0, 0, 0, [])) else (bif Nat.ble i 770 then (1138, .iaload, 0, 0, 0, []) else (bif Nat.ble i 771 then (1139, .aload_n 0, 0, 0, 0, []) else (1140, .iload_n 3, 0, 0, 0, [])))))) else (bif Nat.ble i 781 then (bif Nat.ble i 776 then (bif Nat.ble i 774 then (bif Nat.ble i 773 then (1141, .iconst 4, 0, 0, 4, []) else (1142, .iadd, 0, 0, 0, [])) else (bif Nat.ble i 775 then (1143, .iaload, 0, 0, 0, []) else (1144, .aload_n 0, 0, 0, 0, []))) else (bif Nat.ble i 778 then (bif Nat.ble i 777 then (1145, .iload_n 3, 0, 0, 0, []) else (1146, .iconst 5, 0, 0, 5, [])) else (bif Nat.ble i 779 then (1147, .iadd, 0, 0, 0, []) else (bif Nat.ble i 780 then (1148, .iaload, 0, 0, 0, []) else (1149, .invokevirtual 135, 135, 6, 0, []))))) else (bif Nat.ble i 785 then (bif Nat.ble i 783 then (bif Nat.ble i 782 then (1152, .aload_n 2, 0, 0, 0, []) else (1153, .aload_n 0, 0, 0, 0, [])) else (bif Nat.ble i 784 then (1154, .iload_n 3, 0, 0, 0, []) else (1155, .iconst 1, 0, 0, 1, []))) else (bif Nat.ble i 787 then (bif Nat.ble i 786 then (1156, .iadd, 0, 0, 0, []) else (1157, .iaload, 0, 0, 0, [])) else (bif Nat.ble i 788 then (1158, .aload_n 0, 0, 0, 0, []) else (bif Nat.ble i 789 then (1159, .iload_n 3, 0, 0, 0, []) else (1160, .iconst 2, 0, 0, 2, [])))))))) else (bif Nat.ble i 826 then (bif Nat.ble i 808 then (bif Nat.ble i 799 then (bif Nat.ble i 794 then (bif Nat.ble i 792 then (bif Nat.ble i 791 then (1161, .iadd, 0, 0, 0, []) else (1162, .iaload, 0, 0, 0, [])) else (bif Nat.ble i 793 then (1163, .aload_n 0, 0, 0, 0, []) else (1164, .iload_n 3, 0, 0, 0, []))) else (bif Nat.ble i 796 then (bif Nat.ble i 795 then (1165, .iconst 3, 0, 0, 3, []) else (1166, .iadd, 0, 0, 0, [])) else (bif Nat.ble i 797 then (1167, .iaload, 0, 0, 0, []) else (bif Nat.ble i 798 then (1168, .aload_n 0, 0, 0, 0, []) else (1169, .iload_n 3, 0, 0, 0, []))))) else (bif Nat.ble i 803 then (bif Nat.ble i 801 then (bif Nat.ble i 800 then (1170, .iconst 4, 0, 0, 4, []) else (1171, .iadd, 0, 0, 0, [])) else (bif Nat.ble i 802 then (1172, .iaload, 0, 0, 0, []) else (1173, .aload_n 0, 0, 0, 0, []))) else (bif Nat.ble i 805 then (bif Nat.ble i 804 then (1174, .iload_n 3, 0, 0, 0, []) else (1175, .iconst 5, 0, 0, 5, [])) else (bif Nat.ble i 806 then (1176, .iadd, 0, 0, 0, []) else (bif Nat.ble i 807 then (1177, .iaload, 0, 0, 0, []) else (1178, .invokevirtual 138, 223, 6, 0, [])))))) else (bif Nat.ble i 817 then (bif Nat.ble i 812 then (bif Nat.ble i 810 then (bif Nat.ble i 809 then (1181, .if_icmp .eq 412, 1147, 0, 0, []) else (1184, .iconst 0, 0, 0, 0, [])) else (bif Nat.ble i 811 then (1185, .ireturn, 0, 0, 0, []) else (1186, .aload_n 1, 0, 0, 0, []))) else (bif Nat.ble i 814 then (bif Nat.ble i 813 then (1187, .aload_n 0, 0, 0, 0, []) else (1188, .iload_n 3, 0, 0, 0, [])) else (bif Nat.ble i 815 then (1189, .iconst 1, 0, 0, 1, []) else (bif Nat.ble i 816 then (1190, .iadd, 0, 0, 0, []) else (1191, .iaload, 0, 0, 0, []))))) else (bif Nat.ble i 821 then (bif Nat.ble i 819 then (bif Nat.ble i 818 then (1192, .aload_n 0, 0, 0, 0, []) else (1193, .iload_n 3, 0, 0, 0, [])) else (bif Nat.ble i 820 then (1194, .iconst 2, 0, 0, 2, []) else (1195, .iadd, 0, 0, 0, []))) else (bif Nat.ble i 823 then (bif Nat.ble i 822 then (1196, .iaload, 0, 0, 0, []) else (1197, .aload_n 0, 0, 0, 0, [])) else (bif Nat.ble i 824 then (1198, .iload_n 3, 0, 0, 0, []) else (bif Nat.ble i 825 then (1199, .iconst 3, 0, 0, 3, []) else (1200, .iadd, 0, 0, 0, []))))))) else (bif Nat.ble i 844 then (bif Nat.ble i 835 then (bif Nat.ble i 830 then (bif Nat.ble i 828 then (bif Nat.ble i 827 then (1201, .iaload, 0, 0, 0, []) else (1202, .aload_n 0, 0, 0, 0, [])) else (bif Nat.ble i 829 then (1203, .iload_n 3, 0, 0, 0, []) else (1204, .iconst 4, 0, 0, 4, []))) else (bif Nat.ble i 832 then (bif Nat.ble i 831 then (1205, .iadd, 0, 0, 0, []) else (1206, .iaload, 0, 0, 0, [])) else (bif Nat.ble i 833 then (1207, .aload_n 0, 0, 0, 0, []) else (bif Nat.ble i 834 then (1208, .iload_n 3, 0, 0, 0, []) else (1209, .iconst 5, 0, 0, 5, []))))) else (bif Nat.ble i 839 then (bif Nat.ble i 837 then (bif Nat.ble i 836 then (1210, .iadd, 0, 0, 0, []) else (1211, .iaload, 0, 0, 0, [])) else (bif Nat.ble i 838 then (1212, .invokevirtual 139, 136, 6, 0, []) else (1215, .aload_n 2, 0, 0, 0, []))) else (bif Nat.ble i 841 then (bif Nat.ble i 840 then (1216, .aload_n 0, 0, 0, 0, []) else (1217, .iload_n 3, 0, 0, 0, [])) else (bif Nat.ble i 842 then (1218, .iconst 1, 0, 0, 1, []) else (bif Nat.ble i 843 then (1219, .iadd, 0, 0, 0, []) else (1220, .iaload, 0, 0, 0, [])))))) else (bif Nat.ble i 853 then (bif Nat.ble i 848 then (bif Nat.ble i 846 then (bif Nat.ble i 845 then (1221, .aload_n 0, 0, 0, 0, []) else (1222, .iload_n 3, 0, 0, 0, [])) else (bif Nat.ble i 847 then (1223, .iconst 2, 0, 0, 2, []) else (1224, .iadd, 0, 0, 0, []))) else (bif Nat.ble i 850 then (bif Nat.ble i 849 then (1225, .iaload, 0, 0, 0, []) else (1226, .aload_n 0, 0, 0, 0, [])) else (bif Nat.ble i 851 then (1227, .iload_n 3, 0, 0, 0, []) else (bif Nat.ble i 852 then (1228, .iconst 3, 0, 0, 3, []) else (1229, .iadd, 0, 0, 0, []))))) else (bif Nat.ble i 857 then (bif Nat.ble i 855 then (bif Nat.ble i 854 then (1230, .iaload, 0, 0, 0, []) else (1231, .aload_n 0, 0, 0, 0, [])) else (bif Nat.ble i 856 then (1232, .iload_n 3, 0, 0, 0, []) else (1233, .iconst 4, 0, 0, 4, []))) else (bif Nat.ble i 859 then (bif Nat.ble i 858 then (1234, .iadd, 0, 0, 0, []) else (1235, .iaload, 0, 0, 0, [])) else (bif Nat.ble i 860 then (1236, .aload_n 0, 0, 0, 0, []) else (bif Nat.ble i 861 then (1237, .iload_n 3, 0, 0, 0, []) else (1238, .iconst 5, 0, 0, 5, [])))))))))) else (bif Nat.ble i 1006 then (bif Nat.ble i 934 then (bif Nat.ble i 898 then (bif Nat.ble i 880 then (bif Nat.ble i 871 then (bif Nat.ble i 866 then (bif Nat.ble i 864 then (bif Nat.ble i 863 then (1239, .iadd, 0, 0, 0, []) else (1240, .iaload, 0, 0, 0, [])) else (bif Nat.ble i 865 then (1241, .invokevirtual 142, 224, 6, 0, []) else (1244, .if_icmp .eq 349, 1147, 0, 0, []))) else (bif Nat.ble i 868 then (bif Nat.ble i 867 then (1247, .iconst 0, 0, 0, 0, []) else (1248, .ireturn, 0, 0, 0, [])) else (bif Nat.ble i 869 then (1249, .aload_n 1, 0, 0, 0, []) else (bif Nat.ble i 870 then (1250, .aload_n 0, 0, 0, 0, []) else (1251, .iload_n 3, 0, 0, 0, []))))) else (bif Nat.ble i 875 then (bif Nat.ble i 873 then (bif Nat.ble i 872 then (1252, .iconst 1, 0, 0, 1, []) else (1253, .iadd, 0, 0, 0, [])) else (bif Nat.ble i 874 then (1254, .iaload, 0, 0, 0, []) else (1255, .aload_n 0, 0, 0, 0, []))) else (bif Nat.ble i 877 then (bif Nat.ble i 876 then (1256, .iload_n 3, 0, 0, 0, []) else (1257, .iconst 2, 0, 0, 2, [])) else (bif Nat.ble i 878 then (1258, .iadd, 0, 0, 0, []) else (bif Nat.ble i 879 then (1259, .iaload, 0, 0, 0, []) else (1260, .aload_n 0, 0, 0, 0, [])))))) else (bif Nat.ble i 889 then (bif Nat.ble i 884 then (bif Nat.ble i 882 then (bif Nat.ble i 881 then (1261, .iload_n 3, 0, 0, 0, []) else (1262, .iconst 3, 0, 0, 3, [])) else (bif Nat.ble i 883 then (1263, .iadd, 0, 0, 0, []) else (1264, .iaload, 0, 0, 0, []))) else (bif Nat.ble i 886 then (bif Nat.ble i 885 then (1265, .invokevirtual 143, 137, 4, 0, []) else (1268, .aload_n 2, 0, 0, 0, [])) else (bif Nat.ble i 887 then (1269, .aload_n 0, 0, 0, 0, []) else (bif Nat.ble i 888 then (1270, .iload_n 3, 0, 0, 0, []) else (1271, .iconst 1, 0, 0, 1, []))))) else (bif Nat.ble i 893 then (bif Nat.ble i 891 then (bif Nat.ble i 890 then (1272, .iadd, 0, 0, 0, []) else (1273, .iaload, 0, 0, 0, [])) else (bif Nat.ble i 892 then (1274, .aload_n 0, 0, 0, 0, []) else (1275, .iload_n 3, 0, 0, 0, []))) else (bif Nat.ble i 895 then (bif Nat.ble i 894 then (1276, .iconst 2, 0, 0, 2, []) else (1277, .iadd, 0, 0, 0, [])) else (bif Nat.ble i 896 then (1278, .iaload, 0, 0, 0, []) else (bif Nat.ble i 897 then (1279, .aload_n 0, 0, 0, 0, []) else (1280, .iload_n 3, 0, 0, 0, []))))))) else (bif Nat.ble i 916 then (bif Nat.ble i 907 then (bif Nat.ble i 902 then (bif Nat.ble i 900 then (bif Nat.ble i 899 then (1281, .iconst 3, 0, 0, 3, []) else (1282, .iadd, 0, 0, 0, [])) else (bif Nat.ble i 901 then (1283, .iaload, 0, 0, 0, []) else (1284, .invokevirtual 146, 225, 4, 0, []))) else (bif Nat.ble i 904 then (bif Nat.ble i 903 then (1287, .if_icmp .eq 306, 1147, 0, 0, []) else (1290, .iconst 0, 0, 0, 0, [])) else (bif Nat.ble i 905 then (1291, .ireturn, 0, 0, 0, []) else (bif Nat.ble i 906 then (1292, .aload_n 1, 0, 0, 0, []) else (1293, .aload_n 0, 0, 0, 0, []))))) else (bif Nat.ble i 911 then (bif Nat.ble i 909 then (bif Nat.ble i 908 then (1294, .iload_n 3, 0, 0, 0, []) else (1295, .iconst 1, 0, 0, 1, [])) else (bif Nat.ble i 910 then (1296, .iadd, 0, 0, 0, []) else (1297, .iaload, 0, 0, 0, []))) else (bif Nat.ble i 913 then (bif Nat.ble i 912 then (1298, .aload_n 0, 0, 0, 0, []) else (1299, .iload_n 3, 0, 0, 0, [])) else (bif Nat.ble i 914 then (1300, .iconst 2, 0, 0, 2, []) else (bif Nat.ble i 915 then (1301, .iadd, 0, 0, 0, []) else (1302, .iaload, 0, 0, 0, [])))))) else (bif Nat.ble i 925 then (bif Nat.ble i 920 then (bif Nat.ble i 918 then (bif Nat.ble i 917 then (1303, .aload_n 0, 0, 0, 0, []) else (1304, .iload_n 3, 0, 0, 0, [])) else (bif Nat.ble i 919 then (1305, .iconst 3, 0, 0, 3, []) else (1306, .iadd, 0, 0, 0, []))) else (bif Nat.ble i 922 then (bif Nat.ble i 921 then (1307, .iaload, 0, 0, 0, []) else (1308, .aload_n 0, 0, 0, 0, [])) else (bif Nat.ble i 923 then (1309, .iload_n 3, 0, 0, 0, []) else (bif Nat.ble i 924 then (1310, .iconst 4, 0, 0, 4, []) else (1311, .iadd, 0, 0, 0, []))))) else (bif Nat.ble i 929 then (bif Nat.ble i 927 then (bif Nat.ble i 926 then (1312, .iaload, 0, 0, 0, []) else (1313, .aload_n 0, 0, 0, 0, [])) else (bif Nat.ble i 928 then (1314, .iload_n 3, 0, 0, 0, []) else (1315, .iconst 5, 0, 0, 5, []))) else (bif Nat.ble i 931 then (bif Nat.ble i 930 then (1316, .iadd, 0, 0, 0, []) else (1317, .iaload, 0, 0, 0, [])) else (bif Nat.ble i 932 then (1318, .invokevirtual 147, 138, 6, 0, []) else (bif Nat.ble i 933 then (1321, .aload_n 2, 0, 0, 0, []) else (1322, .aload_n 0, 0, 0, 0, [])))))))) else (bif Nat.ble i 970 then (bif Nat.ble i 952 then (bif Nat.ble i 943 then (bif Nat.ble i 938 then (bif Nat.ble i 936 then (bif Nat.ble i 935 then (1323, .iload_n 3, 0, 0, 0, []) else (1324, .iconst 1, 0, 0, 1, [])) else (bif Nat.ble i 937 then (1325, .iadd, 0, 0, 0, []) else (1326, .iaload, 0, 0, 0, []))) else (bif Nat.ble i 940 then (bif Nat.ble i 939 then (1327, .aload_n 0, 0, 0, 0, []) else (1328, .iload_n 3, 0, 0, 0, [])) else (bif Nat.ble i 941 then (1329, .iconst 2, 0, 0, 2, []) else (bif Nat.ble i 942 then (1330, .iadd, 0, 0, 0, []) else (1331, .iaload, 0, 0, 0, []))))) else (bif Nat.ble i 947 then (bif Nat.ble i 945 then (bif Nat.ble i 944 then (1332, .aload_n 0, 0, 0, 0, []) else (1333, .iload_n 3, 0, 0, 0, [])) else (bif Nat.ble i 946 then (1334, .iconst 3, 0, 0, 3, []) else (1335, .iadd, 0, 0, 0, []))) else (bif Nat.ble i 949 then (bif Nat.ble i 948 then (1336, .iaload, 0, 0, 0, []) else (1337, .aload_n 0, 0, 0, 0, [])) else (bif Nat.ble i 950 then (1338, .iload_n 3, 0, 0, 0, []) else (bif Nat.ble i 951 then (1339, .iconst 4, 0, 0, 4, []) else (1340, .iadd, 0, 0, 0, [])))))) else (bif Nat.ble i 961 then (bif Nat.ble i 956 then (bif Nat.ble i 954 then (bif Nat.ble i 953 then (1341, .iaload, 0, 0, 0, []) else (1342, .aload_n 0, 0, 0, 0, [])) else (bif Nat.ble i 955 then (1343, .iload_n 3, 0, 0, 0, []) else (1344, .iconst 5, 0, 0, 5, []))) else (bif Nat.ble i 958 then (bif Nat.ble i 957 then (1345, .iadd, 0, 0, 0, []) else (1346, .iaload, 0, 0, 0, [])) else (bif Nat.ble i 959 then (1347, .invokevirtual 151, 226, 6, 0, []) else (bif Nat.ble i 960 then (1350, .lcmp, 0, 0, 0, []) else (1351, .ifCond .eq 242, 1147, 0, 0, []))))) else (bif Nat.ble i 965 then (bif Nat.ble i 963 then (bif Nat.ble i 962 then (1354, .iconst 0, 0, 0, 0, []) else (1355, .ireturn, 0, 0, 0, [])) else (bif Nat.ble i 964 then (1356, .aload_n 1, 0, 0, 0, []) else (1357, .aload_n 0, 0, 0, 0, []))) else (bif Nat.ble i 967 then (bif Nat.ble i 966 then (1358, .iload_n 3, 0, 0, 0, []) else (1359, .iconst 1, 0, 0, 1, [])) else (bif Nat.ble i 968 then (1360, .iadd, 0, 0, 0, []) else (bif Nat.ble i 969 then (1361, .iaload, 0, 0, 0, []) else (1362, .aload_n 0, 0, 0, 0, []))))))) else (bif Nat.ble i 988 then (bif Nat.ble i 979 then (bif Nat.ble i 974 then (bif Nat.ble i 972 then (bif Nat.ble i 971 then (1363, .iload_n 3, 0, 0, 0, []) else (1364, .iconst 2, 0, 0, 2, [])) else (bif Nat.ble i 973 then (1365, .iadd, 0, 0, 0, []) else (1366, .iaload, 0, 0, 0, []))) else (bif Nat.ble i 976 then (bif Nat.ble i 975 then (1367, .aload_n 0, 0, 0, 0, []) else (1368, .iload_n 3, 0, 0, 0, [])) else (bif Nat.ble i 977 then (1369, .iconst 3, 0, 0, 3, []) else (bif Nat.ble i 978 then (1370, .iadd, 0, 0, 0, []) else (1371, .iaload, 0, 0, 0, []))))) else (bif Nat.ble i 983 then (bif Nat.ble i 981 then (bif Nat.ble i 980 then (1372, .invokevirtual 152, 139, 4, 0, []) else (1375, .aload_n 2, 0, 0, 0, [])) else (bif Nat.ble i 982 then (1376, .aload_n 0, 0, 0, 0, []) else (1377, .iload_n 3, 0, 0, 0, []))) else (bif Nat.ble i 985 then (bif Nat.ble i 984 then (1378, .iconst 1, 0, 0, 1, []) else (1379, .iadd, 0, 0, 0, [])) else (bif Nat.ble i 986 then (1380, .iaload, 0, 0, 0, []) else (bif Nat.ble i 987 then (1381, .aload_n 0, 0, 0, 0, []) else (1382, .iload_n 3, 0, 0, 0, [])))))) else (bif Nat.ble i 997 then (bif Nat.ble i 992 then (bif Nat.ble i 990 then (bif Nat.ble i 989 then (1383, .iconst 2, 0, 0, 2, []) else (1384, .iadd, 0, 0, 0, [])) else (bif Nat.ble i 991 then (1385, .iaload, 0, 0, 0, []) else (1386, .aload_n 0, 0, 0, 0, []))) else (bif Nat.ble i 994 then (bif Nat.ble i 993 then (1387, .iload_n 3, 0, 0, 0, []) else (1388, .iconst 3, 0, 0, 3, [])) else (bif Nat.ble i 995 then (1389, .iadd, 0, 0, 0, []) else (bif Nat.ble i 996 then (1390, .iaload, 0, 0, 0, []) else (1391, .invokevirtual 155, 227, 4, 0, []))))) else (bif Nat.ble i 1001 then (bif Nat.ble i 999 then (bif Nat.ble i 998 then (1394, .if_icmp .eq 199, 1147, 0, 0, []) else (1397, .iconst 0, 0, 0, 0, [])) else (bif Nat.ble i 1000 then (1398, .ireturn, 0, 0, 0, []) else (1399, .aload_n 1, 0, 0, 0, []))) else (bif Nat.ble i 1003 then (bif Nat.ble i 1002 then (1400, .aload_n 0, 0, 0, 0, []) else (1401, .iload_n 3, 0, 0, 0, [])) else (bif Nat.ble i 1004 then (1402, .iconst 1, 0, 0, 1, []) else (bif Nat.ble i 1005 then (1403, .iadd, 0, 0, 0, []) else (1404, .iaload, 0, 0, 0, []))))))))) else (bif Nat.ble i 1078 then (bif Nat.ble i 1042 then (bif Nat.ble i 1024 then (bif Nat.ble i 1015 then (bif Nat.ble i 1010 then (bif Nat.ble i 1008 then (bif Nat.ble i 1007 then (1405, .invokevirtual 156, 140, 2, 0, []) else (1408, .aload_n 2, 0, 0, 0, [])) else (bif Nat.ble i 1009 then (1409, .aload_n 0, 0, 0, 0, []) else (1410, .iload_n 3, 0, 0, 0, []))) else (bif Nat.ble i 1012 then (bif Nat.ble i 1011 then (1411, .iconst 1, 0, 0, 1, []) else (1412, .iadd, 0, 0, 0, [])) else (bif Nat.ble i 1013 then (1413, .iaload, 0, 0, 0, []) else (bif Nat.ble i 1014 then (1414, .invokevirtual 159, 228, 2, 0, []) else (1417, .if_icmp .eq 176, 1147, 0, 0, []))))) else (bif Nat.ble i 1019 then (bif Nat.ble i 1017 then (bif Nat.ble i 1016 then (1420, .iconst 0, 0, 0, 0, []) else (1421, .ireturn, 0, 0, 0, [])) else (bif Nat.ble i 1018 then (1422, .aload_n 1, 0, 0, 0, []) else (1423, .aload_n 0, 0, 0, 0, []))) else (bif Nat.ble i 1021 then (bif Nat.ble i 1020 then (1424, .iload_n 3, 0, 0, 0, []) else (1425, .iconst 1, 0, 0, 1, [])) else (bif Nat.ble i 1022 then (1426, .iadd, 0, 0, 0, []) else (bif Nat.ble i 1023 then (1427, .iaload, 0, 0, 0, []) else (1428, .invokevirtual 160, 141, 2, 0, [])))))) else (bif Nat.ble i 1033 then (bif Nat.ble i 1028 then (bif Nat.ble i 1026 then (bif Nat.ble i 1025 then (1431, .aload_n 2, 0, 0, 0, []) else (1432, .aload_n 0, 0, 0, 0, [])) else (bif Nat.ble i 1027 then (1433, .iload_n 3, 0, 0, 0, []) else (1434, .iconst 1, 0, 0, 1, []))) else (bif Nat.ble i 1030 then (bif Nat.ble i 1029 then (1435, .iadd, 0, 0, 0, []) else (1436, .iaload, 0, 0, 0, [])) else (bif Nat.ble i 1031 then (1437, .invokevirtual 163, 229, 2, 0, []) else (bif Nat.ble i 1032 then (1440, .if_icmp .eq 153, 1147, 0, 0, []) else (1443, .iconst 0, 0, 0, 0, []))))) else (bif Nat.ble i 1037 then (bif Nat.ble i 1035 then (bif Nat.ble i 1034 then (1444, .ireturn, 0, 0, 0, []) else (1445, .aload_n 1, 0, 0, 0, [])) else (bif Nat.ble i 1036 then (1446, .aload_n 0, 0, 0, 0, []) else (1447, .iload_n 3, 0, 0, 0, []))) else (bif Nat.ble i 1039 then (bif Nat.ble i 1038 then (1448, .iconst 1, 0, 0, 1, []) else (1449, .iadd, 0, 0, 0, [])) else (bif Nat.ble i 1040 then (1450, .iaload, 0, 0, 0, []) else (bif Nat.ble i 1041 then (1451, .invokevirtual 164, 142, 2, 0, []) else (1454, .aload_n 2, 0, 0, 0, []))))))) else (bif Nat.ble i 1060 then (bif Nat.ble i 1051 then (bif Nat.ble i 1046 then (bif Nat.ble i 1044 then (bif Nat.ble i 1043 then (1455, .aload_n 0, 0, 0, 0, []) else (1456, .iload_n 3, 0, 0, 0, [])) else (bif Nat.ble i 1045 then (1457, .iconst 1, 0, 0, 1, []) else (1458, .iadd, 0, 0, 0, []))) else (bif Nat.ble i 1048 then (bif Nat.ble i 1047 then (1459, .iaload, 0, 0, 0, []) else (1460, .invokevirtual 167, 231, 2, 0, [])) else (bif Nat.ble i 1049 then (1463, .if_icmp .eq 130, 1147, 0, 0, []) else (bif Nat.ble i 1050 then (1466, .iconst 0, 0, 0, 0, []) else (1467, .ireturn, 0, 0, 0, []))))) else (bif Nat.ble i 1055 then (bif Nat.ble i 1053 then (bif Nat.ble i 1052 then (1468, .aload_n 1, 0, 0, 0, []) else (1469, .aload_n 0, 0, 0, 0, [])) else (bif Nat.ble i 1054 then (1470, .iload_n 3, 0, 0, 0, []) else (1471, .iconst 1, 0, 0, 1, []))) else (bif Nat.ble i 1057 then (bif Nat.ble i 1056 then (1472, .iadd, 0, 0, 0, []) else (1473, .iaload, 0, 0, 0, [])) else (bif Nat.ble i 1058 then (1474, .aload_n 0, 0, 0, 0, []) else (bif Nat.ble i 1059 then (1475, .iload_n 3, 0, 0, 0, []) else (1476, .iconst 2, 0, 0, 2, [])))))) else (bif Nat.ble i 1069 then (bif Nat.ble i 1064 then (bif Nat.ble i 1062 then (bif Nat.ble i 1061 then (1477, .iadd, 0, 0, 0, []) else (1478, .iaload, 0, 0, 0, [])) else (bif Nat.ble i 1063 then (1479, .invokevirtual 168, 143, 3, 0, []) else (1482, .aload_n 2, 0, 0, 0, []))) else (bif Nat.ble i 1066 then (bif Nat.ble i 1065 then (1483, .aload_n 0, 0, 0, 0, []) else (1484, .iload_n 3, 0, 0, 0, [])) else (bif Nat.ble i 1067 then (1485, .iconst 1, 0, 0, 1, []) else (bif Nat.ble i 1068 then (1486, .iadd, 0, 0, 0, []) else (1487, .iaload, 0, 0, 0, []))))) else (bif Nat.ble i 1073 then (bif Nat.ble i 1071 then (bif Nat.ble i 1070 then (1488, .aload_n 0, 0, 0, 0, []) else (1489, .iload_n 3, 0, 0, 0, [])) else (bif Nat.ble i 1072 then (1490, .iconst 2, 0, 0, 2, []) else (1491, .iadd, 0, 0, 0, []))) else (bif Nat.ble i 1075 then (bif Nat.ble i 1074 then (1492, .iaload, 0, 0, 0, []) else (1493, .invokevirtual 171, 232, 3, 0, [])) else (bif Nat.ble i 1076 then (1496, .if_icmp .eq 97, 1147, 0, 0, []) else (bif Nat.ble i 1077 then (1499, .iconst 0, 0, 0, 0, []) else (1500, .ireturn, 0, 0, 0, [])))))))) else (bif Nat.ble i 1114 then (bif Nat.ble i 1096 then (bif Nat.ble i 1087 then (bif Nat.ble i 1082 then (bif Nat.ble i 1080 then (bif Nat.ble i 1079 then (1501, .aload_n 1, 0, 0, 0, []) else (1502, .aload_n 0, 0, 0, 0, [])) else (bif Nat.ble i 1081 then (1503, .iload_n 3, 0, 0, 0, []) else (1504, .iconst 1, 0, 0, 1, []))) else (bif Nat.ble i 1084 then (bif Nat.ble i 1083 then (1505, .iadd, 0, 0, 0, []) else (1506, .iaload, 0, 0, 0, [])) else (bif Nat.ble i 1085 then (1507, .aload_n 0, 0, 0, 0, []) else (bif Nat.ble i 1086 then (1508, .iload_n 3, 0, 0, 0, []) else (1509, .iconst 2, 0, 0, 2, []))))) else (bif Nat.ble i 1091 then (bif Nat.ble i 1089 then (bif Nat.ble i 1088 then (1510, .iadd, 0, 0, 0, []) else (1511, .iaload, 0, 0, 0, [])) else (bif Nat.ble i 1090 then (1512, .invokevirtual 172, 144, 3, 0, []) else (1515, .aload_n 2, 0, 0, 0, []))) else (bif Nat.ble i 1093 then (bif Nat.ble i 1092 then (1516, .aload_n 0, 0, 0, 0, []) else (1517, .iload_n 3, 0, 0, 0, [])) else (bif Nat.ble i 1094 then (1518, .iconst 1, 0, 0, 1, []) else (bif Nat.ble i 1095 then (1519, .iadd, 0, 0, 0, []) else (1520, .iaload, 0, 0, 0, [])))))) else (bif Nat.ble i 1105 then (bif Nat.ble i 1100 then (bif Nat.ble i 1098 then (bif Nat.ble i 1097 then (1521, .aload_n 0, 0, 0, 0, []) else (1522, .iload_n 3, 0, 0, 0, [])) else (bif Nat.ble i 1099 then (1523, .iconst 2, 0, 0, 2, []) else (1524, .iadd, 0, 0, 0, []))) else (bif Nat.ble i 1102 then (bif Nat.ble i 1101 then (1525, .iaload, 0, 0, 0, []) else (1526, .invokevirtual 175, 238, 3, 0, [])) else (bif Nat.ble i 1103 then (1529, .if_icmp .eq 64, 1147, 0, 0, []) else (bif Nat.ble i 1104 then (1532, .iconst 0, 0, 0, 0, []) else (1533, .ireturn, 0, 0, 0, []))))) else (bif Nat.ble i 1109 then (bif Nat.ble i 1107 then (bif Nat.ble i 1106 then (1534, .aload_n 1, 0, 0, 0, []) else (1535, .aload_n 0, 0, 0, 0, [])) else (bif Nat.ble i 1108 then (1536, .iload_n 3, 0, 0, 0, []) else (1537, .iconst 1, 0, 0, 1, []))) else (bif Nat.ble i 1111 then (bif Nat.ble i 1110 then (1538, .iadd, 0, 0, 0, []) else (1539, .iaload, 0, 0, 0, [])) else (bif Nat.ble i 1112 then (1540, .invokevirtual 176, 145, 2, 0, []) else (bif Nat.ble i 1113 then (1543, .aload_n 2, 0, 0, 0, []) else (1544, .aload_n 0, 0, 0, 0, []))))))) else (bif Nat.ble i 1132 then (bif Nat.ble i 1123 then (bif Nat.ble i 1118 then (bif Nat.ble i 1116 then (bif Nat.ble i 1115 then (1545, .iload_n 3, 0, 0, 0, []) else (1546, .iconst 1, 0, 0, 1, [])) else (bif Nat.ble i 1117 then (1547, .iadd, 0, 0, 0, []) else (1548, .iaload, 0, 0, 0, []))) else (bif Nat.ble i 1120 then (bif Nat.ble i 1119 then (1549, .invokevirtual 179, 239, 2, 0, []) else (1552, .if_icmp .eq 41, 1147, 0, 0, [])) else (bif Nat.ble i 1121 then (1555, .iconst 0, 0, 0, 0, []) else (bif Nat.ble i 1122 then (1556, .ireturn, 0, 0, 0, []) else (1557, .aload_n 1, 0, 0, 0, []))))) else (bif Nat.ble i 1127 then (bif Nat.ble i 1125 then (bif Nat.ble i 1124 then (1558, .aload_n 0, 0, 0, 0, []) else (1559, .iload_n 3, 0, 0, 0, [])) else (bif Nat.ble i 1126 then (1560, .iconst 1, 0, 0, 1, []) else (1561, .iadd, 0, 0, 0, []))) else (bif Nat.ble i 1129 then (bif Nat.ble i 1128 then (1562, .iaload, 0, 0, 0, []) else (1563, .invokevirtual 180, 146, 2, 0, [])) else (bif Nat.ble i 1130 then (1566, .aload_n 2, 0, 0, 0, []) else (bif Nat.ble i 1131 then (1567, .aload_n 0, 0, 0, 0, []) else (1568, .iload_n 3, 0, 0, 0, [])))))) else (bif Nat.ble i 1141 then (bif Nat.ble i 1136 then (bif Nat.ble i 1134 then (bif Nat.ble i 1133 then (1569, .iconst 1, 0, 0, 1, []) else (1570, .iadd, 0, 0, 0, [])) else (bif Nat.ble i 1135 then (1571, .iaload, 0, 0, 0, []) else (1572, .invokevirtual 183, 240, 2, 0, []))) else (bif Nat.ble i 1138 then (bif Nat.ble i 1137 then (1575, .if_icmp .eq 18, 1147, 0, 0, []) else (1578, .iconst 0, 0, 0, 0, [])) else (bif Nat.ble i 1139 then (1579, .ireturn, 0, 0, 0, []) else (bif Nat.ble i 1140 then (1580, .aload_n 1, 0, 0, 0, []) else (1581, .invokevirtual 184, 147, 1, 0, []))))) else (bif Nat.ble i 1145 then (bif Nat.ble i 1143 then (bif Nat.ble i 1142 then (1584, .aload_n 2, 0, 0, 0, []) else (1585, .invokevirtual 187, 241, 1, 0, [])) else (bif Nat.ble i 1144 then (1588, .if_icmp .eq 5, 1147, 0, 0, []) else (1591, .iconst 0, 0, 0, 0, []))) else (bif Nat.ble i 1147 then (bif Nat.ble i 1146 then (1592, .ireturn, 0, 0, 0, []) else (1593, .iinc 3 6, 0, 0, 6, [])) else (bif Nat.ble i 1148 then (1596, .goto (-1578), 10, 0, 0, []) else (bif Nat.ble i 1149 then (1599, .iconst 1, 0, 0, 1, []) else (1600, .ireturn, 0, 0, 0, []))))))))))))
def prg : Nat → Nat → mmE := fun M => (bif Nat.ble M 120 then (bif Nat.ble M 59 then (bif Nat.ble M 29 then (bif Nat.ble M 14 then (bif Nat.ble M 6 then (bif Nat.ble M 2 then (bif Nat.ble M 0 then cd0 else (bif Nat.ble M 1 then cd1 else cd2)) else (bif Nat.ble M 4 then (bif Nat.ble M 3 then cd3 else cd4) else (bif Nat.ble M 5 then cd5 else cd6))) else (bif Nat.ble M 10 then (bif Nat.ble M 8 then (bif Nat.ble M 7 then cd7 else cd8) else (bif Nat.ble M 9 then cd9 else cd10)) else (bif Nat.ble M 12 then (bif Nat.ble M 11 then cd11 else cd12) else (bif Nat.ble M 13 then cd13 else cd14)))) else (bif Nat.ble M 21 then (bif Nat.ble M 17 then (bif Nat.ble M 15 then cd15 else (bif Nat.ble M 16 then cd16 else cd17)) else (bif Nat.ble M 19 then (bif Nat.ble M 18 then cd18 else cd19) else (bif Nat.ble M 20 then cd20 else cd21))) else (bif Nat.ble M 25 then (bif Nat.ble M 23 then (bif Nat.ble M 22 then cd22 else cd23) else (bif Nat.ble M 24 then cd24 else cd25)) else (bif Nat.ble M 27 then (bif Nat.ble M 26 then cd26 else cd27) else (bif Nat.ble M 28 then cd28 else cd29))))) else (bif Nat.ble M 44 then (bif Nat.ble M 36 then (bif Nat.ble M 32 then (bif Nat.ble M 30 then cd30 else (bif Nat.ble M 31 then cd31 else cd32)) else (bif Nat.ble M 34 then (bif Nat.ble M 33 then cd33 else cd34) else (bif Nat.ble M 35 then cd35 else cd36))) else (bif Nat.ble M 40 then (bif Nat.ble M 38 then (bif Nat.ble M 37 then cd37 else cd38) else (bif Nat.ble M 39 then cd39 else cd40)) else (bif Nat.ble M 42 then (bif Nat.ble M 41 then cd41 else cd42) else (bif Nat.ble M 43 then cd43 else cd44)))) else (bif Nat.ble M 51 then (bif Nat.ble M 47 then (bif Nat.ble M 45 then cd45 else (bif Nat.ble M 46 then cd46 else cd47)) else (bif Nat.ble M 49 then (bif Nat.ble M 48 then cd48 else cd49) else (bif Nat.ble M 50 then cd50 else cd51))) else (bif Nat.ble M 55 then (bif Nat.ble M 53 then (bif Nat.ble M 52 then cd52 else cd53) else (bif Nat.ble M 54 then cd54 else cd55)) else (bif Nat.ble M 57 then (bif Nat.ble M 56 then cd56 else cd57) else (bif Nat.ble M 58 then cd58 else cd59)))))) else (bif Nat.ble M 89 then (bif Nat.ble M 74 then (bif Nat.ble M 66 then (bif Nat.ble M 62 then (bif Nat.ble M 60 then cd60 else (bif Nat.ble M 61 then cd61 else cd62)) else (bif Nat.ble M 64 then (bif Nat.ble M 63 then cd63 else cd64) else (bif Nat.ble M 65 then cd65 else cd66))) else (bif Nat.ble M 70 then (bif Nat.ble M 68 then (bif Nat.ble M 67 then cd67 else cd68) else (bif Nat.ble M 69 then cd69 else cd70)) else (bif Nat.ble M 72 then (bif Nat.ble M 71 then cd71 else cd72) else (bif Nat.ble M 73 then cd73 else cd74)))) else (bif Nat.ble M 81 then (bif Nat.ble M 77 then (bif Nat.ble M 75 then cd75 else (bif Nat.ble M 76 then cd76 else cd77)) else (bif Nat.ble M 79 then (bif Nat.ble M 78 then cd78 else cd79) else (bif Nat.ble M 80 then cd80 else cd81))) else (bif Nat.ble M 85 then (bif Nat.ble M 83 then (bif Nat.ble M 82 then cd82 else cd83) else (bif Nat.ble M 84 then cd84 else cd85)) else (bif Nat.ble M 87 then (bif Nat.ble M 86 then cd86 else cd87) else (bif Nat.ble M 88 then cd88 else cd89))))) else (bif Nat.ble M 104 then (bif Nat.ble M 96 then (bif Nat.ble M 92 then (bif Nat.ble M 90 then cd90 else (bif Nat.ble M 91 then cd91 else cd92)) else (bif Nat.ble M 94 then (bif Nat.ble M 93 then cd93 else cd94) else (bif Nat.ble M 95 then cd95 else cd96))) else (bif Nat.ble M 100 then (bif Nat.ble M 98 then (bif Nat.ble M 97 then cd97 else cd98) else (bif Nat.ble M 99 then cd99 else cd100)) else (bif Nat.ble M 102 then (bif Nat.ble M 101 then cd101 else cd102) else (bif Nat.ble M 103 then cd103 else cd104)))) else (bif Nat.ble M 112 then (bif Nat.ble M 108 then (bif Nat.ble M 106 then (bif Nat.ble M 105 then cd105 else cd106) else (bif Nat.ble M 107 then cd107 else cd108)) else (bif Nat.ble M 110 then (bif Nat.ble M 109 then cd109 else cd110) else (bif Nat.ble M 111 then cd111 else cd112))) else (bif Nat.ble M 116 then (bif Nat.ble M 114 then (bif Nat.ble M 113 then cd113 else cd114) else (bif Nat.ble M 115 then cd115 else cd116)) else (bif Nat.ble M 118 then (bif Nat.ble M 117 then cd117 else cd118) else (bif Nat.ble M 119 then cd119 else cd120))))))) else (bif Nat.ble M 181 then (bif Nat.ble M 150 then (bif Nat.ble M 135 then (bif Nat.ble M 127 then (bif Nat.ble M 123 then (bif Nat.ble M 121 then cd121 else (bif Nat.ble M 122 then cd122 else cd123)) else (bif Nat.ble M 125 then (bif Nat.ble M 124 then cd124 else cd125) else (bif Nat.ble M 126 then cd126 else cd127))) else (bif Nat.ble M 131 then (bif Nat.ble M 129 then (bif Nat.ble M 128 then cd128 else cd129) else (bif Nat.ble M 130 then cd130 else cd131)) else (bif Nat.ble M 133 then (bif Nat.ble M 132 then cd132 else cd133) else (bif Nat.ble M 134 then cd134 else cd135)))) else (bif Nat.ble M 142 then (bif Nat.ble M 138 then (bif Nat.ble M 136 then cd136 else (bif Nat.ble M 137 then cd137 else cd138)) else (bif Nat.ble M 140 then (bif Nat.ble M 139 then cd139 else cd140) else (bif Nat.ble M 141 then cd141 else cd142))) else (bif Nat.ble M 146 then (bif Nat.ble M 144 then (bif Nat.ble M 143 then cd143 else cd144) else (bif Nat.ble M 145 then cd145 else cd146)) else (bif Nat.ble M 148 then (bif Nat.ble M 147 then cd147 else cd148) else (bif Nat.ble M 149 then cd149 else cd150))))) else (bif Nat.ble M 165 then (bif Nat.ble M 157 then (bif Nat.ble M 153 then (bif Nat.ble M 151 then cd151 else (bif Nat.ble M 152 then cd152 else cd153)) else (bif Nat.ble M 155 then (bif Nat.ble M 154 then cd154 else cd155) else (bif Nat.ble M 156 then cd156 else cd157))) else (bif Nat.ble M 161 then (bif Nat.ble M 159 then (bif Nat.ble M 158 then cd158 else cd159) else (bif Nat.ble M 160 then cd160 else cd161)) else (bif Nat.ble M 163 then (bif Nat.ble M 162 then cd162 else cd163) else (bif Nat.ble M 164 then cd164 else cd165)))) else (bif Nat.ble M 173 then (bif Nat.ble M 169 then (bif Nat.ble M 167 then (bif Nat.ble M 166 then cd166 else cd167) else (bif Nat.ble M 168 then cd168 else cd169)) else (bif Nat.ble M 171 then (bif Nat.ble M 170 then cd170 else cd171) else (bif Nat.ble M 172 then cd172 else cd173))) else (bif Nat.ble M 177 then (bif Nat.ble M 175 then (bif Nat.ble M 174 then cd174 else cd175) else (bif Nat.ble M 176 then cd176 else cd177)) else (bif Nat.ble M 179 then (bif Nat.ble M 178 then cd178 else cd179) else (bif Nat.ble M 180 then cd180 else cd181)))))) else (bif Nat.ble M 211 then (bif Nat.ble M 196 then (bif Nat.ble M 188 then (bif Nat.ble M 184 then (bif Nat.ble M 182 then cd182 else (bif Nat.ble M 183 then cd183 else cd184)) else (bif Nat.ble M 186 then (bif Nat.ble M 185 then cd185 else cd186) else (bif Nat.ble M 187 then cd187 else cd188))) else (bif Nat.ble M 192 then (bif Nat.ble M 190 then (bif Nat.ble M 189 then cd189 else cd190) else (bif Nat.ble M 191 then cd191 else cd192)) else (bif Nat.ble M 194 then (bif Nat.ble M 193 then cd193 else cd194) else (bif Nat.ble M 195 then cd195 else cd196)))) else (bif Nat.ble M 203 then (bif Nat.ble M 199 then (bif Nat.ble M 197 then cd197 else (bif Nat.ble M 198 then cd198 else cd199)) else (bif Nat.ble M 201 then (bif Nat.ble M 200 then cd200 else cd201) else (bif Nat.ble M 202 then cd202 else cd203))) else (bif Nat.ble M 207 then (bif Nat.ble M 205 then (bif Nat.ble M 204 then cd204 else cd205) else (bif Nat.ble M 206 then cd206 else cd207)) else (bif Nat.ble M 209 then (bif Nat.ble M 208 then cd208 else cd209) else (bif Nat.ble M 210 then cd210 else cd211))))) else (bif Nat.ble M 226 then (bif Nat.ble M 218 then (bif Nat.ble M 214 then (bif Nat.ble M 212 then cd212 else (bif Nat.ble M 213 then cd213 else cd214)) else (bif Nat.ble M 216 then (bif Nat.ble M 215 then cd215 else cd216) else (bif Nat.ble M 217 then cd217 else cd218))) else (bif Nat.ble M 222 then (bif Nat.ble M 220 then (bif Nat.ble M 219 then cd219 else cd220) else (bif Nat.ble M 221 then cd221 else cd222)) else (bif Nat.ble M 224 then (bif Nat.ble M 223 then cd223 else cd224) else (bif Nat.ble M 225 then cd225 else cd226)))) else (bif Nat.ble M 234 then (bif Nat.ble M 230 then (bif Nat.ble M 228 then (bif Nat.ble M 227 then cd227 else cd228) else (bif Nat.ble M 229 then cd229 else cd230)) else (bif Nat.ble M 232 then (bif Nat.ble M 231 then cd231 else cd232) else (bif Nat.ble M 233 then cd233 else cd234))) else (bif Nat.ble M 238 then (bif Nat.ble M 236 then (bif Nat.ble M 235 then cd235 else cd236) else (bif Nat.ble M 237 then cd237 else cd238)) else (bif Nat.ble M 240 then (bif Nat.ble M 239 then cd239 else cd240) else (bif Nat.ble M 241 then cd241 else cd242))))))))
/-- how many instructions -/
def mlen : Nat → Nat := fun M => (bif Nat.ble M 120 then (bif Nat.ble M 59 then (bif Nat.ble M 29 then (bif Nat.ble M 14 then (bif Nat.ble M 6 then (bif Nat.ble M 2 then (bif Nat.ble M 0 then 42 else (bif Nat.ble M 1 then 7 else 7)) else (bif Nat.ble M 4 then (bif Nat.ble M 3 then 8 else 4) else (bif Nat.ble M 5 then 30 else 29))) else (bif Nat.ble M 10 then (bif Nat.ble M 8 then (bif Nat.ble M 7 then 7 else 10) else (bif Nat.ble M 9 then 15 else 12)) else (bif Nat.ble M 12 then (bif Nat.ble M 11 then 27 else 17) else (bif Nat.ble M 13 then 107 else 39)))) else (bif Nat.ble M 21 then (bif Nat.ble M 17 then (bif Nat.ble M 15 then 7 else (bif Nat.ble M 16 then 8 else 8)) else (bif Nat.ble M 19 then (bif Nat.ble M 18 then 8 else 9) else (bif Nat.ble M 20 then 13 else 21))) else (bif Nat.ble M 25 then (bif Nat.ble M 23 then (bif Nat.ble M 22 then 30 else 36) else (bif Nat.ble M 24 then 99 else 34)) else (bif Nat.ble M 27 then (bif Nat.ble M 26 then 34 else 16) else (bif Nat.ble M 28 then 16 else 42))))) else (bif Nat.ble M 44 then (bif Nat.ble M 36 then (bif Nat.ble M 32 then (bif Nat.ble M 30 then 26 else (bif Nat.ble M 31 then 54 else 28)) else (bif Nat.ble M 34 then (bif Nat.ble M 33 then 18 else 76) else (bif Nat.ble M 35 then 13 else 19))) else (bif Nat.ble M 40 then (bif Nat.ble M 38 then (bif Nat.ble M 37 then 17 else 14) else (bif Nat.ble M 39 then 23 else 26)) else (bif Nat.ble M 42 then (bif Nat.ble M 41 then 23 else 35) else (bif Nat.ble M 43 then 23 else 47)))) else (bif Nat.ble M 51 then (bif Nat.ble M 47 then (bif Nat.ble M 45 then 28 else (bif Nat.ble M 46 then 22 else 12)) else (bif Nat.ble M 49 then (bif Nat.ble M 48 then 8 else 18) else (bif Nat.ble M 50 then 30 else 30))) else (bif Nat.ble M 55 then (bif Nat.ble M 53 then (bif Nat.ble M 52 then 19 else 60) else (bif Nat.ble M 54 then 20 else 61)) else (bif Nat.ble M 57 then (bif Nat.ble M 56 then 7 else 5) else (bif Nat.ble M 58 then 13 else 19)))))) else (bif Nat.ble M 89 then (bif Nat.ble M 74 then (bif Nat.ble M 66 then (bif Nat.ble M 62 then (bif Nat.ble M 60 then 20 else (bif Nat.ble M 61 then 14 else 62)) else (bif Nat.ble M 64 then (bif Nat.ble M 63 then 21 else 27) else (bif Nat.ble M 65 then 5 else 10))) else (bif Nat.ble M 70 then (bif Nat.ble M 68 then (bif Nat.ble M 67 then 16 else 16) else (bif Nat.ble M 69 then 37 else 22)) else (bif Nat.ble M 72 then (bif Nat.ble M 71 then 27 else 12) else (bif Nat.ble M 73 then 18 else 10)))) else (bif Nat.ble M 81 then (bif Nat.ble M 77 then (bif Nat.ble M 75 then 17 else (bif Nat.ble M 76 then 25 else 17)) else (bif Nat.ble M 79 then (bif Nat.ble M 78 then 6 else 11) else (bif Nat.ble M 80 then 6 else 19))) else (bif Nat.ble M 85 then (bif Nat.ble M 83 then (bif Nat.ble M 82 then 22 else 31) else (bif Nat.ble M 84 then 32 else 24)) else (bif Nat.ble M 87 then (bif Nat.ble M 86 then 20 else 27) else (bif Nat.ble M 88 then 33 else 29))))) else (bif Nat.ble M 104 then (bif Nat.ble M 96 then (bif Nat.ble M 92 then (bif Nat.ble M 90 then 35 else (bif Nat.ble M 91 then 12 else 27)) else (bif Nat.ble M 94 then (bif Nat.ble M 93 then 30 else 30) else (bif Nat.ble M 95 then 32 else 30))) else (bif Nat.ble M 100 then (bif Nat.ble M 98 then (bif Nat.ble M 97 then 26 else 25) else (bif Nat.ble M 99 then 6 else 46)) else (bif Nat.ble M 102 then (bif Nat.ble M 101 then 18 else 15) else (bif Nat.ble M 103 then 16 else 65)))) else (bif Nat.ble M 112 then (bif Nat.ble M 108 then (bif Nat.ble M 106 then (bif Nat.ble M 105 then 51 else 31) else (bif Nat.ble M 107 then 29 else 39)) else (bif Nat.ble M 110 then (bif Nat.ble M 109 then 23 else 18) else (bif Nat.ble M 111 then 24 else 4))) else (bif Nat.ble M 116 then (bif Nat.ble M 114 then (bif Nat.ble M 113 then 15 else 41) else (bif Nat.ble M 115 then 28 else 31)) else (bif Nat.ble M 118 then (bif Nat.ble M 117 then 52 else 38) else (bif Nat.ble M 119 then 39 else 29))))))) else (bif Nat.ble M 181 then (bif Nat.ble M 150 then (bif Nat.ble M 135 then (bif Nat.ble M 127 then (bif Nat.ble M 123 then (bif Nat.ble M 121 then 27 else (bif Nat.ble M 122 then 37 else 23)) else (bif Nat.ble M 125 then (bif Nat.ble M 124 then 15 else 18) else (bif Nat.ble M 126 then 21 else 22))) else (bif Nat.ble M 131 then (bif Nat.ble M 129 then (bif Nat.ble M 128 then 25 else 33) else (bif Nat.ble M 130 then 30 else 25)) else (bif Nat.ble M 133 then (bif Nat.ble M 132 then 19 else 10) else (bif Nat.ble M 134 then 38 else 79)))) else (bif Nat.ble M 142 then (bif Nat.ble M 138 then (bif Nat.ble M 136 then 55 else (bif Nat.ble M 137 then 47 else 61)) else (bif Nat.ble M 140 then (bif Nat.ble M 139 then 40 else 22) else (bif Nat.ble M 141 then 27 else 13))) else (bif Nat.ble M 146 then (bif Nat.ble M 144 then (bif Nat.ble M 143 then 28 else 20) else (bif Nat.ble M 145 then 5 else 36)) else (bif Nat.ble M 148 then (bif Nat.ble M 147 then 3 else 7) else (bif Nat.ble M 149 then 5 else 10))))) else (bif Nat.ble M 165 then (bif Nat.ble M 157 then (bif Nat.ble M 153 then (bif Nat.ble M 151 then 11 else (bif Nat.ble M 152 then 10 else 23)) else (bif Nat.ble M 155 then (bif Nat.ble M 154 then 25 else 83) else (bif Nat.ble M 156 then 12 else 7))) else (bif Nat.ble M 161 then (bif Nat.ble M 159 then (bif Nat.ble M 158 then 6 else 54) else (bif Nat.ble M 160 then 71 else 121)) else (bif Nat.ble M 163 then (bif Nat.ble M 162 then 30 else 32) else (bif Nat.ble M 164 then 11 else 138)))) else (bif Nat.ble M 173 then (bif Nat.ble M 169 then (bif Nat.ble M 167 then (bif Nat.ble M 166 then 11 else 15) else (bif Nat.ble M 168 then 38 else 14)) else (bif Nat.ble M 171 then (bif Nat.ble M 170 then 9 else 30) else (bif Nat.ble M 172 then 6 else 27))) else (bif Nat.ble M 177 then (bif Nat.ble M 175 then (bif Nat.ble M 174 then 16 else 102) else (bif Nat.ble M 176 then 97 else 120)) else (bif Nat.ble M 179 then (bif Nat.ble M 178 then 9 else 12) else (bif Nat.ble M 180 then 12 else 12)))))) else (bif Nat.ble M 211 then (bif Nat.ble M 196 then (bif Nat.ble M 188 then (bif Nat.ble M 184 then (bif Nat.ble M 182 then 19 else (bif Nat.ble M 183 then 11 else 10)) else (bif Nat.ble M 186 then (bif Nat.ble M 185 then 10 else 9) else (bif Nat.ble M 187 then 14 else 37))) else (bif Nat.ble M 192 then (bif Nat.ble M 190 then (bif Nat.ble M 189 then 24 else 64) else (bif Nat.ble M 191 then 139 else 11)) else (bif Nat.ble M 194 then (bif Nat.ble M 193 then 16 else 23) else (bif Nat.ble M 195 then 20 else 54)))) else (bif Nat.ble M 203 then (bif Nat.ble M 199 then (bif Nat.ble M 197 then 43 else (bif Nat.ble M 198 then 29 else 36)) else (bif Nat.ble M 201 then (bif Nat.ble M 200 then 48 else 43) else (bif Nat.ble M 202 then 37 else 78))) else (bif Nat.ble M 207 then (bif Nat.ble M 205 then (bif Nat.ble M 204 then 21 else 81) else (bif Nat.ble M 206 then 36 else 29)) else (bif Nat.ble M 209 then (bif Nat.ble M 208 then 20 else 15) else (bif Nat.ble M 210 then 36 else 48))))) else (bif Nat.ble M 226 then (bif Nat.ble M 218 then (bif Nat.ble M 214 then (bif Nat.ble M 212 then 38 else (bif Nat.ble M 213 then 136 else 96)) else (bif Nat.ble M 216 then (bif Nat.ble M 215 then 78 else 77) else (bif Nat.ble M 217 then 38 else 21))) else (bif Nat.ble M 222 then (bif Nat.ble M 220 then (bif Nat.ble M 219 then 40 else 104) else (bif Nat.ble M 221 then 33 else 32)) else (bif Nat.ble M 224 then (bif Nat.ble M 223 then 113 else 74) else (bif Nat.ble M 225 then 63 else 175)))) else (bif Nat.ble M 234 then (bif Nat.ble M 230 then (bif Nat.ble M 228 then (bif Nat.ble M 227 then 104 else 42) else (bif Nat.ble M 229 then 42 else 21)) else (bif Nat.ble M 232 then (bif Nat.ble M 231 then 15 else 32) else (bif Nat.ble M 233 then 17 else 9))) else (bif Nat.ble M 238 then (bif Nat.ble M 236 then (bif Nat.ble M 235 then 33 else 62) else (bif Nat.ble M 237 then 40 else 28)) else (bif Nat.ble M 240 then (bif Nat.ble M 239 then 20 else 73) else (bif Nat.ble M 241 then 6 else 1151))))))))
/-- the class (50: none that the heap holds) -/
def mcls : Nat → Nat := fun M => (bif Nat.ble M 120 then (bif Nat.ble M 59 then (bif Nat.ble M 29 then (bif Nat.ble M 14 then (bif Nat.ble M 6 then (bif Nat.ble M 2 then (bif Nat.ble M 0 then 50 else (bif Nat.ble M 1 then 50 else 50)) else (bif Nat.ble M 4 then (bif Nat.ble M 3 then 0 else 0) else (bif Nat.ble M 5 then 0 else 0))) else (bif Nat.ble M 10 then (bif Nat.ble M 8 then (bif Nat.ble M 7 then 1 else 1) else (bif Nat.ble M 9 then 1 else 1)) else (bif Nat.ble M 12 then (bif Nat.ble M 11 then 1 else 1) else (bif Nat.ble M 13 then 1 else 2)))) else (bif Nat.ble M 21 then (bif Nat.ble M 17 then (bif Nat.ble M 15 then 2 else (bif Nat.ble M 16 then 2 else 2)) else (bif Nat.ble M 19 then (bif Nat.ble M 18 then 2 else 2) else (bif Nat.ble M 20 then 2 else 2))) else (bif Nat.ble M 25 then (bif Nat.ble M 23 then (bif Nat.ble M 22 then 2 else 2) else (bif Nat.ble M 24 then 2 else 2)) else (bif Nat.ble M 27 then (bif Nat.ble M 26 then 2 else 2) else (bif Nat.ble M 28 then 2 else 2))))) else (bif Nat.ble M 44 then (bif Nat.ble M 36 then (bif Nat.ble M 32 then (bif Nat.ble M 30 then 2 else (bif Nat.ble M 31 then 2 else 2)) else (bif Nat.ble M 34 then (bif Nat.ble M 33 then 2 else 2) else (bif Nat.ble M 35 then 2 else 2))) else (bif Nat.ble M 40 then (bif Nat.ble M 38 then (bif Nat.ble M 37 then 2 else 2) else (bif Nat.ble M 39 then 2 else 2)) else (bif Nat.ble M 42 then (bif Nat.ble M 41 then 2 else 2) else (bif Nat.ble M 43 then 2 else 2)))) else (bif Nat.ble M 51 then (bif Nat.ble M 47 then (bif Nat.ble M 45 then 2 else (bif Nat.ble M 46 then 2 else 3)) else (bif Nat.ble M 49 then (bif Nat.ble M 48 then 3 else 3) else (bif Nat.ble M 50 then 3 else 3))) else (bif Nat.ble M 55 then (bif Nat.ble M 53 then (bif Nat.ble M 52 then 3 else 3) else (bif Nat.ble M 54 then 3 else 3)) else (bif Nat.ble M 57 then (bif Nat.ble M 56 then 3 else 3) else (bif Nat.ble M 58 then 3 else 3)))))) else (bif Nat.ble M 89 then (bif Nat.ble M 74 then (bif Nat.ble M 66 then (bif Nat.ble M 62 then (bif Nat.ble M 60 then 3 else (bif Nat.ble M 61 then 3 else 3)) else (bif Nat.ble M 64 then (bif Nat.ble M 63 then 3 else 4) else (bif Nat.ble M 65 then 4 else 4))) else (bif Nat.ble M 70 then (bif Nat.ble M 68 then (bif Nat.ble M 67 then 4 else 4) else (bif Nat.ble M 69 then 4 else 4)) else (bif Nat.ble M 72 then (bif Nat.ble M 71 then 4 else 4) else (bif Nat.ble M 73 then 4 else 4)))) else (bif Nat.ble M 81 then (bif Nat.ble M 77 then (bif Nat.ble M 75 then 4 else (bif Nat.ble M 76 then 4 else 5)) else (bif Nat.ble M 79 then (bif Nat.ble M 78 then 5 else 5) else (bif Nat.ble M 80 then 5 else 5))) else (bif Nat.ble M 85 then (bif Nat.ble M 83 then (bif Nat.ble M 82 then 5 else 5) else (bif Nat.ble M 84 then 5 else 5)) else (bif Nat.ble M 87 then (bif Nat.ble M 86 then 5 else 5) else (bif Nat.ble M 88 then 5 else 5))))) else (bif Nat.ble M 104 then (bif Nat.ble M 96 then (bif Nat.ble M 92 then (bif Nat.ble M 90 then 5 else (bif Nat.ble M 91 then 5 else 5)) else (bif Nat.ble M 94 then (bif Nat.ble M 93 then 5 else 5) else (bif Nat.ble M 95 then 5 else 5))) else (bif Nat.ble M 100 then (bif Nat.ble M 98 then (bif Nat.ble M 97 then 5 else 5) else (bif Nat.ble M 99 then 5 else 5)) else (bif Nat.ble M 102 then (bif Nat.ble M 101 then 5 else 5) else (bif Nat.ble M 103 then 5 else 5)))) else (bif Nat.ble M 112 then (bif Nat.ble M 108 then (bif Nat.ble M 106 then (bif Nat.ble M 105 then 6 else 6) else (bif Nat.ble M 107 then 6 else 6)) else (bif Nat.ble M 110 then (bif Nat.ble M 109 then 6 else 6) else (bif Nat.ble M 111 then 6 else 6))) else (bif Nat.ble M 116 then (bif Nat.ble M 114 then (bif Nat.ble M 113 then 6 else 6) else (bif Nat.ble M 115 then 6 else 6)) else (bif Nat.ble M 118 then (bif Nat.ble M 117 then 6 else 6) else (bif Nat.ble M 119 then 6 else 6))))))) else (bif Nat.ble M 181 then (bif Nat.ble M 150 then (bif Nat.ble M 135 then (bif Nat.ble M 127 then (bif Nat.ble M 123 then (bif Nat.ble M 121 then 6 else (bif Nat.ble M 122 then 6 else 6)) else (bif Nat.ble M 125 then (bif Nat.ble M 124 then 6 else 6) else (bif Nat.ble M 126 then 6 else 6))) else (bif Nat.ble M 131 then (bif Nat.ble M 129 then (bif Nat.ble M 128 then 6 else 6) else (bif Nat.ble M 130 then 6 else 6)) else (bif Nat.ble M 133 then (bif Nat.ble M 132 then 6 else 6) else (bif Nat.ble M 134 then 6 else 6)))) else (bif Nat.ble M 142 then (bif Nat.ble M 138 then (bif Nat.ble M 136 then 6 else (bif Nat.ble M 137 then 6 else 6)) else (bif Nat.ble M 140 then (bif Nat.ble M 139 then 6 else 6) else (bif Nat.ble M 141 then 6 else 6))) else (bif Nat.ble M 146 then (bif Nat.ble M 144 then (bif Nat.ble M 143 then 6 else 6) else (bif Nat.ble M 145 then 6 else 6)) else (bif Nat.ble M 148 then (bif Nat.ble M 147 then 6 else 6) else (bif Nat.ble M 149 then 6 else 6))))) else (bif Nat.ble M 165 then (bif Nat.ble M 157 then (bif Nat.ble M 153 then (bif Nat.ble M 151 then 6 else (bif Nat.ble M 152 then 6 else 6)) else (bif Nat.ble M 155 then (bif Nat.ble M 154 then 6 else 7) else (bif Nat.ble M 156 then 7 else 7))) else (bif Nat.ble M 161 then (bif Nat.ble M 159 then (bif Nat.ble M 158 then 7 else 7) else (bif Nat.ble M 160 then 7 else 7)) else (bif Nat.ble M 163 then (bif Nat.ble M 162 then 7 else 7) else (bif Nat.ble M 164 then 7 else 7)))) else (bif Nat.ble M 173 then (bif Nat.ble M 169 then (bif Nat.ble M 167 then (bif Nat.ble M 166 then 7 else 7) else (bif Nat.ble M 168 then 7 else 7)) else (bif Nat.ble M 171 then (bif Nat.ble M 170 then 7 else 7) else (bif Nat.ble M 172 then 7 else 7))) else (bif Nat.ble M 177 then (bif Nat.ble M 175 then (bif Nat.ble M 174 then 7 else 7) else (bif Nat.ble M 176 then 7 else 7)) else (bif Nat.ble M 179 then (bif Nat.ble M 178 then 7 else 7) else (bif Nat.ble M 180 then 7 else 7)))))) else (bif Nat.ble M 211 then (bif Nat.ble M 196 then (bif Nat.ble M 188 then (bif Nat.ble M 184 then (bif Nat.ble M 182 then 7 else (bif Nat.ble M 183 then 7 else 7)) else (bif Nat.ble M 186 then (bif Nat.ble M 185 then 7 else 7) else (bif Nat.ble M 187 then 7 else 7))) else (bif Nat.ble M 192 then (bif Nat.ble M 190 then (bif Nat.ble M 189 then 7 else 7) else (bif Nat.ble M 191 then 7 else 7)) else (bif Nat.ble M 194 then (bif Nat.ble M 193 then 7 else 7) else (bif Nat.ble M 195 then 7 else 7)))) else (bif Nat.ble M 203 then (bif Nat.ble M 199 then (bif Nat.ble M 197 then 7 else (bif Nat.ble M 198 then 7 else 7)) else (bif Nat.ble M 201 then (bif Nat.ble M 200 then 7 else 7) else (bif Nat.ble M 202 then 7 else 7))) else (bif Nat.ble M 207 then (bif Nat.ble M 205 then (bif Nat.ble M 204 then 7 else 7) else (bif Nat.ble M 206 then 7 else 7)) else (bif Nat.ble M 209 then (bif Nat.ble M 208 then 7 else 7) else (bif Nat.ble M 210 then 7 else 7))))) else (bif Nat.ble M 226 then (bif Nat.ble M 218 then (bif Nat.ble M 214 then (bif Nat.ble M 212 then 7 else (bif Nat.ble M 213 then 7 else 7)) else (bif Nat.ble M 216 then (bif Nat.ble M 215 then 7 else 7) else (bif Nat.ble M 217 then 7 else 7))) else (bif Nat.ble M 222 then (bif Nat.ble M 220 then (bif Nat.ble M 219 then 7 else 7) else (bif Nat.ble M 221 then 7 else 7)) else (bif Nat.ble M 224 then (bif Nat.ble M 223 then 7 else 7) else (bif Nat.ble M 225 then 7 else 7)))) else (bif Nat.ble M 234 then (bif Nat.ble M 230 then (bif Nat.ble M 228 then (bif Nat.ble M 227 then 7 else 7) else (bif Nat.ble M 229 then 7 else 7)) else (bif Nat.ble M 232 then (bif Nat.ble M 231 then 7 else 7) else (bif Nat.ble M 233 then 7 else 7))) else (bif Nat.ble M 238 then (bif Nat.ble M 236 then (bif Nat.ble M 235 then 7 else 7) else (bif Nat.ble M 237 then 7 else 7)) else (bif Nat.ble M 240 then (bif Nat.ble M 239 then 7 else 7) else (bif Nat.ble M 241 then 7 else 50))))))))
def mmaxL : Nat → Nat := fun M => (bif Nat.ble M 120 then (bif Nat.ble M 59 then (bif Nat.ble M 29 then (bif Nat.ble M 14 then (bif Nat.ble M 6 then (bif Nat.ble M 2 then (bif Nat.ble M 0 then 1 else (bif Nat.ble M 1 then 2 else 2)) else (bif Nat.ble M 4 then (bif Nat.ble M 3 then 1 else 1) else (bif Nat.ble M 5 then 2 else 2))) else (bif Nat.ble M 10 then (bif Nat.ble M 8 then (bif Nat.ble M 7 then 1 else 4) else (bif Nat.ble M 9 then 2 else 5)) else (bif Nat.ble M 12 then (bif Nat.ble M 11 then 5 else 2) else (bif Nat.ble M 13 then 6 else 1)))) else (bif Nat.ble M 21 then (bif Nat.ble M 17 then (bif Nat.ble M 15 then 1 else (bif Nat.ble M 16 then 2 else 2)) else (bif Nat.ble M 19 then (bif Nat.ble M 18 then 2 else 2) else (bif Nat.ble M 20 then 1 else 4))) else (bif Nat.ble M 25 then (bif Nat.ble M 23 then (bif Nat.ble M 22 then 4 else 5) else (bif Nat.ble M 24 then 3 else 2)) else (bif Nat.ble M 27 then (bif Nat.ble M 26 then 2 else 3) else (bif Nat.ble M 28 then 3 else 3))))) else (bif Nat.ble M 44 then (bif Nat.ble M 36 then (bif Nat.ble M 32 then (bif Nat.ble M 30 then 2 else (bif Nat.ble M 31 then 5 else 2)) else (bif Nat.ble M 34 then (bif Nat.ble M 33 then 3 else 3) else (bif Nat.ble M 35 then 3 else 3))) else (bif Nat.ble M 40 then (bif Nat.ble M 38 then (bif Nat.ble M 37 then 3 else 3) else (bif Nat.ble M 39 then 4 else 3)) else (bif Nat.ble M 42 then (bif Nat.ble M 41 then 4 else 4) else (bif Nat.ble M 43 then 3 else 5)))) else (bif Nat.ble M 51 then (bif Nat.ble M 47 then (bif Nat.ble M 45 then 5 else (bif Nat.ble M 46 then 4 else 1)) else (bif Nat.ble M 49 then (bif Nat.ble M 48 then 1 else 2) else (bif Nat.ble M 50 then 1 else 3))) else (bif Nat.ble M 55 then (bif Nat.ble M 53 then (bif Nat.ble M 52 then 2 else 4) else (bif Nat.ble M 54 then 2 else 5)) else (bif Nat.ble M 57 then (bif Nat.ble M 56 then 2 else 1) else (bif Nat.ble M 58 then 2 else 2)))))) else (bif Nat.ble M 89 then (bif Nat.ble M 74 then (bif Nat.ble M 66 then (bif Nat.ble M 62 then (bif Nat.ble M 60 then 2 else (bif Nat.ble M 61 then 1 else 7)) else (bif Nat.ble M 64 then (bif Nat.ble M 63 then 3 else 2) else (bif Nat.ble M 65 then 2 else 2))) else (bif Nat.ble M 70 then (bif Nat.ble M 68 then (bif Nat.ble M 67 then 3 else 4) else (bif Nat.ble M 69 then 6 else 4)) else (bif Nat.ble M 72 then (bif Nat.ble M 71 then 5 else 3) else (bif Nat.ble M 73 then 5 else 2)))) else (bif Nat.ble M 81 then (bif Nat.ble M 77 then (bif Nat.ble M 75 then 6 else (bif Nat.ble M 76 then 6 else 1)) else (bif Nat.ble M 79 then (bif Nat.ble M 78 then 1 else 3) else (bif Nat.ble M 80 then 2 else 3))) else (bif Nat.ble M 85 then (bif Nat.ble M 83 then (bif Nat.ble M 82 then 4 else 4) else (bif Nat.ble M 84 then 6 else 5)) else (bif Nat.ble M 87 then (bif Nat.ble M 86 then 4 else 3) else (bif Nat.ble M 88 then 7 else 6))))) else (bif Nat.ble M 104 then (bif Nat.ble M 96 then (bif Nat.ble M 92 then (bif Nat.ble M 90 then 6 else (bif Nat.ble M 91 then 3 else 4)) else (bif Nat.ble M 94 then (bif Nat.ble M 93 then 5 else 5) else (bif Nat.ble M 95 then 5 else 6))) else (bif Nat.ble M 100 then (bif Nat.ble M 98 then (bif Nat.ble M 97 then 4 else 3) else (bif Nat.ble M 99 then 1 else 11)) else (bif Nat.ble M 102 then (bif Nat.ble M 101 then 4 else 5) else (bif Nat.ble M 103 then 5 else 6)))) else (bif Nat.ble M 112 then (bif Nat.ble M 108 then (bif Nat.ble M 106 then (bif Nat.ble M 105 then 2 else 4) else (bif Nat.ble M 107 then 5 else 7)) else (bif Nat.ble M 110 then (bif Nat.ble M 109 then 2 else 2) else (bif Nat.ble M 111 then 2 else 1))) else (bif Nat.ble M 116 then (bif Nat.ble M 114 then (bif Nat.ble M 113 then 1 else 3) else (bif Nat.ble M 115 then 3 else 4)) else (bif Nat.ble M 118 then (bif Nat.ble M 117 then 4 else 4) else (bif Nat.ble M 119 then 3 else 3))))))) else (bif Nat.ble M 181 then (bif Nat.ble M 150 then (bif Nat.ble M 135 then (bif Nat.ble M 127 then (bif Nat.ble M 123 then (bif Nat.ble M 121 then 3 else (bif Nat.ble M 122 then 4 else 3)) else (bif Nat.ble M 125 then (bif Nat.ble M 124 then 2 else 3) else (bif Nat.ble M 126 then 3 else 2))) else (bif Nat.ble M 131 then (bif Nat.ble M 129 then (bif Nat.ble M 128 then 4 else 5) else (bif Nat.ble M 130 then 4 else 3)) else (bif Nat.ble M 133 then (bif Nat.ble M 132 then 2 else 1) else (bif Nat.ble M 134 then 4 else 7)))) else (bif Nat.ble M 142 then (bif Nat.ble M 138 then (bif Nat.ble M 136 then 7 else (bif Nat.ble M 137 then 5 else 12)) else (bif Nat.ble M 140 then (bif Nat.ble M 139 then 4 else 2) else (bif Nat.ble M 141 then 2 else 2))) else (bif Nat.ble M 146 then (bif Nat.ble M 144 then (bif Nat.ble M 143 then 3 else 3) else (bif Nat.ble M 145 then 2 else 2)) else (bif Nat.ble M 148 then (bif Nat.ble M 147 then 1 else 2) else (bif Nat.ble M 149 then 2 else 3))))) else (bif Nat.ble M 165 then (bif Nat.ble M 157 then (bif Nat.ble M 153 then (bif Nat.ble M 151 then 2 else (bif Nat.ble M 152 then 2 else 4)) else (bif Nat.ble M 155 then (bif Nat.ble M 154 then 11 else 1) else (bif Nat.ble M 156 then 6 else 2))) else (bif Nat.ble M 161 then (bif Nat.ble M 159 then (bif Nat.ble M 158 then 1 else 5) else (bif Nat.ble M 160 then 4 else 9)) else (bif Nat.ble M 163 then (bif Nat.ble M 162 then 2 else 2) else (bif Nat.ble M 164 then 2 else 1)))) else (bif Nat.ble M 173 then (bif Nat.ble M 169 then (bif Nat.ble M 167 then (bif Nat.ble M 166 then 2 else 2) else (bif Nat.ble M 168 then 4 else 2)) else (bif Nat.ble M 171 then (bif Nat.ble M 170 then 1 else 1) else (bif Nat.ble M 172 then 1 else 1))) else (bif Nat.ble M 177 then (bif Nat.ble M 175 then (bif Nat.ble M 174 then 1 else 5) else (bif Nat.ble M 176 then 6 else 3)) else (bif Nat.ble M 179 then (bif Nat.ble M 178 then 1 else 2) else (bif Nat.ble M 180 then 2 else 2)))))) else (bif Nat.ble M 211 then (bif Nat.ble M 196 then (bif Nat.ble M 188 then (bif Nat.ble M 184 then (bif Nat.ble M 182 then 3 else (bif Nat.ble M 183 then 2 else 3)) else (bif Nat.ble M 186 then (bif Nat.ble M 185 then 3 else 2) else (bif Nat.ble M 187 then 3 else 5))) else (bif Nat.ble M 192 then (bif Nat.ble M 190 then (bif Nat.ble M 189 then 3 else 6) else (bif Nat.ble M 191 then 5 else 4)) else (bif Nat.ble M 194 then (bif Nat.ble M 193 then 2 else 3) else (bif Nat.ble M 195 then 4 else 2)))) else (bif Nat.ble M 203 then (bif Nat.ble M 199 then (bif Nat.ble M 197 then 3 else (bif Nat.ble M 198 then 3 else 4)) else (bif Nat.ble M 201 then (bif Nat.ble M 200 then 4 else 4) else (bif Nat.ble M 202 then 2 else 5))) else (bif Nat.ble M 207 then (bif Nat.ble M 205 then (bif Nat.ble M 204 then 3 else 6) else (bif Nat.ble M 206 then 4 else 3)) else (bif Nat.ble M 209 then (bif Nat.ble M 208 then 3 else 2) else (bif Nat.ble M 210 then 4 else 4))))) else (bif Nat.ble M 226 then (bif Nat.ble M 218 then (bif Nat.ble M 214 then (bif Nat.ble M 212 then 4 else (bif Nat.ble M 213 then 9 else 8)) else (bif Nat.ble M 216 then (bif Nat.ble M 215 then 8 else 7) else (bif Nat.ble M 217 then 4 else 2))) else (bif Nat.ble M 222 then (bif Nat.ble M 220 then (bif Nat.ble M 219 then 3 else 5) else (bif Nat.ble M 221 then 6 else 4)) else (bif Nat.ble M 224 then (bif Nat.ble M 223 then 10 else 9) else (bif Nat.ble M 225 then 7 else 17)))) else (bif Nat.ble M 234 then (bif Nat.ble M 230 then (bif Nat.ble M 228 then (bif Nat.ble M 227 then 8 else 3) else (bif Nat.ble M 229 then 3 else 2)) else (bif Nat.ble M 232 then (bif Nat.ble M 231 then 2 else 3) else (bif Nat.ble M 233 then 2 else 2))) else (bif Nat.ble M 238 then (bif Nat.ble M 236 then (bif Nat.ble M 235 then 4 else 4) else (bif Nat.ble M 237 then 4 else 3)) else (bif Nat.ble M 240 then (bif Nat.ble M 239 then 2 else 4) else (bif Nat.ble M 241 then 1 else 4))))))))
/-- what it gives: 0 nothing, 1 an int, 2 a long, 3 a boolean -/
def mrk : Nat → Nat := fun M => (bif Nat.ble M 120 then (bif Nat.ble M 59 then (bif Nat.ble M 29 then (bif Nat.ble M 14 then (bif Nat.ble M 6 then (bif Nat.ble M 2 then (bif Nat.ble M 0 then 1 else (bif Nat.ble M 1 then 1 else 1)) else (bif Nat.ble M 4 then (bif Nat.ble M 3 then 0 else 0) else (bif Nat.ble M 5 then 0 else 0))) else (bif Nat.ble M 10 then (bif Nat.ble M 8 then (bif Nat.ble M 7 then 0 else 1) else (bif Nat.ble M 9 then 1 else 1)) else (bif Nat.ble M 12 then (bif Nat.ble M 11 then 1 else 0) else (bif Nat.ble M 13 then 1 else 0)))) else (bif Nat.ble M 21 then (bif Nat.ble M 17 then (bif Nat.ble M 15 then 3 else (bif Nat.ble M 16 then 3 else 3)) else (bif Nat.ble M 19 then (bif Nat.ble M 18 then 3 else 3) else (bif Nat.ble M 20 then 0 else 0))) else (bif Nat.ble M 25 then (bif Nat.ble M 23 then (bif Nat.ble M 22 then 0 else 0) else (bif Nat.ble M 24 then 0 else 0)) else (bif Nat.ble M 27 then (bif Nat.ble M 26 then 0 else 3) else (bif Nat.ble M 28 then 1 else 3))))) else (bif Nat.ble M 44 then (bif Nat.ble M 36 then (bif Nat.ble M 32 then (bif Nat.ble M 30 then 3 else (bif Nat.ble M 31 then 1 else 0)) else (bif Nat.ble M 34 then (bif Nat.ble M 33 then 0 else 0) else (bif Nat.ble M 35 then 0 else 1))) else (bif Nat.ble M 40 then (bif Nat.ble M 38 then (bif Nat.ble M 37 then 1 else 3) else (bif Nat.ble M 39 then 1 else 1)) else (bif Nat.ble M 42 then (bif Nat.ble M 41 then 1 else 1) else (bif Nat.ble M 43 then 1 else 1)))) else (bif Nat.ble M 51 then (bif Nat.ble M 47 then (bif Nat.ble M 45 then 1 else (bif Nat.ble M 46 then 1 else 0)) else (bif Nat.ble M 49 then (bif Nat.ble M 48 then 3 else 1) else (bif Nat.ble M 50 then 1 else 0))) else (bif Nat.ble M 55 then (bif Nat.ble M 53 then (bif Nat.ble M 52 then 0 else 0) else (bif Nat.ble M 54 then 0 else 0)) else (bif Nat.ble M 57 then (bif Nat.ble M 56 then 0 else 1) else (bif Nat.ble M 58 then 1 else 0)))))) else (bif Nat.ble M 89 then (bif Nat.ble M 74 then (bif Nat.ble M 66 then (bif Nat.ble M 62 then (bif Nat.ble M 60 then 1 else (bif Nat.ble M 61 then 1 else 1)) else (bif Nat.ble M 64 then (bif Nat.ble M 63 then 1 else 0) else (bif Nat.ble M 65 then 3 else 3))) else (bif Nat.ble M 70 then (bif Nat.ble M 68 then (bif Nat.ble M 67 then 1 else 1) else (bif Nat.ble M 69 then 1 else 3)) else (bif Nat.ble M 72 then (bif Nat.ble M 71 then 0 else 1) else (bif Nat.ble M 73 then 1 else 1)))) else (bif Nat.ble M 81 then (bif Nat.ble M 77 then (bif Nat.ble M 75 then 0 else (bif Nat.ble M 76 then 0 else 0)) else (bif Nat.ble M 79 then (bif Nat.ble M 78 then 0 else 0) else (bif Nat.ble M 80 then 0 else 1))) else (bif Nat.ble M 85 then (bif Nat.ble M 83 then (bif Nat.ble M 82 then 1 else 1) else (bif Nat.ble M 84 then 1 else 3)) else (bif Nat.ble M 87 then (bif Nat.ble M 86 then 0 else 3) else (bif Nat.ble M 88 then 1 else 3))))) else (bif Nat.ble M 104 then (bif Nat.ble M 96 then (bif Nat.ble M 92 then (bif Nat.ble M 90 then 1 else (bif Nat.ble M 91 then 1 else 3)) else (bif Nat.ble M 94 then (bif Nat.ble M 93 then 1 else 1) else (bif Nat.ble M 95 then 1 else 1))) else (bif Nat.ble M 100 then (bif Nat.ble M 98 then (bif Nat.ble M 97 then 1 else 1) else (bif Nat.ble M 99 then 2 else 2)) else (bif Nat.ble M 102 then (bif Nat.ble M 101 then 2 else 3) else (bif Nat.ble M 103 then 2 else 0)))) else (bif Nat.ble M 112 then (bif Nat.ble M 108 then (bif Nat.ble M 106 then (bif Nat.ble M 105 then 0 else 1) else (bif Nat.ble M 107 then 1 else 1)) else (bif Nat.ble M 110 then (bif Nat.ble M 109 then 1 else 1) else (bif Nat.ble M 111 then 1 else 1))) else (bif Nat.ble M 116 then (bif Nat.ble M 114 then (bif Nat.ble M 113 then 1 else 1) else (bif Nat.ble M 115 then 1 else 1)) else (bif Nat.ble M 118 then (bif Nat.ble M 117 then 1 else 1) else (bif Nat.ble M 119 then 1 else 1))))))) else (bif Nat.ble M 181 then (bif Nat.ble M 150 then (bif Nat.ble M 135 then (bif Nat.ble M 127 then (bif Nat.ble M 123 then (bif Nat.ble M 121 then 1 else (bif Nat.ble M 122 then 1 else 1)) else (bif Nat.ble M 125 then (bif Nat.ble M 124 then 1 else 1) else (bif Nat.ble M 126 then 1 else 1))) else (bif Nat.ble M 131 then (bif Nat.ble M 129 then (bif Nat.ble M 128 then 1 else 1) else (bif Nat.ble M 130 then 1 else 1)) else (bif Nat.ble M 133 then (bif Nat.ble M 132 then 1 else 1) else (bif Nat.ble M 134 then 1 else 1)))) else (bif Nat.ble M 142 then (bif Nat.ble M 138 then (bif Nat.ble M 136 then 1 else (bif Nat.ble M 137 then 1 else 2)) else (bif Nat.ble M 140 then (bif Nat.ble M 139 then 1 else 1) else (bif Nat.ble M 141 then 1 else 1))) else (bif Nat.ble M 146 then (bif Nat.ble M 144 then (bif Nat.ble M 143 then 1 else 1) else (bif Nat.ble M 145 then 1 else 1)) else (bif Nat.ble M 148 then (bif Nat.ble M 147 then 1 else 1) else (bif Nat.ble M 149 then 1 else 3))))) else (bif Nat.ble M 165 then (bif Nat.ble M 157 then (bif Nat.ble M 153 then (bif Nat.ble M 151 then 3 else (bif Nat.ble M 152 then 1 else 3)) else (bif Nat.ble M 155 then (bif Nat.ble M 154 then 2 else 0) else (bif Nat.ble M 156 then 3 else 1))) else (bif Nat.ble M 161 then (bif Nat.ble M 159 then (bif Nat.ble M 158 then 3 else 1) else (bif Nat.ble M 160 then 1 else 1)) else (bif Nat.ble M 163 then (bif Nat.ble M 162 then 1 else 1) else (bif Nat.ble M 164 then 0 else 0)))) else (bif Nat.ble M 173 then (bif Nat.ble M 169 then (bif Nat.ble M 167 then (bif Nat.ble M 166 then 0 else 3) else (bif Nat.ble M 168 then 1 else 0)) else (bif Nat.ble M 171 then (bif Nat.ble M 170 then 0 else 3) else (bif Nat.ble M 172 then 1 else 1))) else (bif Nat.ble M 177 then (bif Nat.ble M 175 then (bif Nat.ble M 174 then 3 else 0) else (bif Nat.ble M 176 then 0 else 1)) else (bif Nat.ble M 179 then (bif Nat.ble M 178 then 3 else 3) else (bif Nat.ble M 180 then 3 else 3)))))) else (bif Nat.ble M 211 then (bif Nat.ble M 196 then (bif Nat.ble M 188 then (bif Nat.ble M 184 then (bif Nat.ble M 182 then 1 else (bif Nat.ble M 183 then 3 else 1)) else (bif Nat.ble M 186 then (bif Nat.ble M 185 then 1 else 3) else (bif Nat.ble M 187 then 3 else 3))) else (bif Nat.ble M 192 then (bif Nat.ble M 190 then (bif Nat.ble M 189 then 1 else 1) else (bif Nat.ble M 191 then 0 else 0)) else (bif Nat.ble M 194 then (bif Nat.ble M 193 then 0 else 1) else (bif Nat.ble M 195 then 0 else 0)))) else (bif Nat.ble M 203 then (bif Nat.ble M 199 then (bif Nat.ble M 197 then 1 else (bif Nat.ble M 198 then 1 else 1)) else (bif Nat.ble M 201 then (bif Nat.ble M 200 then 1 else 1) else (bif Nat.ble M 202 then 1 else 1))) else (bif Nat.ble M 207 then (bif Nat.ble M 205 then (bif Nat.ble M 204 then 1 else 1) else (bif Nat.ble M 206 then 1 else 1)) else (bif Nat.ble M 209 then (bif Nat.ble M 208 then 1 else 1) else (bif Nat.ble M 210 then 1 else 1))))) else (bif Nat.ble M 226 then (bif Nat.ble M 218 then (bif Nat.ble M 214 then (bif Nat.ble M 212 then 1 else (bif Nat.ble M 213 then 1 else 1)) else (bif Nat.ble M 216 then (bif Nat.ble M 215 then 1 else 1) else (bif Nat.ble M 217 then 1 else 1))) else (bif Nat.ble M 222 then (bif Nat.ble M 220 then (bif Nat.ble M 219 then 1 else 1) else (bif Nat.ble M 221 then 3 else 1)) else (bif Nat.ble M 224 then (bif Nat.ble M 223 then 1 else 1) else (bif Nat.ble M 225 then 1 else 2)))) else (bif Nat.ble M 234 then (bif Nat.ble M 230 then (bif Nat.ble M 228 then (bif Nat.ble M 227 then 1 else 1) else (bif Nat.ble M 229 then 1 else 3)) else (bif Nat.ble M 232 then (bif Nat.ble M 231 then 1 else 1) else (bif Nat.ble M 233 then 0 else 1))) else (bif Nat.ble M 238 then (bif Nat.ble M 236 then (bif Nat.ble M 235 then 1 else 1) else (bif Nat.ble M 237 then 1 else 1)) else (bif Nat.ble M 240 then (bif Nat.ble M 239 then 1 else 1) else (bif Nat.ble M 241 then 1 else 3))))))))
def minit : Nat → Bool := fun M => (bif Nat.ble M 120 then (bif Nat.ble M 59 then (bif Nat.ble M 29 then (bif Nat.ble M 14 then (bif Nat.ble M 6 then (bif Nat.ble M 2 then (bif Nat.ble M 0 then false else (bif Nat.ble M 1 then false else false)) else (bif Nat.ble M 4 then (bif Nat.ble M 3 then true else false) else (bif Nat.ble M 5 then false else false))) else (bif Nat.ble M 10 then (bif Nat.ble M 8 then (bif Nat.ble M 7 then true else false) else (bif Nat.ble M 9 then false else false)) else (bif Nat.ble M 12 then (bif Nat.ble M 11 then false else false) else (bif Nat.ble M 13 then false else true)))) else (bif Nat.ble M 21 then (bif Nat.ble M 17 then (bif Nat.ble M 15 then false else (bif Nat.ble M 16 then false else false)) else (bif Nat.ble M 19 then (bif Nat.ble M 18 then false else false) else (bif Nat.ble M 20 then false else false))) else (bif Nat.ble M 25 then (bif Nat.ble M 23 then (bif Nat.ble M 22 then false else false) else (bif Nat.ble M 24 then false else false)) else (bif Nat.ble M 27 then (bif Nat.ble M 26 then false else false) else (bif Nat.ble M 28 then false else false))))) else (bif Nat.ble M 44 then (bif Nat.ble M 36 then (bif Nat.ble M 32 then (bif Nat.ble M 30 then false else (bif Nat.ble M 31 then false else false)) else (bif Nat.ble M 34 then (bif Nat.ble M 33 then false else false) else (bif Nat.ble M 35 then false else false))) else (bif Nat.ble M 40 then (bif Nat.ble M 38 then (bif Nat.ble M 37 then false else false) else (bif Nat.ble M 39 then false else false)) else (bif Nat.ble M 42 then (bif Nat.ble M 41 then false else false) else (bif Nat.ble M 43 then false else false)))) else (bif Nat.ble M 51 then (bif Nat.ble M 47 then (bif Nat.ble M 45 then false else (bif Nat.ble M 46 then false else true)) else (bif Nat.ble M 49 then (bif Nat.ble M 48 then false else false) else (bif Nat.ble M 50 then false else false))) else (bif Nat.ble M 55 then (bif Nat.ble M 53 then (bif Nat.ble M 52 then false else false) else (bif Nat.ble M 54 then false else false)) else (bif Nat.ble M 57 then (bif Nat.ble M 56 then false else false) else (bif Nat.ble M 58 then false else false)))))) else (bif Nat.ble M 89 then (bif Nat.ble M 74 then (bif Nat.ble M 66 then (bif Nat.ble M 62 then (bif Nat.ble M 60 then false else (bif Nat.ble M 61 then false else false)) else (bif Nat.ble M 64 then (bif Nat.ble M 63 then false else true) else (bif Nat.ble M 65 then false else false))) else (bif Nat.ble M 70 then (bif Nat.ble M 68 then (bif Nat.ble M 67 then false else false) else (bif Nat.ble M 69 then false else false)) else (bif Nat.ble M 72 then (bif Nat.ble M 71 then false else false) else (bif Nat.ble M 73 then false else false)))) else (bif Nat.ble M 81 then (bif Nat.ble M 77 then (bif Nat.ble M 75 then false else (bif Nat.ble M 76 then false else true)) else (bif Nat.ble M 79 then (bif Nat.ble M 78 then false else false) else (bif Nat.ble M 80 then false else false))) else (bif Nat.ble M 85 then (bif Nat.ble M 83 then (bif Nat.ble M 82 then false else false) else (bif Nat.ble M 84 then false else false)) else (bif Nat.ble M 87 then (bif Nat.ble M 86 then false else false) else (bif Nat.ble M 88 then false else false))))) else (bif Nat.ble M 104 then (bif Nat.ble M 96 then (bif Nat.ble M 92 then (bif Nat.ble M 90 then false else (bif Nat.ble M 91 then false else false)) else (bif Nat.ble M 94 then (bif Nat.ble M 93 then false else false) else (bif Nat.ble M 95 then false else false))) else (bif Nat.ble M 100 then (bif Nat.ble M 98 then (bif Nat.ble M 97 then false else false) else (bif Nat.ble M 99 then false else false)) else (bif Nat.ble M 102 then (bif Nat.ble M 101 then false else false) else (bif Nat.ble M 103 then false else false)))) else (bif Nat.ble M 112 then (bif Nat.ble M 108 then (bif Nat.ble M 106 then (bif Nat.ble M 105 then true else false) else (bif Nat.ble M 107 then false else false)) else (bif Nat.ble M 110 then (bif Nat.ble M 109 then false else false) else (bif Nat.ble M 111 then false else false))) else (bif Nat.ble M 116 then (bif Nat.ble M 114 then (bif Nat.ble M 113 then false else false) else (bif Nat.ble M 115 then false else false)) else (bif Nat.ble M 118 then (bif Nat.ble M 117 then false else false) else (bif Nat.ble M 119 then false else false))))))) else (bif Nat.ble M 181 then (bif Nat.ble M 150 then (bif Nat.ble M 135 then (bif Nat.ble M 127 then (bif Nat.ble M 123 then (bif Nat.ble M 121 then false else (bif Nat.ble M 122 then false else false)) else (bif Nat.ble M 125 then (bif Nat.ble M 124 then false else false) else (bif Nat.ble M 126 then false else false))) else (bif Nat.ble M 131 then (bif Nat.ble M 129 then (bif Nat.ble M 128 then false else false) else (bif Nat.ble M 130 then false else false)) else (bif Nat.ble M 133 then (bif Nat.ble M 132 then false else false) else (bif Nat.ble M 134 then false else false)))) else (bif Nat.ble M 142 then (bif Nat.ble M 138 then (bif Nat.ble M 136 then false else (bif Nat.ble M 137 then false else false)) else (bif Nat.ble M 140 then (bif Nat.ble M 139 then false else false) else (bif Nat.ble M 141 then false else false))) else (bif Nat.ble M 146 then (bif Nat.ble M 144 then (bif Nat.ble M 143 then false else false) else (bif Nat.ble M 145 then false else false)) else (bif Nat.ble M 148 then (bif Nat.ble M 147 then false else false) else (bif Nat.ble M 149 then false else false))))) else (bif Nat.ble M 165 then (bif Nat.ble M 157 then (bif Nat.ble M 153 then (bif Nat.ble M 151 then false else (bif Nat.ble M 152 then false else false)) else (bif Nat.ble M 155 then (bif Nat.ble M 154 then false else true) else (bif Nat.ble M 156 then false else false))) else (bif Nat.ble M 161 then (bif Nat.ble M 159 then (bif Nat.ble M 158 then false else false) else (bif Nat.ble M 160 then false else false)) else (bif Nat.ble M 163 then (bif Nat.ble M 162 then false else false) else (bif Nat.ble M 164 then false else false)))) else (bif Nat.ble M 173 then (bif Nat.ble M 169 then (bif Nat.ble M 167 then (bif Nat.ble M 166 then false else false) else (bif Nat.ble M 168 then false else false)) else (bif Nat.ble M 171 then (bif Nat.ble M 170 then false else false) else (bif Nat.ble M 172 then false else false))) else (bif Nat.ble M 177 then (bif Nat.ble M 175 then (bif Nat.ble M 174 then false else false) else (bif Nat.ble M 176 then false else false)) else (bif Nat.ble M 179 then (bif Nat.ble M 178 then false else false) else (bif Nat.ble M 180 then false else false)))))) else (bif Nat.ble M 211 then (bif Nat.ble M 196 then (bif Nat.ble M 188 then (bif Nat.ble M 184 then (bif Nat.ble M 182 then false else (bif Nat.ble M 183 then false else false)) else (bif Nat.ble M 186 then (bif Nat.ble M 185 then false else false) else (bif Nat.ble M 187 then false else false))) else (bif Nat.ble M 192 then (bif Nat.ble M 190 then (bif Nat.ble M 189 then false else false) else (bif Nat.ble M 191 then false else false)) else (bif Nat.ble M 194 then (bif Nat.ble M 193 then false else false) else (bif Nat.ble M 195 then false else false)))) else (bif Nat.ble M 203 then (bif Nat.ble M 199 then (bif Nat.ble M 197 then false else (bif Nat.ble M 198 then false else false)) else (bif Nat.ble M 201 then (bif Nat.ble M 200 then false else false) else (bif Nat.ble M 202 then false else false))) else (bif Nat.ble M 207 then (bif Nat.ble M 205 then (bif Nat.ble M 204 then false else false) else (bif Nat.ble M 206 then false else false)) else (bif Nat.ble M 209 then (bif Nat.ble M 208 then false else false) else (bif Nat.ble M 210 then false else false))))) else (bif Nat.ble M 226 then (bif Nat.ble M 218 then (bif Nat.ble M 214 then (bif Nat.ble M 212 then false else (bif Nat.ble M 213 then false else false)) else (bif Nat.ble M 216 then (bif Nat.ble M 215 then false else false) else (bif Nat.ble M 217 then false else false))) else (bif Nat.ble M 222 then (bif Nat.ble M 220 then (bif Nat.ble M 219 then false else false) else (bif Nat.ble M 221 then false else false)) else (bif Nat.ble M 224 then (bif Nat.ble M 223 then false else false) else (bif Nat.ble M 225 then false else false)))) else (bif Nat.ble M 234 then (bif Nat.ble M 230 then (bif Nat.ble M 228 then (bif Nat.ble M 227 then false else false) else (bif Nat.ble M 229 then false else false)) else (bif Nat.ble M 232 then (bif Nat.ble M 231 then false else false) else (bif Nat.ble M 233 then false else false))) else (bif Nat.ble M 238 then (bif Nat.ble M 236 then (bif Nat.ble M 235 then false else false) else (bif Nat.ble M 237 then false else false)) else (bif Nat.ble M 240 then (bif Nat.ble M 239 then false else false) else (bif Nat.ble M 241 then false else false))))))))
/-- a new object: its slots -/
def mdef : Nat → List (Option (Option Nat)) := fun c => (bif Nat.ble c 3 then (bif Nat.ble c 1 then (bif Nat.ble c 0 then [none, some none, none] else [some none, none]) else (bif Nat.ble c 2 then [none, none, none, none, some none, some none, some none, some none, some none, some none, some none, some none, none, none, some none] else [some none, none, none, some none, none, none])) else (bif Nat.ble c 5 then (bif Nat.ble c 4 then [some none, some none, some none] else [some none, some none, some none]) else (bif Nat.ble c 6 then [some none, some none, some none, some none, some none, some none, some none, none] else [none, none, some none, some none, some none, some none, some none, some none, some none, none, some none, none, none, none, none, none, none, none, none, none, none, none, some none, some none, some none, some none, none])))
end
section
/-! THE MINI MACHINE: ints are mathematical integers, references are small numbers, the heap is a layout and a store -/
abbrev mmV : Type := Int ⊕ Int ⊕ Nat ⊕ Unit
abbrev mI (z : Int) : mmV := .inl z
abbrev mL (z : Int) : mmV := .inr (.inl z)
abbrev mR (k : Nat) : mmV := .inr (.inr (.inl k))
abbrev mJ : mmV := .inr (.inr (.inr ()))
/-- a cell: numbers (booleans?, length); references (0: of counties, 1: of int arrays); an object (class, per slot: none an int, some a reference) -/
abbrev mmC : Type := (Bool × Nat) ⊕ (Nat × List (Option Nat)) ⊕ (Nat × List (Option (Option Nat)))
abbrev mmSt : Type := Nat → Nat → Int
/-- cells, slots, layout -/
abbrev mmL : Type := Nat × Nat × (Nat → mmC)
/-- depth, method, place, locals, stack, store -/
abbrev mmX : Type := Nat × Nat × Nat × List mmV × List mmV × mmSt
abbrev mmY : Type := mmSt × Int
/-- what a step comes to: nothing; an end (if); a state; one of two; a state (if); a call; one of many -/
abbrev gS (X Y : Type) : Type := Unit ⊕ (Bool × Y) ⊕ X ⊕ (Bool × X × X) ⊕ (Bool × X) ⊕ (X × (Y → X)) ⊕ (Int × List (Int × X) × X)
abbrev mmS : Type := gS mmX mmY
abbrev rFail {X Y : Type} : gS X Y := .inl ()
abbrev rRet {X Y : Type} (c : Bool) (y : Y) : gS X Y := .inr (.inl (c, y))
abbrev rNext {X Y : Type} (x : X) : gS X Y := .inr (.inr (.inl x))
abbrev rBr {X Y : Type} (c : Bool) (x y : X) : gS X Y := .inr (.inr (.inr (.inl (c, x, y))))
abbrev rChk {X Y : Type} (c : Bool) (x : X) : gS X Y := .inr (.inr (.inr (.inr (.inl (c, x)))))
abbrev rCall {X Y : Type} (x : X) (k : Y → X) : gS X Y := .inr (.inr (.inr (.inr (.inr (.inl (x, k))))))
abbrev rSw {X Y : Type} (v : Int) (l : List (Int × X)) (d : X) : gS X Y := .inr (.inr (.inr (.inr (.inr (.inr (v, l, d))))))
def mwrap (z : Int) : Int := z.bmod 4294967296
def mwrapL (z : Int) : Int := z.bmod 18446744073709551616
def mand (x y : Int) : Int := (Int32.ofInt x &&& Int32.ofInt y).toInt
def mor (x y : Int) : Int := (Int32.ofInt x ||| Int32.ofInt y).toInt
def mxor (x y : Int) : Int := (Int32.ofInt x ^^^ Int32.ofInt y).toInt
def mshl (x y : Int) : Int := (Int32.ofInt x <<< (Int32.ofInt y &&& 31)).toInt
def mshr (x y : Int) : Int := (Int32.ofInt x >>> (Int32.ofInt y &&& 31)).toInt
def mushr (x y : Int) : Int := ((Int32.ofInt x).toUInt32 >>> ((Int32.ofInt y).toUInt32 &&& Int32.toUInt32 31)).toInt32.toInt
def mi2b (x : Int) : Int := (Int32.ofInt x).toInt8.toInt32.toInt
def mi2s (x : Int) : Int := (Int32.ofInt x).toInt16.toInt32.toInt
def mlcmp (x y : Int) : Int := if y < x then 1 else if x = y then 0 else -1
def minb (i : Int) (n : Nat) : Bool := decide (0 ≤ i) && decide (i < (n : Int))
def mup (σ : mmSt) (a i : Nat) (v : Int) : mmSt := fun b j => if b = a ∧ j = i then v else σ b j
def mzero (σ : mmSt) (a : Nat) : mmSt := fun b j => if b = a then 0 else σ b j
/-- n places of a from s on come to b from t on -/
def mcpy (σ : mmSt) (a s b t n : Nat) : mmSt := fun c j => if c = b ∧ t ≤ j ∧ j < t + n then σ a (s + (j - t)) else σ c j
def mlay (f : Nat → mmC) (a : Nat) (c : mmC) : Nat → mmC := fun b => if b = a then c else f b
def mword : mmV → Nat
  | .inr (.inl _) => 2
  | _ => 1
def mwords : List mmV → Nat
  | [] => 0
  | v :: l => mword v + mwords l
/-- a long stands ahead of junk -/
def mst1 (L : List mmV) (k : Nat) (v : mmV) : List mmV := L.set k v
def mst2 (L : List mmV) (k : Nat) (v : mmV) : List mmV := (L.set k v).set (k + 1) mJ
def mslots : List mmV → List mmV
  | [] => []
  | .inr (.inl z) :: l => .inr (.inl z) :: mJ :: mslots l
  | v :: l => v :: mslots l
def mframe (args : List mmV) (maxL : Nat) : List mmV := mslots args ++ List.replicate (maxL - (mslots args).length) mJ
def misObj (ly : mmL) (ci : Nat) : mmV → Bool
  | .inr (.inr (.inl o)) => match ly.2.2 o with
    | .inr (.inr (c, _)) => c == ci && Nat.ble 4 o && Nat.blt o ly.1
    | _ => false
  | _ => false
def mbin (f : Int → Int → Int) (S : List mmV) (k : List mmV → mmS) : mmS := match S with
  | .inl y :: .inl x :: S => k (mI (f x y) :: S)
  | _ => rFail
def mun (f : Int → Int) (S : List mmV) (k : List mmV → mmS) : mmS := match S with
  | .inl x :: S => k (mI (f x) :: S)
  | _ => rFail
def mbinL (f : Int → Int → Int) (S : List mmV) (k : List mmV → mmS) : mmS := match S with
  | .inr (.inl y) :: .inr (.inl x) :: S => k (mL (f x y) :: S)
  | _ => rFail
def micond : Jvm.ClassFile.Cond → Int → Int → Bool
  | .eq, x, y => decide (x = y)
  | .ne, x, y => decide (¬ x = y)
  | .lt, x, y => decide (x < y)
  | .ge, x, y => decide (y ≤ x)
  | .gt, x, y => decide (y < x)
  | .le, x, y => decide (x ≤ y)
def mldi (L S : List mmV) (k : Nat) (f : List mmV → mmS) : mmS := match L.getD k mJ with
  | .inl z => f (mI z :: S)
  | _ => rFail
def mldl (L S : List mmV) (k : Nat) (f : List mmV → mmS) : mmS := match L.getD k mJ, L.getD (k + 1) mJ with
  | .inr (.inl z), .inr (.inr (.inr _)) => f (mL z :: S)
  | _, _ => rFail
def mlda (L S : List mmV) (k : Nat) (f : List mmV → mmS) : mmS := match L.getD k mJ with
  | .inr (.inr (.inl r)) => f (mR r :: S)
  | _ => rFail
def msti (L S : List mmV) (k : Nat) (f : List mmV → List mmV → mmS) : mmS := match S with
  | .inl z :: S => bif Nat.blt k L.length then f (mst1 L k (mI z)) S else rFail
  | _ => rFail
def mstl (L S : List mmV) (k : Nat) (f : List mmV → List mmV → mmS) : mmS := match S with
  | .inr (.inl z) :: S => bif Nat.blt (k + 1) L.length then f (mst2 L k (mL z)) S else rFail
  | _ => rFail
def msta (L S : List mmV) (k : Nat) (f : List mmV → List mmV → mmS) : mmS := match S with
  | .inr (.inr (.inl r)) :: S => bif Nat.blt k L.length then f (mst1 L k (mR r)) S else rFail
  | _ => rFail
/-- a field is read: class ci, slot k -/
def mgetf (ly : mmL) (ci k : Nat) (S : List mmV) (σ : mmSt) (f : List mmV → mmS) : mmS := match S with
  | .inr (.inr (.inl o)) :: S => bif Nat.ble 4 o && Nat.blt o ly.1 then (match ly.2.2 o with
    | .inr (.inr (c, fs)) => bif c == ci then (match fs[k]? with
      | some none => f (mI (σ o k) :: S)
      | some (some (some r)) => f (mR r :: S)
      | _ => rFail) else rFail
    | _ => rFail) else rFail
  | _ => rFail
def mputf (ly : mmL) (ci k : Nat) (S : List mmV) (σ : mmSt) (f : List mmV → mmSt → mmS) : mmS := match S with
  | .inl z :: .inr (.inr (.inl o)) :: S => bif Nat.ble 4 o && Nat.blt o ly.1 then (match ly.2.2 o with
    | .inr (.inr (c, fs)) => bif c == ci then (match fs[k]? with
      | some none => f S (mup σ o k z)
      | _ => rFail) else rFail
    | _ => rFail) else rFail
  | _ => rFail
def mald (ly : mmL) (b : Bool) (S : List mmV) (σ : mmSt) (f : List mmV → mmX) : mmS := match S with
  | .inl i :: .inr (.inr (.inl r)) :: S => bif Nat.blt r ly.1 then (match ly.2.2 r with
    | .inl (c, n) => bif c == b then rChk (minb i n) (f (mI (σ r i.toNat) :: S)) else rFail
    | _ => rFail) else rFail
  | _ => rFail
def mast (ly : mmL) (b : Bool) (S : List mmV) (σ : mmSt) (f : List mmV → mmSt → mmX) : mmS := match S with
  | .inl v :: .inl i :: .inr (.inr (.inl r)) :: S => bif Nat.ble 4 r && Nat.blt r ly.1 then (match ly.2.2 r with
    | .inl (c, n) => bif c == b then rChk (bif b then minb i n && (decide (0 ≤ v) && decide (v ≤ 1)) else minb i n) (f S (mup σ r i.toNat v)) else rFail
    | _ => rFail) else rFail
  | _ => rFail
def maald (ly : mmL) (S : List mmV) (f : List mmV → mmS) : mmS := match S with
  | .inl i :: .inr (.inr (.inl r)) :: S => bif Nat.ble 4 r && Nat.blt r ly.1 && decide (0 ≤ i) then (match ly.2.2 r with
    | .inr (.inl (_, rs)) => (match rs[i.toNat]? with
      | some (some q) => f (mR q :: S)
      | _ => rFail)
    | _ => rFail) else rFail
  | _ => rFail
def malen (ly : mmL) (S : List mmV) (f : List mmV → mmS) : mmS := match S with
  | .inr (.inr (.inl r)) :: S => bif Nat.blt r ly.1 then (match ly.2.2 r with
    | .inl (_, n) => f (mI (n : Int) :: S)
    | _ => rFail) else rFail
  | _ => rFail
def mcopy (ly : mmL) (S : List mmV) (σ : mmSt) (f : List mmV → mmSt → mmX) : mmS := match S with
  | .inl n :: .inl dp :: .inr (.inr (.inl b)) :: .inl sp :: .inr (.inr (.inl a)) :: S => bif Nat.ble 4 a && Nat.blt a ly.1 && Nat.ble 4 b && Nat.blt b ly.1 && Nat.ble (mwords S) 8 then (match ly.2.2 a, ly.2.2 b with
    | .inl (false, n0), .inl (false, n1) => rChk (decide (0 ≤ sp) && decide (0 ≤ dp) && decide (0 ≤ n) && decide (sp + n ≤ (n0 : Int)) && decide (dp + n ≤ (n1 : Int))) (f S (mcpy σ a sp.toNat b dp.toNat n.toNat))
    | _, _ => rFail) else rFail
  | _ => rFail
def mpush (rk : Nat) (v : Int) (S : List mmV) : List mmV := match rk with
  | 0 => S
  | 2 => mL v :: S
  | _ => mI v :: S
/-- a call: the callee's number, how many values it takes, whether the first is an object of its class -/
def mcall (ly : mmL) (virt : Bool) (d M i : Nat) (L S : List mmV) (h : mmSt) (a b : Nat) : mmS := match d with
  | 0 => rFail
  | d + 1 => bif Nat.ble b S.length && Nat.ble (mwords (S.drop b)) 8 && (!virt || misObj ly (mcls a) ((S.take b).getLastD mJ)) && Nat.ble (mslots (S.take b).reverse).length (mmaxL a) then rCall (d, a, 0, mframe (S.take b).reverse (mmaxL a), [], h) (fun y => (d + 1, M, i + 1, L, mpush (mrk a) y.2 (S.drop b), y.1)) else rFail
/-- one instruction -/
def mstepI (ly : mmL) (d M i : Nat) (L S : List mmV) (h : mmSt) (ins : Instr) (a b : Nat) (c : Int) (sw : List (Int × Nat)) : mmS := match ins with
  | .aload_n k => mlda L S k.val (fun S => rNext (d, M, i + 1, L, S, h))
  | .aload k => mlda L S k (fun S => rNext (d, M, i + 1, L, S, h))
  | .iload_n k => mldi L S k.val (fun S => rNext (d, M, i + 1, L, S, h))
  | .iload k => mldi L S k (fun S => rNext (d, M, i + 1, L, S, h))
  | .lload_n k => mldl L S k.val (fun S => rNext (d, M, i + 1, L, S, h))
  | .lload k => mldl L S k (fun S => rNext (d, M, i + 1, L, S, h))
  | .istore_n k => msti L S k.val (fun L S => rNext (d, M, i + 1, L, S, h))
  | .istore k => msti L S k (fun L S => rNext (d, M, i + 1, L, S, h))
  | .lstore_n k => mstl L S k.val (fun L S => rNext (d, M, i + 1, L, S, h))
  | .lstore k => mstl L S k (fun L S => rNext (d, M, i + 1, L, S, h))
  | .astore_n k => msta L S k.val (fun L S => rNext (d, M, i + 1, L, S, h))
  | .iconst _ => rNext (d, M, i + 1, L, mI c :: S, h)
  | .bipush _ => rNext (d, M, i + 1, L, mI c :: S, h)
  | .sipush _ => rNext (d, M, i + 1, L, mI c :: S, h)
  | .ldc _ => rNext (d, M, i + 1, L, mI c :: S, h)
  | .ldc_w _ => rNext (d, M, i + 1, L, mI c :: S, h)
  | .ldc2_w _ => rNext (d, M, i + 1, L, mL c :: S, h)
  | .lconst _ => rNext (d, M, i + 1, L, mL c :: S, h)
  | .iadd => mbin (fun x y => mwrap (x + y)) S (fun S => rNext (d, M, i + 1, L, S, h))
  | .isub => mbin (fun x y => mwrap (x - y)) S (fun S => rNext (d, M, i + 1, L, S, h))
  | .imul => mbin (fun x y => mwrap (x * y)) S (fun S => rNext (d, M, i + 1, L, S, h))
  | .iand => mbin mand S (fun S => rNext (d, M, i + 1, L, S, h))
  | .ior => mbin mor S (fun S => rNext (d, M, i + 1, L, S, h))
  | .ixor => mbin mxor S (fun S => rNext (d, M, i + 1, L, S, h))
  | .ishl => mbin mshl S (fun S => rNext (d, M, i + 1, L, S, h))
  | .ishr => mbin mshr S (fun S => rNext (d, M, i + 1, L, S, h))
  | .iushr => mbin mushr S (fun S => rNext (d, M, i + 1, L, S, h))
  | .ineg => mun (fun x => mwrap (-x)) S (fun S => rNext (d, M, i + 1, L, S, h))
  | .i2b => mun mi2b S (fun S => rNext (d, M, i + 1, L, S, h))
  | .i2s => mun mi2s S (fun S => rNext (d, M, i + 1, L, S, h))
  | .ladd => mbinL (fun x y => mwrapL (x + y)) S (fun S => rNext (d, M, i + 1, L, S, h))
  | .lsub => mbinL (fun x y => mwrapL (x - y)) S (fun S => rNext (d, M, i + 1, L, S, h))
  | .lmul => mbinL (fun x y => mwrapL (x * y)) S (fun S => rNext (d, M, i + 1, L, S, h))
  | .ldiv => (match S with
    | .inr (.inl y) :: .inr (.inl x) :: S => rChk (decide (¬ y = 0)) (d, M, i + 1, L, mL (mwrapL (x.tdiv y)) :: S, h)
    | _ => rFail)
  | .lrem => (match S with
    | .inr (.inl y) :: .inr (.inl x) :: S => rChk (decide (¬ y = 0)) (d, M, i + 1, L, mL (x.tmod y) :: S, h)
    | _ => rFail)
  | .lcmp => (match S with
    | .inr (.inl y) :: .inr (.inl x) :: S => rNext (d, M, i + 1, L, mI (mlcmp x y) :: S, h)
    | _ => rFail)
  | .i2l => (match S with
    | .inl x :: S => rNext (d, M, i + 1, L, mL x :: S, h)
    | _ => rFail)
  | .l2i => (match S with
    | .inr (.inl x) :: S => rNext (d, M, i + 1, L, mI (mwrap x) :: S, h)
    | _ => rFail)
  | .iinc k _ => (match L.getD k mJ with
    | .inl z => bif Nat.blt k L.length then rNext (d, M, i + 1, mst1 L k (mI (mwrap (z + c))), S, h) else rFail
    | _ => rFail)
  | .dup => (match S with
    | .inl z :: S => rNext (d, M, i + 1, L, mI z :: mI z :: S, h)
    | .inr (.inr (.inl r)) :: S => rNext (d, M, i + 1, L, mR r :: mR r :: S, h)
    | _ => rFail)
  | .dup2 => (match S with
    | .inl z :: .inr (.inr (.inl r)) :: S => rNext (d, M, i + 1, L, mI z :: mR r :: mI z :: mR r :: S, h)
    | _ => rFail)
  | .ifCond q _ => (match S with
    | .inl x :: S => rBr (micond q x 0) (d, M, a, L, S, h) (d, M, i + 1, L, S, h)
    | _ => rFail)
  | .if_icmp q _ => (match S with
    | .inl y :: .inl x :: S => rBr (micond q x y) (d, M, a, L, S, h) (d, M, i + 1, L, S, h)
    | _ => rFail)
  | .goto _ => rNext (d, M, a, L, S, h)
  | .tableswitch _ _ _ _ => (match S with
    | .inl x :: S => rSw x (sw.map (fun q => (q.1, (d, M, q.2, L, S, h)))) (d, M, a, L, S, h)
    | _ => rFail)
  | .lookupswitch _ _ => (match S with
    | .inl x :: S => rSw x (sw.map (fun q => (q.1, (d, M, q.2, L, S, h)))) (d, M, a, L, S, h)
    | _ => rFail)
  | .getfield _ => mgetf ly b a S h (fun S => rNext (d, M, i + 1, L, S, h))
  | .putfield _ => mputf ly b a S h (fun S h => rNext (d, M, i + 1, L, S, h))
  | .getstatic _ => rNext (d, M, i + 1, L, mR a :: S, h)
  | .iaload => mald ly false S h (fun S => (d, M, i + 1, L, S, h))
  | .baload => mald ly true S h (fun S => (d, M, i + 1, L, S, h))
  | .iastore => mast ly false S h (fun S h => (d, M, i + 1, L, S, h))
  | .bastore => mast ly true S h (fun S h => (d, M, i + 1, L, S, h))
  | .aaload => maald ly S (fun S => rNext (d, M, i + 1, L, S, h))
  | .arraylength => malen ly S (fun S => rNext (d, M, i + 1, L, S, h))
  | .invokevirtual _ => mcall ly true d M i L S h a b
  | .invokespecial _ => bif b == 0 then (match d, S with
    | _ + 1, .inr (.inr (.inl _)) :: S => bif Nat.ble (mwords S) 8 then rNext (d, M, i + 1, L, S, h) else rFail
    | _, _ => rFail) else mcall ly true d M i L S h a b
  | .invokestatic _ => bif b == 99 then (bif d == 0 then rFail else mcopy ly S h (fun S h => (d, M, i + 1, L, S, h))) else mcall ly false d M i L S h a b
  | .ireturn => (match S with
    | [.inl v] => bif mrk M == 1 then rRet true (h, v) else bif mrk M == 3 then rRet (decide (0 ≤ v) && decide (v ≤ 1)) (h, v) else rFail
    | _ => rFail)
  | .lreturn => (match S with
    | [.inr (.inl v)] => bif mrk M == 2 then rRet true (h, v) else rFail
    | _ => rFail)
  | .return_ => (match S with
    | [] => bif mrk M == 0 then rRet true (h, 0) else rFail
    | _ => rFail)
  | _ => rFail
def sstep (ly : mmL) (x : mmX) : mmS := match x with
  | (d, M, i, L, S, h) => match prg M i with
    | (_, ins, a, b, c, sw) => mstepI ly d M i L S h ins a b c sw
/-! what makes a cell, or writes a reference: in constructors alone -/
def mallocI (ly : mmL) (d M i : Nat) (L S : List mmV) (σ : mmSt) (ins : Instr) (a b : Nat) : Option (mmL × mmX) := match ins with
  | .newarray _ => (match S with
    | .inl n :: S => bif decide (0 ≤ n) && decide (n ≤ 65536) then some ((ly.1 + 1, ly.2.1 + n.toNat, mlay ly.2.2 ly.1 (.inl (a == 1, n.toNat))), (d, M, i + 1, L, mR ly.1 :: S, mzero σ ly.1)) else none
    | _ => none)
  | .anewarray _ => (match S with
    | .inl n :: S => bif decide (0 ≤ n) && decide (n ≤ 65536) then some ((ly.1 + 1, ly.2.1 + n.toNat, mlay ly.2.2 ly.1 (.inr (.inl (0, List.replicate n.toNat none)))), (d, M, i + 1, L, mR ly.1 :: S, mzero σ ly.1)) else none
    | _ => none)
  | .multianewarray _ _ => (match S with
    | .inl k :: .inl n :: S => bif decide (0 ≤ n) && decide (n ≤ 1000) && decide (0 ≤ k) && decide (k ≤ 1000) then some ((ly.1 + 1 + n.toNat, ly.2.1 + n.toNat + n.toNat * k.toNat, (fun a => if a = ly.1 then .inr (.inl (1, (List.range n.toNat).map (fun i => some (ly.1 + 1 + i)))) else if ly.1 < a ∧ a < ly.1 + 1 + n.toNat then .inl (false, k.toNat) else ly.2.2 a)), (d, M, i + 1, L, mR ly.1 :: S, fun a j => if ly.1 ≤ a ∧ a < ly.1 + 1 + n.toNat then 0 else σ a j)) else none
    | _ => none)
  | .new _ => some ((ly.1 + 1, ly.2.1 + (mdef a).length, mlay ly.2.2 ly.1 (.inr (.inr (a, mdef a)))), (d, M, i + 1, L, mR ly.1 :: S, mzero σ ly.1))
  | .putfield _ => (match S with
    | .inr (.inr (.inl r)) :: .inr (.inr (.inl o)) :: S => bif Nat.ble 4 o && Nat.blt o ly.1 && Nat.blt r ly.1 then (match ly.2.2 o with
      | .inr (.inr (c, fs)) => bif c == b then (match fs[a]? with
        | some (some _) => some ((ly.1, ly.2.1, mlay ly.2.2 o (.inr (.inr (c, fs.set a (some (some r)))))), (d, M, i + 1, L, S, σ))
        | _ => none) else none
      | _ => none) else none
    | _ => none)
  | .aastore => (match S with
    | .inr (.inr (.inl q)) :: .inl i' :: .inr (.inr (.inl r)) :: S => bif Nat.ble 4 r && Nat.blt r ly.1 && decide (0 ≤ i') && misObj ly 2 (mR q) then (match ly.2.2 r with
      | .inr (.inl (0, rs)) => bif Nat.blt i'.toNat rs.length then some ((ly.1, ly.2.1, mlay ly.2.2 r (.inr (.inl (0, rs.set i'.toNat (some q))))), (d, M, i + 1, L, S, σ)) else none
      | _ => none) else none
    | _ => none)
  | _ => none
def malloc (ly : mmL) (x : mmX) : Option (mmL × mmX) := match x with
  | (d, M, i, L, S, h) => match prg M i with
    | (_, ins, a, b, _, _) => mallocI ly d M i L S h ins a b
def mlift (ly : mmL) (r : mmS) : gS (mmL × mmX) (mmL × mmY) := match r with
  | .inl _ => .inl ()
  | .inr (.inl (c, y)) => rRet c (ly, y)
  | .inr (.inr (.inl x)) => rNext (ly, x)
  | .inr (.inr (.inr (.inl (c, x, y)))) => rBr c (ly, x) (ly, y)
  | .inr (.inr (.inr (.inr (.inl (c, x))))) => rChk c (ly, x)
  | .inr (.inr (.inr (.inr (.inr (.inl (x, k)))))) => rCall (ly, x) (fun y => (y.1, k y.2))
  | .inr (.inr (.inr (.inr (.inr (.inr (v, l, d)))))) => rSw v (l.map (fun q => (q.1, (ly, q.2)))) (ly, d)
/-- the whole machine: with cells that are made -/
def mstep (z : mmL × mmX) : gS (mmL × mmX) (mmL × mmY) := match sstep z.1 z.2 with
  | .inl _ => (match malloc z.1 z.2 with
    | some w => rNext w
    | none => rFail)
  | .inr r => mlift z.1 (.inr r)
/-! the least fixpoint of a step, and its equation -/
def gev {X Y : Type} (call rec : X → Option Y) (r : gS X Y) : Option Y := match r with
  | .inl _ => none
  | .inr (.inl (c, y)) => bif c then some y else none
  | .inr (.inr (.inl x)) => rec x
  | .inr (.inr (.inr (.inl (c, x, y)))) => bif c then rec x else rec y
  | .inr (.inr (.inr (.inr (.inl (c, x))))) => bif c then rec x else none
  | .inr (.inr (.inr (.inr (.inr (.inl (x, k)))))) => (call x).bind (fun y => rec (k y))
  | .inr (.inr (.inr (.inr (.inr (.inr (v, l, d)))))) => l.foldr (fun p acc => bif decide (v = p.1) then rec p.2 else acc) (rec d)
def grunN {X Y : Type} (step : X → gS X Y) : Nat → X → Option Y
  | 0, _ => none
  | n + 1, x => gev (grunN step n) (grunN step n) (step x)
theorem gev_mono {X Y : Type} {c1 c2 r1 r2 : X → Option Y} (hc : ∀ x y, c1 x = some y → c2 x = some y) (hr : ∀ x y, r1 x = some y → r2 x = some y) (r : gS X Y) (y : Y) (h : gev c1 r1 r = some y) : gev c2 r2 r = some y := by
  rcases r with _ | ⟨c, q⟩ | x | ⟨c, x, z⟩ | ⟨c, x⟩ | ⟨x, k⟩ | ⟨v, l, d⟩
  · exact h
  · exact h
  · exact hr _ _ h
  · cases c
    · exact hr _ _ h
    · exact hr _ _ h
  · cases c
    · exact h
    · exact hr _ _ h
  · simp only [gev, Option.bind_eq_some_iff] at h ⊢
    obtain ⟨q, h1, h2⟩ := h
    exact ⟨q, hc _ _ h1, hr _ _ h2⟩
  · simp only [gev] at h ⊢
    induction l with
    | nil => exact hr _ _ h
    | cons p l ih =>
      simp only [List.foldr_cons] at h ⊢
      by_cases e : v = p.1
      · simp only [e, decide_true, cond_true] at h ⊢
        exact hr _ _ h
      · simp only [e, decide_false, cond_false] at h ⊢
        exact ih h
theorem grunN_succ {X Y : Type} (step : X → gS X Y) : ∀ (n : Nat) (x : X) (y : Y), grunN step n x = some y → grunN step (n + 1) x = some y
  | 0, _, _, h => by cases h
  | n + 1, x, y, h => gev_mono (grunN_succ step n) (grunN_succ step n) (step x) y h
theorem grunN_le {X Y : Type} (step : X → gS X Y) {n m : Nat} (h : n ≤ m) {x : X} {y : Y} (hx : grunN step n x = some y) : grunN step m x = some y := by
  induction m with
  | zero => cases Nat.le_zero.mp h; exact hx
  | succ m ih =>
    rcases Nat.lt_or_ge n (m + 1) with q | q
    · exact grunN_succ step m x y (ih (by omega))
    · have : n = m + 1 := by omega
      rw [← this]; exact hx
theorem grun_ex {X Y : Type} (step : X → gS X Y) : ∃ f : X → Option Y, ∀ x y, f x = some y ↔ ∃ n, grunN step n x = some y := by
  refine ⟨fun x => @dite _ (∃ n y, grunN step n x = some y) (Classical.propDecidable _) (fun h => some h.choose_spec.choose) (fun _ => none), fun x y => ?_⟩
  dsimp only
  by_cases h : ∃ n y, grunN step n x = some y
  · have hs := h.choose_spec.choose_spec
    rw [dif_pos h]
    constructor
    · intro q; cases q; exact ⟨_, hs⟩
    · rintro ⟨n, hn⟩
      have a1 := grunN_le step (Nat.le_max_left n h.choose) hn
      have a2 := grunN_le step (Nat.le_max_right n h.choose) hs
      rw [a1] at a2; exact a2.symm
  · rw [dif_neg h]
    constructor
    · intro q; cases q
    · rintro ⟨n, hn⟩; exact absurd ⟨n, y, hn⟩ h
/-- what a state comes to -/
noncomputable def grun {X Y : Type} (step : X → gS X Y) : X → Option Y := Classical.choose (grun_ex step)
theorem grun_iff {X Y : Type} (step : X → gS X Y) (x : X) (y : Y) : grun step x = some y ↔ ∃ n, grunN step n x = some y := Classical.choose_spec (grun_ex step) x y
theorem gev_two {X Y : Type} (step : X → gS X Y) (r : gS X Y) (y : Y) (h : gev (grun step) (grun step) r = some y) : ∃ n, gev (grunN step n) (grunN step n) r = some y := by
  rcases r with _ | ⟨c, q⟩ | x | ⟨c, x, z⟩ | ⟨c, x⟩ | ⟨x, k⟩ | ⟨v, l, d⟩
  · exact ⟨0, h⟩
  · exact ⟨0, h⟩
  · exact (grun_iff _ _ _).mp h
  · cases c
    · exact (grun_iff _ _ _).mp h
    · exact (grun_iff _ _ _).mp h
  · cases c
    · cases h
    · exact (grun_iff _ _ _).mp h
  · simp only [gev, Option.bind_eq_some_iff] at h ⊢
    obtain ⟨q, h1, h2⟩ := h
    obtain ⟨n1, h1⟩ := (grun_iff _ _ _).mp h1
    obtain ⟨n2, h2⟩ := (grun_iff _ _ _).mp h2
    exact ⟨max n1 n2, q, grunN_le step (Nat.le_max_left _ _) h1, grunN_le step (Nat.le_max_right _ _) h2⟩
  · simp only [gev] at h ⊢
    induction l with
    | nil => exact (grun_iff _ _ _).mp h
    | cons p l ih =>
      simp only [List.foldr_cons] at h ⊢
      by_cases e : v = p.1
      · simp only [e, decide_true, cond_true] at h ⊢
        exact (grun_iff _ _ _).mp h
      · simp only [e, decide_false, cond_false] at h ⊢
        exact ih h
theorem grun_eq {X Y : Type} (step : X → gS X Y) (x : X) : grun step x = gev (grun step) (grun step) (step x) := by
  have key : ∀ y, grun step x = some y ↔ gev (grun step) (grun step) (step x) = some y := by
    intro y
    rw [grun_iff]
    constructor
    · rintro ⟨n, hn⟩
      cases n with
      | zero => cases hn
      | succ n => exact gev_mono (fun x y h => (grun_iff step x y).mpr ⟨n, h⟩) (fun x y h => (grun_iff step x y).mpr ⟨n, h⟩) _ _ hn
    · intro h
      obtain ⟨n, hn⟩ := gev_two step _ _ h
      exact ⟨n + 1, hn⟩
  cases h1 : grun step x with
  | some y => exact ((key y).mp h1).symm
  | none =>
    cases h2 : gev (grun step) (grun step) (step x) with
    | none => rfl
    | some y => rw [(key y).mpr h2] at h1; cases h1
/-- the machine with a layout that stays -/
noncomputable def srun (ly : mmL) : mmX → Option mmY := grun (sstep ly)
/-- some steps at once, to the places of st -/
noncomputable def sunr (ly : mmL) (st : List Nat) : Nat → mmX → Option mmY
  | 0, x => srun ly x
  | k + 1, x => gev (srun ly) (fun z => bif st.contains z.2.2.1 then srun ly z else sunr ly st k z) (sstep ly x)
theorem srun_unr (ly : mmL) (st : List Nat) : ∀ (k : Nat) (x : mmX), srun ly x = sunr ly st k x
  | 0, _ => rfl
  | k + 1, x => by
    have e0 : srun ly x = gev (srun ly) (srun ly) (sstep ly x) := grun_eq (sstep ly) x
    have e : srun ly = (fun z => bif st.contains z.2.2.1 then srun ly z else sunr ly st k z) := by
      funext z
      rw [← srun_unr ly st k z]
      cases st.contains z.2.2.1 <;> rfl
    rw [e0]
    show gev (srun ly) (srun ly) (sstep ly x) = gev (srun ly) (fun z => bif st.contains z.2.2.1 then srun ly z else sunr ly st k z) (sstep ly x)
    rw [← e]
/-- what the machine with a layout that stays comes to, the whole machine comes to -/
theorem mlink (ly : mmL) : ∀ (n : Nat) (x : mmX) (y : mmY), grunN (sstep ly) n x = some y → grunN mstep n (ly, x) = some (ly, y)
  | 0, _, _, h => by cases h
  | n + 1, x, y, h => by
    have ih := mlink ly n
    have h : gev (grunN (sstep ly) n) (grunN (sstep ly) n) (sstep ly x) = some y := h
    show gev (grunN mstep n) (grunN mstep n) (mstep (ly, x)) = some (ly, y)
    have hm : ∀ r, sstep ly x = .inr r → mstep (ly, x) = mlift ly (.inr r) := fun r hr => by
      show (match sstep ly x with
        | .inl _ => (match malloc ly x with
          | some w => rNext w
          | none => rFail)
        | .inr r => mlift ly (.inr r)) = _
      rw [hr]
    cases hs : sstep ly x with
    | inl u => rw [hs] at h; cases h
    | inr r =>
      rw [hm r hs]
      rw [hs] at h
      rcases r with ⟨c, q⟩ | x | ⟨c, x, z⟩ | ⟨c, x⟩ | ⟨x, k⟩ | ⟨v, l, d⟩
      · cases c
        · cases h
        · cases h; rfl
      · exact ih _ _ h
      · cases c
        · exact ih _ _ h
        · exact ih _ _ h
      · cases c
        · cases h
        · exact ih _ _ h
      · simp only [gev, Option.bind_eq_some_iff] at h
        obtain ⟨q, h1, h2⟩ := h
        show (grunN mstep n (ly, x)).bind _ = _
        rw [ih _ _ h1]
        exact ih _ _ h2
      · simp only [gev] at h
        show (l.map (fun q => (q.1, (ly, q.2)))).foldr _ (grunN mstep n (ly, d)) = _
        clear hs
        induction l with
        | nil => exact ih _ _ h
        | cons p l ihl =>
          simp only [List.foldr_cons, List.map_cons] at h ⊢
          by_cases e : v = p.1
          · simp only [e, decide_true, cond_true] at h ⊢
            exact ih _ _ h
          · simp only [e, decide_false, cond_false] at h ⊢
            exact ihl h
theorem srun_link (ly : mmL) {x : mmX} {y : mmY} (h : srun ly x = some y) : grun mstep (ly, x) = some (ly, y) := by
  obtain ⟨n, hn⟩ := (grun_iff _ _ _).mp h
  exact (grun_iff _ _ _).mpr ⟨n, mlink ly n x y hn⟩
end
section
def layT (Ln : Nat) : Nat → mmC := fun k => (bif Nat.ble k 51 then (bif Nat.ble k 25 then (bif Nat.ble k 12 then (bif Nat.ble k 5 then (bif Nat.ble k 2 then (bif Nat.ble k 0 then .inl (false, Ln) else (bif Nat.ble k 1 then .inl (false, 6) else .inl (false, 6))) else (bif Nat.ble k 3 then .inl (false, 6) else (bif Nat.ble k 4 then .inr (.inr (6, [some (some 5), some (some 9), some (some 21), some (some 47), some (some 48), some (some 69), some (some 71), none])) else .inr (.inr (4, [some (some 6), some (some 7), some (some 8)]))))) else (bif Nat.ble k 8 then (bif Nat.ble k 6 then .inl (false, 320) else (bif Nat.ble k 7 then .inl (false, 8) else .inl (false, 8))) else (bif Nat.ble k 10 then (bif Nat.ble k 9 then .inr (.inr (3, [some (some 10), none, none, some (some 20), none, none])) else .inr (.inr (2, [none, none, none, none, some (some 11), some (some 12), some (some 13), some (some 14), some (some 15), some (some 16), some (some 17), some (some 18), none, none, some (some 19)]))) else (bif Nat.ble k 11 then .inl (false, 7) else .inl (false, 7))))) else (bif Nat.ble k 18 then (bif Nat.ble k 15 then (bif Nat.ble k 13 then .inl (false, 7) else (bif Nat.ble k 14 then .inl (false, 7) else .inl (false, 5))) else (bif Nat.ble k 16 then .inl (false, 5) else (bif Nat.ble k 17 then .inl (false, 5) else .inl (false, 5)))) else (bif Nat.ble k 21 then (bif Nat.ble k 19 then .inl (false, 5) else (bif Nat.ble k 20 then .inl (false, 120) else .inr (.inr (0, [none, some (some 22), none])))) else (bif Nat.ble k 23 then (bif Nat.ble k 22 then .inr (.inl (1, [some 23, some 24, some 25, some 26, some 27, some 28, some 29, some 30, some 31, some 32, some 33, some 34, some 35, some 36, some 37, some 38, some 39, some 40, some 41, some 42, some 43, some 44, some 45, some 46])) else .inl (false, 25)) else (bif Nat.ble k 24 then .inl (false, 25) else .inl (false, 25)))))) else (bif Nat.ble k 38 then (bif Nat.ble k 31 then (bif Nat.ble k 28 then (bif Nat.ble k 26 then .inl (false, 25) else (bif Nat.ble k 27 then .inl (false, 25) else .inl (false, 25))) else (bif Nat.ble k 29 then .inl (false, 25) else (bif Nat.ble k 30 then .inl (false, 25) else .inl (false, 25)))) else (bif Nat.ble k 34 then (bif Nat.ble k 32 then .inl (false, 25) else (bif Nat.ble k 33 then .inl (false, 25) else .inl (false, 25))) else (bif Nat.ble k 36 then (bif Nat.ble k 35 then .inl (false, 25) else .inl (false, 25)) else (bif Nat.ble k 37 then .inl (false, 25) else .inl (false, 25))))) else (bif Nat.ble k 44 then (bif Nat.ble k 41 then (bif Nat.ble k 39 then .inl (false, 25) else (bif Nat.ble k 40 then .inl (false, 25) else .inl (false, 25))) else (bif Nat.ble k 42 then .inl (false, 25) else (bif Nat.ble k 43 then .inl (false, 25) else .inl (false, 25)))) else (bif Nat.ble k 47 then (bif Nat.ble k 45 then .inl (false, 25) else (bif Nat.ble k 46 then .inl (false, 25) else .inr (.inr (5, [some (some 48), some (some 58), some (some 68)])))) else (bif Nat.ble k 49 then (bif Nat.ble k 48 then .inr (.inr (2, [none, none, none, none, some (some 49), some (some 50), some (some 51), some (some 52), some (some 53), some (some 54), some (some 55), some (some 56), none, none, some (some 57)])) else .inl (false, 7)) else (bif Nat.ble k 50 then .inl (false, 7) else .inl (false, 7))))))) else (bif Nat.ble k 77 then (bif Nat.ble k 64 then (bif Nat.ble k 57 then (bif Nat.ble k 54 then (bif Nat.ble k 52 then .inl (false, 7) else (bif Nat.ble k 53 then .inl (false, 5) else .inl (false, 5))) else (bif Nat.ble k 55 then .inl (false, 5) else (bif Nat.ble k 56 then .inl (false, 5) else .inl (false, 5)))) else (bif Nat.ble k 60 then (bif Nat.ble k 58 then .inr (.inr (2, [none, none, none, none, some (some 59), some (some 60), some (some 61), some (some 62), some (some 63), some (some 64), some (some 65), some (some 66), none, none, some (some 67)])) else (bif Nat.ble k 59 then .inl (false, 7) else .inl (false, 7))) else (bif Nat.ble k 62 then (bif Nat.ble k 61 then .inl (false, 7) else .inl (false, 7)) else (bif Nat.ble k 63 then .inl (false, 5) else .inl (false, 5))))) else (bif Nat.ble k 70 then (bif Nat.ble k 67 then (bif Nat.ble k 65 then .inl (false, 5) else (bif Nat.ble k 66 then .inl (false, 5) else .inl (false, 5))) else (bif Nat.ble k 68 then .inl (false, 12) else (bif Nat.ble k 69 then .inr (.inr (1, [some (some 70), none])) else .inl (false, 16)))) else (bif Nat.ble k 73 then (bif Nat.ble k 71 then .inr (.inl (0, [some 72, some 82])) else (bif Nat.ble k 72 then .inr (.inr (2, [none, none, none, none, some (some 73), some (some 74), some (some 75), some (some 76), some (some 77), some (some 78), some (some 79), some (some 80), none, none, some (some 81)])) else .inl (false, 7))) else (bif Nat.ble k 75 then (bif Nat.ble k 74 then .inl (false, 7) else .inl (false, 7)) else (bif Nat.ble k 76 then .inl (false, 7) else .inl (false, 5)))))) else (bif Nat.ble k 90 then (bif Nat.ble k 83 then (bif Nat.ble k 80 then (bif Nat.ble k 78 then .inl (false, 5) else (bif Nat.ble k 79 then .inl (false, 5) else .inl (false, 5))) else (bif Nat.ble k 81 then .inl (false, 5) else (bif Nat.ble k 82 then .inr (.inr (2, [none, none, none, none, some (some 83), some (some 84), some (some 85), some (some 86), some (some 87), some (some 88), some (some 89), some (some 90), none, none, some (some 91)])) else .inl (false, 7)))) else (bif Nat.ble k 86 then (bif Nat.ble k 84 then .inl (false, 7) else (bif Nat.ble k 85 then .inl (false, 7) else .inl (false, 7))) else (bif Nat.ble k 88 then (bif Nat.ble k 87 then .inl (false, 5) else .inl (false, 5)) else (bif Nat.ble k 89 then .inl (false, 5) else .inl (false, 5))))) else (bif Nat.ble k 97 then (bif Nat.ble k 93 then (bif Nat.ble k 91 then .inl (false, 5) else (bif Nat.ble k 92 then .inr (.inr (7, [none, none, some (some 93), some (some 94), some (some 95), some (some 96), some (some 97), some (some 98), some (some 99), none, some (some 100), none, none, none, none, none, none, none, none, none, none, none, some (some 101), some (some 102), some (some 103), some (some 104), none])) else .inl (false, 8))) else (bif Nat.ble k 95 then (bif Nat.ble k 94 then .inl (false, 8) else .inl (false, 320)) else (bif Nat.ble k 96 then .inl (false, 52) else .inl (false, 52)))) else (bif Nat.ble k 100 then (bif Nat.ble k 98 then .inl (false, 52) else (bif Nat.ble k 99 then .inl (false, 1248) else .inl (false, 120))) else (bif Nat.ble k 102 then (bif Nat.ble k 101 then .inl (false, 5) else .inl (true, 2)) else (bif Nat.ble k 103 then .inl (false, 104) else .inl (false, 16))))))))
def lyT (Ln : Nat) : mmL := (105, 3489, layT Ln)
def cnty (a : Nat) : Prop := a = 10 ∨ a = 48 ∨ a = 58 ∨ a = 72 ∨ a = 82
def mrow (r : Nat) : Prop := r = 96 ∨ r = 98
def mpage (p : Nat) : Prop := p = 23 ∨ p = 24 ∨ p = 25 ∨ p = 26 ∨ p = 27 ∨ p = 28 ∨ p = 29 ∨ p = 30 ∨ p = 31 ∨ p = 32 ∨ p = 33 ∨ p = 34 ∨ p = 35 ∨ p = 36 ∨ p = 37 ∨ p = 38 ∨ p = 39 ∨ p = 40 ∨ p = 41 ∨ p = 42 ∨ p = 43 ∨ p = 44 ∨ p = 45 ∨ p = 46
def bpair (a b : Nat) : Prop := (a = 48 ∧ b = 10) ∨ (a = 58 ∧ b = 48) ∨ (a = 72 ∧ b = 48) ∨ (a = 82 ∧ b = 48) ∨ (a = 48 ∧ b = 72) ∨ (a = 48 ∧ b = 82)
/-! java/lang/Integer.bitCount(I)I: method 0; stops [] -/
theorem b_Int_bitCount (Ln d : Nat) (σ : mmSt) (x0 : Int) : srun (lyT Ln) ((d + 1), 0, 0, [mI x0], [], σ) =
 some (σ, (mand (mwrap ((mwrap ((mand (mwrap ((mwrap ((mand (mwrap (x0 - (mand (mushr x0 1) 1431655765))) 858993459) + (mand (mushr (mwrap (x0 - (mand (mushr x0 1) 1431655765))) 2) 858993459))) + (mushr (mwrap ((mand (mwrap (x0 - (mand (mushr x0 1) 1431655765))) 858993459) + (mand (mushr (mwrap (x0 - (mand (mushr x0 1) 1431655765))) 2) 858993459))) 4))) 252645135) + (mushr (mand (mwrap ((mwrap ((mand (mwrap (x0 - (mand (mushr x0 1) 1431655765))) 858993459) + (mand (mushr (mwrap (x0 - (mand (mushr x0 1) 1431655765))) 2) 858993459))) + (mushr (mwrap ((mand (mwrap (x0 - (mand (mushr x0 1) 1431655765))) 858993459) + (mand (mushr (mwrap (x0 - (mand (mushr x0 1) 1431655765))) 2) 858993459))) 4))) 252645135) 8))) + (mushr (mwrap ((mand (mwrap ((mwrap ((mand (mwrap (x0 - (mand (mushr x0 1) 1431655765))) 858993459) + (mand (mushr (mwrap (x0 - (mand (mushr x0 1) 1431655765))) 2) 858993459))) + (mushr (mwrap ((mand (mwrap (x0 - (mand (mushr x0 1) 1431655765))) 858993459) + (mand (mushr (mwrap (x0 - (mand (mushr x0 1) 1431655765))) 2) 858993459))) 4))) 252645135) + (mushr (mand (mwrap ((mwrap ((mand (mwrap (x0 - (mand (mushr x0 1) 1431655765))) 858993459) + (mand (mushr (mwrap (x0 - (mand (mushr x0 1) 1431655765))) 2) 858993459))) + (mushr (mwrap ((mand (mwrap (x0 - (mand (mushr x0 1) 1431655765))) 858993459) + (mand (mushr (mwrap (x0 - (mand (mushr x0 1) 1431655765))) 2) 858993459))) 4))) 252645135) 8))) 16))) 63)) := by
  exact (srun_unr _ [] 42 _).trans rfl
/-! java/lang/Math.max(II)I: method 1; stops [] -/
theorem b_Math_max (Ln d : Nat) (σ : mmSt) (x0 x1 : Int) : srun (lyT Ln) ((d + 1), 1, 0, [mI x0, mI x1], [], σ) =
 (bif decide (x0 < x1) then
  some (σ, x1)
 else
  some (σ, x0)) := by
  exact (srun_unr _ [] 6 _).trans rfl
/-! java/lang/Math.min(II)I: method 2; stops [] -/
theorem b_Math_min (Ln d : Nat) (σ : mmSt) (x0 x1 : Int) : srun (lyT Ln) ((d + 1), 2, 0, [mI x0, mI x1], [], σ) =
 (bif decide (x1 < x0) then
  some (σ, x1)
 else
  some (σ, x0)) := by
  exact (srun_unr _ [] 6 _).trans rfl
/-! GridQuarrels$Acts.forget()V: method 4; stops [] -/
theorem b_Acts_forget (Ln d : Nat) (σ : mmSt) : srun (lyT Ln) ((d + 1), 4, 0, [mR 21], [], σ) =
 some ((mup σ 21 0 0), 0) := by
  exact (srun_unr _ [] 4 _).trans rfl
/-! GridQuarrels$Acts.keep(LGridQuarrels$County;)V: method 5; stops [5, 6] -/
theorem b_Acts_keep (Ln d : Nat) (σ : mmSt) : srun (lyT Ln) ((d + 1), 5, 0, [mR 21, mR 48], [], σ) =
 srun (lyT Ln) ((d + 1), 5, 5, [mR 21, mR 48], [mI (σ 21 2), mR 22, mR 48], σ) := by
  exact (srun_unr _ [5, 6] 5 _).trans rfl
theorem b_Acts_keep_6 (Ln d : Nat) (σ : mmSt) (pg : Nat) (hp : mpage pg) : srun (lyT Ln) ((d + 1), 5, 6, [mR 21, mR 48], [mR pg, mR 48], σ) =
 (Option.bind (srun (lyT Ln) (d, 25, 0, [mR 48, mR pg], [], σ)) (fun y1 =>
 (bif decide (24 ≤ (mwrap ((y1.1 21 2) + 1))) then
  (Option.bind (srun (lyT Ln) (d, 2, 0, [mI 24, mI (mwrap (((mup y1.1 21 2 0) 21 0) + 1))], [], (mup y1.1 21 2 0))) (fun y2 =>
  some ((mup y2.1 21 0 y2.2), 0)))
 else
  (Option.bind (srun (lyT Ln) (d, 2, 0, [mI 24, mI (mwrap (((mup y1.1 21 2 (mwrap ((y1.1 21 2) + 1))) 21 0) + 1))], [], (mup y1.1 21 2 (mwrap ((y1.1 21 2) + 1))))) (fun y3 =>
  some ((mup y3.1 21 0 y3.2), 0)))))) := by
  rcases hp with rfl | rfl | rfl | rfl | rfl | rfl | rfl | rfl | rfl | rfl | rfl | rfl | rfl | rfl | rfl | rfl | rfl | rfl | rfl | rfl | rfl | rfl | rfl | rfl <;> exact (srun_unr _ [5, 6] 23 _).trans rfl
/-! GridQuarrels$Acts.takeBack(LGridQuarrels$County;)V: method 6; stops [26, 27] -/
theorem b_Acts_takeBack (Ln d : Nat) (σ : mmSt) : srun (lyT Ln) ((d + 1), 6, 0, [mR 21, mR 48], [], σ) =
 (bif decide (¬ (σ 21 0) = 0) then
  (bif decide ((σ 21 2) ≤ 0) then
   srun (lyT Ln) ((d + 1), 6, 26, [mR 21, mR 48], [mI ((mup (mup σ 21 2 23) 21 0 (mwrap (((mup σ 21 2 23) 21 0) - 1))) 21 2), mR 22, mR 48], (mup (mup σ 21 2 23) 21 0 (mwrap (((mup σ 21 2 23) 21 0) - 1))))
  else
   srun (lyT Ln) ((d + 1), 6, 26, [mR 21, mR 48], [mI ((mup (mup σ 21 2 (mwrap ((σ 21 2) - 1))) 21 0 (mwrap (((mup σ 21 2 (mwrap ((σ 21 2) - 1))) 21 0) - 1))) 21 2), mR 22, mR 48], (mup (mup σ 21 2 (mwrap ((σ 21 2) - 1))) 21 0 (mwrap (((mup σ 21 2 (mwrap ((σ 21 2) - 1))) 21 0) - 1)))))
 else
  some (σ, 0)) := by
  exact (srun_unr _ [26, 27] 24 _).trans rfl
theorem b_Acts_takeBack_27 (Ln d : Nat) (σ : mmSt) (pg : Nat) (hp : mpage pg) : srun (lyT Ln) ((d + 1), 6, 27, [mR 21, mR 48], [mR pg, mR 48], σ) =
 (Option.bind (srun (lyT Ln) (d, 26, 0, [mR 48, mR pg], [], σ)) (fun y1 =>
 some (y1.1, 0))) := by
  rcases hp with rfl | rfl | rfl | rfl | rfl | rfl | rfl | rfl | rfl | rfl | rfl | rfl | rfl | rfl | rfl | rfl | rfl | rfl | rfl | rfl | rfl | rfl | rfl | rfl <;> exact (srun_unr _ [26, 27] 2 _).trans rfl
/-! GridQuarrels$Asker.answer(LGridQuarrels$County;II)I: method 8; stops [] -/
theorem b_Asker_answer (Ln d : Nat) (σ : mmSt) (x1 x2 : Int) : srun (lyT Ln) ((d + 1), 8, 0, [mR 69, mR 48, mI x1, mI x2], [], σ) =
 (Option.bind (srun (lyT Ln) (d, 10, 0, [mR 69, mR 48, mI x2, mI x1, mI 0], [], (mup σ 69 1 0))) (fun y1 =>
 some (y1.1, y1.2))) := by
  exact (srun_unr _ [] 10 _).trans rfl
/-! GridQuarrels$Asker.leftAt(I)I: method 9; stops [] -/
theorem b_Asker_leftAt (Ln d : Nat) (σ : mmSt) (x0 : Int) : srun (lyT Ln) ((d + 1), 9, 0, [mR 69, mI x0], [], σ) =
 (Option.bind (srun (lyT Ln) (d, 150, 0, [mI x0, mI 0, mI (mwrap ((σ 69 1) - 1))], [], σ)) (fun y1 =>
 (bif decide (y1.2 = 0) then
  some (y1.1, (-1000000))
 else
  (bif minb x0 16 then
  some (y1.1, (y1.1 70 (Int.toNat x0)))
  else none)))) := by
  exact (srun_unr _ [] 14 _).trans rfl
/-! GridQuarrels$Asker.begin(LGridQuarrels$County;III)I: method 10; stops [] -/
theorem b_Asker_begin (Ln d : Nat) (σ : mmSt) (x1 x2 x3 : Int) : srun (lyT Ln) ((d + 1), 10, 0, [mR 69, mR 48, mI x1, mI x2, mI x3], [], σ) =
 (bif minb x2 5 then
 (Option.bind (srun (lyT Ln) (d, 11, 0, [mI x1, mI (σ 53 (Int.toNat x2)), mJ, mJ, mJ], [], σ)) (fun y1 =>
 (Option.bind (srun (lyT Ln) (d, 13, 0, [mR 69, mR 48, mI y1.2, mI x2, mI x3, mJ], [], y1.1)) (fun y2 =>
 some (y2.1, y2.2)))))
 else none) := by
  exact (srun_unr _ [] 12 _).trans rfl
/-! GridQuarrels$Asker.bodyFor(II)I: method 11; stops [10] -/
theorem b_Asker_bodyFor (Ln d : Nat) (σ : mmSt) (x0 x1 : Int) : srun (lyT Ln) ((d + 1), 11, 0, [mI x0, mI x1, mJ, mJ, mJ], [], σ) =
 (bif decide (¬ x0 = 0) then
  srun (lyT Ln) ((d + 1), 11, 10, [mI x0, mI x1, mR 3, mI x1, mI 0], [], σ)
 else
  srun (lyT Ln) ((d + 1), 11, 10, [mI x0, mI x1, mR 2, mI x1, mI 0], [], σ)) := by
  exact (srun_unr _ [10] 9 _).trans rfl
theorem b_Asker_bodyFor_10 (Ln d : Nat) (σ : mmSt) (z0 z1 z3 z4 : Int) (mb : Nat) (hm : mb = 2 ∨ mb = 3) : srun (lyT Ln) ((d + 1), 11, 10, [mI z0, mI z1, mR mb, mI z3, mI z4], [], σ) =
 (bif decide (5 ≤ z4) then
  (bif minb z3 6 then
  some (σ, (σ mb (Int.toNat z3)))
  else none)
 else
  (bif minb z3 6 then
  (bif decide (¬ (σ mb (Int.toNat z3)) = 0) then
   (bif minb z3 6 then
   some (σ, (σ mb (Int.toNat z3)))
   else none)
  else
   (bif minb z3 6 then
   srun (lyT Ln) ((d + 1), 11, 10, [mI z0, mI z1, mR mb, mI (σ 1 (Int.toNat z3)), mI (mwrap (z4 + 1))], [], σ)
   else none))
  else none)) := by
  rcases hm with rfl | rfl <;> exact (srun_unr _ [10] 13 _).trans rfl
/-! GridQuarrels$Asker.leave(I)V: method 12; stops [] -/
theorem b_Asker_leave (Ln d : Nat) (σ : mmSt) (x0 : Int) : srun (lyT Ln) ((d + 1), 12, 0, [mR 69, mI x0], [], σ) =
 (bif decide (16 ≤ (σ 69 1)) then
  some (σ, 0)
 else
  (bif minb (σ 69 1) 16 then
  some ((mup (mup σ 70 (Int.toNat (σ 69 1)) x0) 69 1 (mwrap (((mup σ 70 (Int.toNat (σ 69 1)) x0) 69 1) + 1))), 0)
  else none)) := by
  exact (srun_unr _ [] 17 _).trans rfl
/-! GridQuarrels$Asker.give(LGridQuarrels$County;III)I: method 13; stops [] -/
theorem b_Asker_give (Ln d : Nat) (σ : mmSt) (x1 x2 x3 : Int) : srun (lyT Ln) ((d + 1), 13, 0, [mR 69, mR 48, mI x1, mI x2, mI x3, mJ], [], σ) =
 (bif decide (x3 ≤ 20) then
  (Option.bind (srun (lyT Ln) (d, 12, 0, [mR 69, mI x1], [], σ)) (fun y1 =>
  (bif decide (x1 = 10) then
  (bif minb x2 5 then
   some (y1.1, (y1.1 55 (Int.toNat x2)))
   else none)
  else
  (bif decide (x1 = 11) then
  (Option.bind (srun (lyT Ln) (d, 13, 0, [mR 69, mR 48, mI 10, mI x2, mI (mwrap (x3 + 1)), mJ], [], y1.1)) (fun y10 =>
   (Option.bind (srun (lyT Ln) (d, 10, 0, [mR 69, mR 48, mI 1, mI x2, mI (mwrap (x3 + 1))], [], y10.1)) (fun y11 =>
   some (y11.1, (mwrap (y10.2 + y11.2)))))))
  else
  (bif decide (x1 = 12) then
  (Option.bind (srun (lyT Ln) (d, 13, 0, [mR 69, mR 48, mI 11, mI x2, mI (mwrap (x3 + 1)), mJ], [], y1.1)) (fun y9 =>
   some (y9.1, (mwrap (-y9.2)))))
  else
  (bif decide (x1 = 13) then
  (Option.bind (srun (lyT Ln) (d, 13, 0, [mR 69, mR 48, mI 10, mI x2, mI (mwrap (x3 + 1)), mJ], [], y1.1)) (fun y8 =>
   some (y8.1, (mwrap (y8.2 - 100)))))
  else
  (bif decide (x1 = 14) then
  (Option.bind (srun (lyT Ln) (d, 13, 0, [mR 69, mR 48, mI 13, mI x2, mI (mwrap (x3 + 1)), mJ], [], y1.1)) (fun y7 =>
   some (y7.1, (mwrap (2 * y7.2)))))
  else
  (bif decide (x1 = 15) then
  some (y1.1, 0)
  else
  (bif decide (x1 = 16) then
  some (y1.1, 0)
  else
  (bif decide (x1 = 17) then
  some (y1.1, 0)
  else
  (bif decide (x1 = 18) then
  some (y1.1, 0)
  else
  (bif decide (x1 = 19) then
  some (y1.1, 0)
  else
  (bif decide (x1 = 20) then
  some (y1.1, x2)
  else
  (bif decide (x1 = 21) then
  (Option.bind (srun (lyT Ln) (d, 13, 0, [mR 69, mR 48, mI 20, mI x2, mI (mwrap (x3 + 1)), mJ], [], y1.1)) (fun y6 =>
   (bif minb x2 5 then
   some (y6.1, (mwrap (y6.2 + (y6.1 54 (Int.toNat x2)))))
   else none)))
  else
  (bif decide (x1 = 22) then
  (Option.bind (srun (lyT Ln) (d, 13, 0, [mR 69, mR 48, mI 21, mI x2, mI (mwrap (x3 + 1)), mJ], [], y1.1)) (fun y5 =>
   some (y5.1, (mwrap (y5.2 - 1000)))))
  else
  (bif decide (x1 = 23) then
  (Option.bind (srun (lyT Ln) (d, 13, 0, [mR 69, mR 48, mI 20, mI x2, mI (mwrap (x3 + 1)), mJ], [], y1.1)) (fun y3 =>
   (Option.bind (srun (lyT Ln) (d, 10, 0, [mR 69, mR 48, mI 0, mI x2, mI (mwrap (x3 + 1))], [], y3.1)) (fun y4 =>
   some (y4.1, (mwrap (y3.2 - y4.2)))))))
  else
  (bif decide (x1 = 24) then
  (Option.bind (srun (lyT Ln) (d, 13, 0, [mR 69, mR 48, mI 21, mI x2, mI (mwrap (x3 + 1)), mJ], [], y1.1)) (fun y2 =>
   some (y2.1, (mwrap (2 * y2.2)))))
  else
  some (y1.1, 0))))))))))))))))))
 else
  some (σ, 0)) := by
  exact (srun_unr _ [] 26 _).trans rfl
/-! GridQuarrels$County.isTold()Z: method 15; stops [] -/
theorem b_County_isTold (Ln d : Nat) (σ : mmSt) (a : Nat) (ha : cnty a) : srun (lyT Ln) ((d + 1), 15, 0, [mR a], [], σ) =
 (bif decide ((σ a 0) ≤ 0) then
  some (σ, 0)
 else
  some (σ, 1)) := by
  rcases ha with rfl | rfl | rfl | rfl | rfl <;> exact (srun_unr _ [] 6 _).trans rfl
/-! GridQuarrels$County.isParish(I)Z: method 16; stops [] -/
theorem b_County_isParish (Ln d : Nat) (σ : mmSt) (x0 : Int) (a : Nat) (ha : cnty a) : srun (lyT Ln) ((d + 1), 16, 0, [mR a, mI x0], [], σ) =
 (Option.bind (srun (lyT Ln) (d, 150, 0, [mI x0, mI 0, mI (mwrap ((σ a 0) - 1))], [], σ)) (fun y1 =>
 (bif decide (0 ≤ y1.2) && decide (y1.2 ≤ 1) then some (y1.1, y1.2) else none))) := by
  rcases ha with rfl | rfl | rfl | rfl | rfl <;> exact (srun_unr _ [] 8 _).trans rfl
/-! GridQuarrels$County.isRoad(I)Z: method 17; stops [] -/
theorem b_County_isRoad (Ln d : Nat) (σ : mmSt) (x0 : Int) (a : Nat) (ha : cnty a) : srun (lyT Ln) ((d + 1), 17, 0, [mR a, mI x0], [], σ) =
 (Option.bind (srun (lyT Ln) (d, 150, 0, [mI x0, mI 0, mI (mwrap ((σ a 1) - 1))], [], σ)) (fun y1 =>
 (bif decide (0 ≤ y1.2) && decide (y1.2 ≤ 1) then some (y1.1, y1.2) else none))) := by
  rcases ha with rfl | rfl | rfl | rfl | rfl <;> exact (srun_unr _ [] 8 _).trans rfl
/-! GridQuarrels$County.isQuarrel(I)Z: method 18; stops [] -/
theorem b_County_isQuarrel (Ln d : Nat) (σ : mmSt) (x0 : Int) (a : Nat) (ha : cnty a) : srun (lyT Ln) ((d + 1), 18, 0, [mR a, mI x0], [], σ) =
 (Option.bind (srun (lyT Ln) (d, 150, 0, [mI x0, mI 0, mI (mwrap ((σ a 2) - 1))], [], σ)) (fun y1 =>
 (bif decide (0 ≤ y1.2) && decide (y1.2 ≤ 1) then some (y1.1, y1.2) else none))) := by
  rcases ha with rfl | rfl | rfl | rfl | rfl <;> exact (srun_unr _ [] 8 _).trans rfl
/-! GridQuarrels$County.isDead(I)Z: method 19; stops [] -/
theorem b_County_isDead (Ln d : Nat) (σ : mmSt) (x0 : Int) (a : Nat) (ha : cnty a) : srun (lyT Ln) ((d + 1), 19, 0, [mR a, mI x0], [], σ) =
 (bif minb x0 5 then
 (bif decide (¬ (σ (a + 7) (Int.toNat x0)) = 0) then
  some (σ, 0)
 else
  some (σ, 1))
 else none) := by
  rcases ha with rfl | rfl | rfl | rfl | rfl <;> exact (srun_unr _ [] 8 _).trans rfl
/-! GridQuarrels$County.clear()V: method 20; stops [] -/
theorem b_County_clear (Ln d : Nat) (σ : mmSt) (a : Nat) (ha : cnty a) : srun (lyT Ln) ((d + 1), 20, 0, [mR a], [], σ) =
 some ((mup (mup (mup (mup σ a 0 0) a 1 0) a 2 0) a 3 0), 0) := by
  rcases ha with rfl | rfl | rfl | rfl | rfl <;> exact (srun_unr _ [] 13 _).trans rfl
/-! GridQuarrels$County.addParishes(II)V: method 21; stops [5] -/
theorem b_County_addParishes (Ln d : Nat) (σ : mmSt) (x0 x1 : Int) (a : Nat) (ha : cnty a) : srun (lyT Ln) ((d + 1), 21, 0, [mR a, mI x0, mI x1, mJ], [], σ) =
 srun (lyT Ln) ((d + 1), 21, 5, [mR a, mI x0, mI x1, mI 0], [], (mup σ a 0 x0)) := by
  rcases ha with rfl | rfl | rfl | rfl | rfl <;> exact (srun_unr _ [5] 5 _).trans rfl
theorem b_County_addParishes_5 (Ln d : Nat) (σ : mmSt) (z1 z2 z3 : Int) (a : Nat) (ha : cnty a) : srun (lyT Ln) ((d + 1), 21, 5, [mR a, mI z1, mI z2, mI z3], [], σ) =
 (bif decide (7 ≤ z3) then
  some (σ, 0)
 else
  (bif decide (z1 ≤ z3) then
   (bif minb z3 7 then
   srun (lyT Ln) ((d + 1), 21, 5, [mR a, mI z1, mI z2, mI (mwrap (z3 + 1))], [], (mup σ (a + 1) (Int.toNat z3) 0))
   else none)
  else
   (bif minb z3 7 then
   srun (lyT Ln) ((d + 1), 21, 5, [mR a, mI z1, mI z2, mI (mwrap (z3 + 1))], [], (mup σ (a + 1) (Int.toNat z3) z2))
   else none))) := by
  rcases ha with rfl | rfl | rfl | rfl | rfl <;> exact (srun_unr _ [5] 14 _).trans rfl
/-! GridQuarrels$County.addRoad(III)V: method 22; stops [] -/
theorem b_County_addRoad (Ln d : Nat) (σ : mmSt) (x0 x1 x2 : Int) (a : Nat) (ha : cnty a) : srun (lyT Ln) ((d + 1), 22, 0, [mR a, mI x0, mI x1, mI x2], [], σ) =
 (bif decide ((σ a 1) < 7) then
  (bif minb (σ a 1) 7 then
  (bif minb ((mup σ (a + 2) (Int.toNat (σ a 1)) x0) a 1) 7 then
  (bif minb ((mup (mup σ (a + 2) (Int.toNat (σ a 1)) x0) (a + 3) (Int.toNat ((mup σ (a + 2) (Int.toNat (σ a 1)) x0) a 1)) x1) a 1) 7 then
  some ((mup (mup (mup (mup σ (a + 2) (Int.toNat (σ a 1)) x0) (a + 3) (Int.toNat ((mup σ (a + 2) (Int.toNat (σ a 1)) x0) a 1)) x1) (a + 4) (Int.toNat ((mup (mup σ (a + 2) (Int.toNat (σ a 1)) x0) (a + 3) (Int.toNat ((mup σ (a + 2) (Int.toNat (σ a 1)) x0) a 1)) x1) a 1)) x2) a 1 (mwrap (((mup (mup (mup σ (a + 2) (Int.toNat (σ a 1)) x0) (a + 3) (Int.toNat ((mup σ (a + 2) (Int.toNat (σ a 1)) x0) a 1)) x1) (a + 4) (Int.toNat ((mup (mup σ (a + 2) (Int.toNat (σ a 1)) x0) (a + 3) (Int.toNat ((mup σ (a + 2) (Int.toNat (σ a 1)) x0) a 1)) x1) a 1)) x2) a 1) + 1))), 0)
  else none)
  else none)
  else none)
 else
  some (σ, 0)) := by
  rcases ha with rfl | rfl | rfl | rfl | rfl <;> exact (srun_unr _ [] 29 _).trans rfl
/-! GridQuarrels$County.addQuarrel(IIII)V: method 23; stops [] -/
theorem b_County_addQuarrel (Ln d : Nat) (σ : mmSt) (x0 x1 x2 x3 : Int) (a : Nat) (ha : cnty a) : srun (lyT Ln) ((d + 1), 23, 0, [mR a, mI x0, mI x1, mI x2, mI x3], [], σ) =
 (bif decide ((σ a 2) < 5) then
  (bif minb (σ a 2) 5 then
  (bif minb ((mup σ (a + 5) (Int.toNat (σ a 2)) x0) a 2) 5 then
  (bif minb ((mup (mup σ (a + 5) (Int.toNat (σ a 2)) x0) (a + 6) (Int.toNat ((mup σ (a + 5) (Int.toNat (σ a 2)) x0) a 2)) x1) a 2) 5 then
  (bif minb ((mup (mup (mup σ (a + 5) (Int.toNat (σ a 2)) x0) (a + 6) (Int.toNat ((mup σ (a + 5) (Int.toNat (σ a 2)) x0) a 2)) x1) (a + 7) (Int.toNat ((mup (mup σ (a + 5) (Int.toNat (σ a 2)) x0) (a + 6) (Int.toNat ((mup σ (a + 5) (Int.toNat (σ a 2)) x0) a 2)) x1) a 2)) x2) a 2) 5 then
  some ((mup (mup (mup (mup (mup σ (a + 5) (Int.toNat (σ a 2)) x0) (a + 6) (Int.toNat ((mup σ (a + 5) (Int.toNat (σ a 2)) x0) a 2)) x1) (a + 7) (Int.toNat ((mup (mup σ (a + 5) (Int.toNat (σ a 2)) x0) (a + 6) (Int.toNat ((mup σ (a + 5) (Int.toNat (σ a 2)) x0) a 2)) x1) a 2)) x2) (a + 8) (Int.toNat ((mup (mup (mup σ (a + 5) (Int.toNat (σ a 2)) x0) (a + 6) (Int.toNat ((mup σ (a + 5) (Int.toNat (σ a 2)) x0) a 2)) x1) (a + 7) (Int.toNat ((mup (mup σ (a + 5) (Int.toNat (σ a 2)) x0) (a + 6) (Int.toNat ((mup σ (a + 5) (Int.toNat (σ a 2)) x0) a 2)) x1) a 2)) x2) a 2)) x3) a 2 (mwrap (((mup (mup (mup (mup σ (a + 5) (Int.toNat (σ a 2)) x0) (a + 6) (Int.toNat ((mup σ (a + 5) (Int.toNat (σ a 2)) x0) a 2)) x1) (a + 7) (Int.toNat ((mup (mup σ (a + 5) (Int.toNat (σ a 2)) x0) (a + 6) (Int.toNat ((mup σ (a + 5) (Int.toNat (σ a 2)) x0) a 2)) x1) a 2)) x2) (a + 8) (Int.toNat ((mup (mup (mup σ (a + 5) (Int.toNat (σ a 2)) x0) (a + 6) (Int.toNat ((mup σ (a + 5) (Int.toNat (σ a 2)) x0) a 2)) x1) (a + 7) (Int.toNat ((mup (mup σ (a + 5) (Int.toNat (σ a 2)) x0) (a + 6) (Int.toNat ((mup σ (a + 5) (Int.toNat (σ a 2)) x0) a 2)) x1) a 2)) x2) a 2)) x3) a 2) + 1))), 0)
  else none)
  else none)
  else none)
  else none)
 else
  some (σ, 0)) := by
  rcases ha with rfl | rfl | rfl | rfl | rfl <;> exact (srun_unr _ [] 35 _).trans rfl
/-! GridQuarrels$County.become(LGridQuarrels$County;)V: method 24; stops [88] -/
set_option maxRecDepth 100000 in
theorem b_County_become (Ln d : Nat) (σ : mmSt) (a b : Nat) (hab : bpair a b) : srun (lyT Ln) ((d + 1), 24, 0, [mR a, mR b, mJ], [], σ) =
 srun (lyT Ln) ((d + 1), 24, 88, [mR a, mR b, mI 0], [], (mup (mup (mcpy (mcpy (mcpy (mcpy (mcpy (mcpy (mcpy (mcpy (mup (mup (mup (mup σ a 0 (σ b 0)) a 1 ((mup σ a 0 (σ b 0)) b 1)) a 2 ((mup (mup σ a 0 (σ b 0)) a 1 ((mup σ a 0 (σ b 0)) b 1)) b 2)) a 3 ((mup (mup (mup σ a 0 (σ b 0)) a 1 ((mup σ a 0 (σ b 0)) b 1)) a 2 ((mup (mup σ a 0 (σ b 0)) a 1 ((mup σ a 0 (σ b 0)) b 1)) b 2)) b 3)) (b + 1) 0 (a + 1) 0 7) (b + 2) 0 (a + 2) 0 7) (b + 3) 0 (a + 3) 0 7) (b + 4) 0 (a + 4) 0 7) (b + 5) 0 (a + 5) 0 5) (b + 6) 0 (a + 6) 0 5) (b + 7) 0 (a + 7) 0 5) (b + 8) 0 (a + 8) 0 5) a 12 0) a 13 0)) := by
  rcases hab with ⟨rfl, rfl⟩ | ⟨rfl, rfl⟩ | ⟨rfl, rfl⟩ | ⟨rfl, rfl⟩ | ⟨rfl, rfl⟩ | ⟨rfl, rfl⟩ <;> exact (srun_unr _ [88] 88 _).trans rfl
theorem b_County_become_88 (Ln d : Nat) (σ : mmSt) (z2 : Int) (a b : Nat) (hab : bpair a b) : srun (lyT Ln) ((d + 1), 24, 88, [mR a, mR b, mI z2], [], σ) =
 (bif decide (5 ≤ z2) then
  some (σ, 0)
 else
  (bif minb z2 5 then
  srun (lyT Ln) ((d + 1), 24, 88, [mR a, mR b, mI (mwrap (z2 + 1))], [], (mup σ (a + 9) (Int.toNat z2) 0))
  else none)) := by
  rcases hab with ⟨rfl, rfl⟩ | ⟨rfl, rfl⟩ | ⟨rfl, rfl⟩ | ⟨rfl, rfl⟩ | ⟨rfl, rfl⟩ | ⟨rfl, rfl⟩ <;> exact (srun_unr _ [88] 10 _).trans rfl
/-! GridQuarrels$County.writeTo([I)V: method 25; stops [] -/
theorem b_County_writeTo (Ln d : Nat) (σ : mmSt) (a : Nat) (ha : cnty a) (pg : Nat) (hp : mpage pg) : srun (lyT Ln) ((d + 1), 25, 0, [mR a, mR pg], [], σ) =
 some ((mcpy (mcpy (mcpy (mcpy (mup σ pg 0 (σ a 3)) (a + 1) 0 pg 1 7) (a + 4) 0 pg 8 7) (a + 6) 0 pg 15 5) (a + 7) 0 pg 20 5), 0) := by
  rcases ha with rfl | rfl | rfl | rfl | rfl <;> rcases hp with rfl | rfl | rfl | rfl | rfl | rfl | rfl | rfl | rfl | rfl | rfl | rfl | rfl | rfl | rfl | rfl | rfl | rfl | rfl | rfl | rfl | rfl | rfl | rfl <;> exact (srun_unr _ [] 34 _).trans rfl
/-! GridQuarrels$County.readFrom([I)V: method 26; stops [] -/
theorem b_County_readFrom (Ln d : Nat) (σ : mmSt) (a : Nat) (ha : cnty a) (pg : Nat) (hp : mpage pg) : srun (lyT Ln) ((d + 1), 26, 0, [mR a, mR pg], [], σ) =
 some ((mcpy (mcpy (mcpy (mcpy (mup σ a 3 (σ pg 0)) pg 1 (a + 1) 0 7) pg 8 (a + 4) 0 7) pg 15 (a + 6) 0 5) pg 20 (a + 7) 0 5), 0) := by
  rcases ha with rfl | rfl | rfl | rfl | rfl <;> rcases hp with rfl | rfl | rfl | rfl | rfl | rfl | rfl | rfl | rfl | rfl | rfl | rfl | rfl | rfl | rfl | rfl | rfl | rfl | rfl | rfl | rfl | rfl | rfl | rfl <;> exact (srun_unr _ [] 34 _).trans rfl
/-! GridQuarrels$County.touches(II)Z: method 27; stops [] -/
theorem b_County_touches (Ln d : Nat) (σ : mmSt) (x0 x1 : Int) (a : Nat) (ha : cnty a) : srun (lyT Ln) ((d + 1), 27, 0, [mR a, mI x0, mI x1], [], σ) =
 (bif minb x0 7 then
 (bif decide ((σ (a + 2) (Int.toNat x0)) = x1) then
  some (σ, 1)
 else
  (bif minb x0 7 then
  (bif decide (¬ (σ (a + 3) (Int.toNat x0)) = x1) then
   some (σ, 0)
  else
   some (σ, 1))
  else none))
 else none) := by
  rcases ha with rfl | rfl | rfl | rfl | rfl <;> exact (srun_unr _ [] 15 _).trans rfl
/-! GridQuarrels$County.farEnd(II)I: method 28; stops [] -/
theorem b_County_farEnd (Ln d : Nat) (σ : mmSt) (x0 x1 : Int) (a : Nat) (ha : cnty a) : srun (lyT Ln) ((d + 1), 28, 0, [mR a, mI x0, mI x1], [], σ) =
 (bif minb x0 7 then
 (bif decide (¬ (σ (a + 2) (Int.toNat x0)) = x1) then
  (bif minb x0 7 then
  some (σ, (σ (a + 2) (Int.toNat x0)))
  else none)
 else
  (bif minb x0 7 then
  some (σ, (σ (a + 3) (Int.toNat x0)))
  else none))
 else none) := by
  rcases ha with rfl | rfl | rfl | rfl | rfl <;> exact (srun_unr _ [] 12 _).trans rfl
/-! GridQuarrels$County.crosses(II)Z: method 29; stops [] -/
theorem b_County_crosses (Ln d : Nat) (σ : mmSt) (x0 x1 : Int) (a : Nat) (ha : cnty a) : srun (lyT Ln) ((d + 1), 29, 0, [mR a, mI x0, mI x1], [], σ) =
 (bif minb x0 5 then
 (bif decide ((σ (a + 5) (Int.toNat x0)) = 2) then
 (bif minb x1 7 then
  (bif minb x0 5 then
  (bif decide ((mwrap ((σ (a + 7) (Int.toNat x0)) + 3)) ≤ (σ (a + 4) (Int.toNat x1))) then
   some (σ, 0)
  else
   some (σ, 1))
  else none)
  else none)
 else
 (bif decide ((σ (a + 5) (Int.toNat x0)) = 3) then
 (bif minb x1 7 then
  (bif decide (¬ (σ (a + 4) (Int.toNat x1)) = 0) then
   some (σ, 0)
  else
   some (σ, 1))
  else none)
 else
 (bif minb x1 7 then
 (bif minb x0 5 then
 (bif decide ((σ (a + 7) (Int.toNat x0)) ≤ (σ (a + 4) (Int.toNat x1))) then
  some (σ, 0)
 else
  some (σ, 1))
 else none)
 else none)))
 else none) := by
  rcases ha with rfl | rfl | rfl | rfl | rfl <;> exact (srun_unr _ [] 19 _).trans rfl
/-! GridQuarrels$County.wouldGo(I)Z: method 30; stops [] -/
theorem b_County_wouldGo (Ln d : Nat) (σ : mmSt) (x0 : Int) (a : Nat) (ha : cnty a) : srun (lyT Ln) ((d + 1), 30, 0, [mR a, mI x0], [], σ) =
 (bif minb x0 5 then
 (bif decide ((σ (a + 5) (Int.toNat x0)) = 4) then
  (bif minb x0 5 then
  (bif minb (σ (a + 6) (Int.toNat x0)) 7 then
  (bif decide (¬ (σ (a + 1) (Int.toNat (σ (a + 6) (Int.toNat x0)))) = 0) then
   some (σ, 0)
  else
   some (σ, 1))
  else none)
  else none)
 else
  (bif minb x0 5 then
  (bif decide (¬ (σ (a + 5) (Int.toNat x0)) = 5) then
   some (σ, 1)
  else
   (bif minb x0 5 then
   (bif minb (σ (a + 6) (Int.toNat x0)) 7 then
   (bif decide (¬ (σ (a + 1) (Int.toNat (σ (a + 6) (Int.toNat x0)))) = 0) then
    some (σ, 0)
   else
    some (σ, 1))
   else none)
   else none))
  else none))
 else none) := by
  rcases ha with rfl | rfl | rfl | rfl | rfl <;> exact (srun_unr _ [] 23 _).trans rfl
/-! GridQuarrels$County.nextPlace(I)I: method 31; stops [19] -/
theorem b_County_nextPlace (Ln d : Nat) (σ : mmSt) (x0 : Int) (a : Nat) (ha : cnty a) : srun (lyT Ln) ((d + 1), 31, 0, [mR a, mI x0, mJ, mJ, mJ], [], σ) =
 (bif minb x0 5 then
 (Option.bind (srun (lyT Ln) (d, 19, 0, [mR a, mI x0], [], σ)) (fun y1 =>
 (bif decide (¬ y1.2 = 0) then
  some (y1.1, (σ (a + 6) (Int.toNat x0)))
 else
  (Option.bind (srun (lyT Ln) (d, 30, 0, [mR a, mI x0], [], y1.1)) (fun y2 =>
  (bif decide (¬ y2.2 = 0) then
   srun (lyT Ln) ((d + 1), 31, 19, [mR a, mI x0, mI (σ (a + 6) (Int.toNat x0)), mI (σ (a + 6) (Int.toNat x0)), mI 0], [], y2.1)
  else
   some (y2.1, (σ (a + 6) (Int.toNat x0)))))))))
 else none) := by
  rcases ha with rfl | rfl | rfl | rfl | rfl <;> exact (srun_unr _ [19] 17 _).trans rfl
theorem b_County_nextPlace_19 (Ln d : Nat) (σ : mmSt) (z1 z2 z3 z4 : Int) (a : Nat) (ha : cnty a) : srun (lyT Ln) ((d + 1), 31, 19, [mR a, mI z1, mI z2, mI z3, mI z4], [], σ) =
 (bif decide ((σ a 1) ≤ z4) then
  some (σ, z3)
 else
  (Option.bind (srun (lyT Ln) (d, 27, 0, [mR a, mI z4, mI z2], [], σ)) (fun y1 =>
  (bif decide (y1.2 = 0) then
   srun (lyT Ln) ((d + 1), 31, 19, [mR a, mI z1, mI z2, mI z3, mI (mwrap (z4 + 1))], [], y1.1)
  else
   (Option.bind (srun (lyT Ln) (d, 29, 0, [mR a, mI z1, mI z4], [], y1.1)) (fun y2 =>
   (bif decide (y2.2 = 0) then
    srun (lyT Ln) ((d + 1), 31, 19, [mR a, mI z1, mI z2, mI z3, mI (mwrap (z4 + 1))], [], y2.1)
   else
    (Option.bind (srun (lyT Ln) (d, 28, 0, [mR a, mI z4, mI z2], [], y2.1)) (fun y3 =>
    (bif minb y3.2 7 then
    (bif minb z3 7 then
    (bif decide ((y3.1 (a + 1) (Int.toNat y3.2)) ≤ (y3.1 (a + 1) (Int.toNat z3))) then
     srun (lyT Ln) ((d + 1), 31, 19, [mR a, mI z1, mI z2, mI z3, mI (mwrap (z4 + 1))], [], y3.1)
    else
     (Option.bind (srun (lyT Ln) (d, 28, 0, [mR a, mI z4, mI z2], [], y3.1)) (fun y4 =>
     srun (lyT Ln) ((d + 1), 31, 19, [mR a, mI z1, mI z2, mI y4.2, mI (mwrap (z4 + 1))], [], y4.1))))
    else none)
    else none)))))))))) := by
  rcases ha with rfl | rfl | rfl | rfl | rfl <;> exact (srun_unr _ [19] 33 _).trans rfl
/-! GridQuarrels$County.passYear()V: method 32; stops [2] -/
theorem b_County_passYear (Ln d : Nat) (σ : mmSt) (a : Nat) (ha : cnty a) : srun (lyT Ln) ((d + 1), 32, 0, [mR a, mJ], [], σ) =
 srun (lyT Ln) ((d + 1), 32, 2, [mR a, mI 0], [], σ) := by
  rcases ha with rfl | rfl | rfl | rfl | rfl <;> exact (srun_unr _ [2] 2 _).trans rfl
theorem b_County_passYear_2 (Ln d : Nat) (σ : mmSt) (z1 : Int) (a : Nat) (ha : cnty a) : srun (lyT Ln) ((d + 1), 32, 2, [mR a, mI z1], [], σ) =
 (bif decide ((σ a 2) ≤ z1) then
  some ((mup σ a 3 (mwrap ((σ a 3) + 1))), 0)
 else
  (Option.bind (srun (lyT Ln) (d, 19, 0, [mR a, mI z1], [], σ)) (fun y1 =>
  (bif decide (¬ y1.2 = 0) then
   srun (lyT Ln) ((d + 1), 32, 2, [mR a, mI (mwrap (z1 + 1))], [], y1.1)
  else
   (Option.bind (srun (lyT Ln) (d, 31, 0, [mR a, mI z1, mJ, mJ, mJ], [], y1.1)) (fun y2 =>
   (Option.bind (srun (lyT Ln) (d, 33, 0, [mR a, mI z1, mI y2.2], [], y2.1)) (fun y3 =>
   (Option.bind (srun (lyT Ln) (d, 34, 0, [mR a, mI z1, mJ], [], y3.1)) (fun y4 =>
   srun (lyT Ln) ((d + 1), 32, 2, [mR a, mI (mwrap (z1 + 1))], [], y4.1))))))))))) := by
  rcases ha with rfl | rfl | rfl | rfl | rfl <;> exact (srun_unr _ [2] 19 _).trans rfl
/-! GridQuarrels$County.walk(II)V: method 33; stops [] -/
theorem b_County_walk (Ln d : Nat) (σ : mmSt) (x0 x1 : Int) (a : Nat) (ha : cnty a) : srun (lyT Ln) ((d + 1), 33, 0, [mR a, mI x0, mI x1], [], σ) =
 (bif minb x0 5 then
 (bif decide (x1 = (σ (a + 6) (Int.toNat x0))) then
  some (σ, 0)
 else
  (bif minb x0 5 then
  some ((mup (mup σ a 13 (mwrap ((σ a 13) + 1))) (a + 6) (Int.toNat x0) x1), 0)
  else none))
 else none) := by
  rcases ha with rfl | rfl | rfl | rfl | rfl <;> exact (srun_unr _ [] 18 _).trans rfl
/-! GridQuarrels$County.eatOrStarve(I)V: method 34; stops [] -/
set_option maxRecDepth 100000 in
theorem b_County_eatOrStarve (Ln d : Nat) (σ : mmSt) (x0 : Int) (a : Nat) (ha : cnty a) : srun (lyT Ln) ((d + 1), 34, 0, [mR a, mI x0, mJ], [], σ) =
 (bif minb x0 5 then
 (bif minb (σ (a + 6) (Int.toNat x0)) 7 then
 (bif decide ((σ (a + 1) (Int.toNat (σ (a + 6) (Int.toNat x0)))) ≤ 0) then
  (bif minb x0 5 then
  (bif decide (¬ (σ (a + 5) (Int.toNat x0)) = 5) then
   (bif minb x0 5 then
   (Option.bind (srun (lyT Ln) (d, 1, 0, [mI 0, mI (mwrap ((σ (a + 7) (Int.toNat x0)) - 1))], [], σ)) (fun y1 =>
   (bif minb x0 5 then
   some ((mup y1.1 (a + 7) (Int.toNat x0) y1.2), 0)
   else none)))
   else none)
  else
   (bif minb x0 5 then
   (Option.bind (srun (lyT Ln) (d, 1, 0, [mI 1, mI (mwrap ((σ (a + 7) (Int.toNat x0)) - 1))], [], σ)) (fun y2 =>
   (bif minb x0 5 then
   some ((mup y2.1 (a + 7) (Int.toNat x0) y2.2), 0)
   else none)))
   else none))
  else none)
 else
  (bif minb (σ (a + 6) (Int.toNat x0)) 7 then
  (bif minb (σ (a + 6) (Int.toNat x0)) 7 then
  (bif minb x0 5 then
  (bif minb x0 5 then
  (bif decide (¬ ((mup σ (a + 1) (Int.toNat (σ (a + 6) (Int.toNat x0))) (mwrap ((σ (a + 1) (Int.toNat (σ (a + 6) (Int.toNat x0)))) - 1))) (a + 5) (Int.toNat x0)) = 3) then
   (Option.bind (srun (lyT Ln) (d, 2, 0, [mI 9, mI (mwrap (((mup σ (a + 1) (Int.toNat (σ (a + 6) (Int.toNat x0))) (mwrap ((σ (a + 1) (Int.toNat (σ (a + 6) (Int.toNat x0)))) - 1))) (a + 7) (Int.toNat x0)) + 1))], [], (mup σ (a + 1) (Int.toNat (σ (a + 6) (Int.toNat x0))) (mwrap ((σ (a + 1) (Int.toNat (σ (a + 6) (Int.toNat x0)))) - 1))))) (fun y3 =>
   (bif minb x0 5 then
   (bif minb x0 5 then
   (bif minb x0 5 then
   some ((mup (mup (mup y3.1 (a + 7) (Int.toNat x0) y3.2) (a + 9) (Int.toNat x0) (mwrap (((mup y3.1 (a + 7) (Int.toNat x0) y3.2) (a + 9) (Int.toNat x0)) + 1))) a 12 (mor ((mup (mup y3.1 (a + 7) (Int.toNat x0) y3.2) (a + 9) (Int.toNat x0) (mwrap (((mup y3.1 (a + 7) (Int.toNat x0) y3.2) (a + 9) (Int.toNat x0)) + 1))) a 12) (mshl 1 (σ (a + 6) (Int.toNat x0))))), 0)
   else none)
   else none)
   else none)))
  else
   (Option.bind (srun (lyT Ln) (d, 2, 0, [mI 9, mI (mwrap (((mup σ (a + 1) (Int.toNat (σ (a + 6) (Int.toNat x0))) (mwrap ((σ (a + 1) (Int.toNat (σ (a + 6) (Int.toNat x0)))) - 1))) (a + 7) (Int.toNat x0)) + 2))], [], (mup σ (a + 1) (Int.toNat (σ (a + 6) (Int.toNat x0))) (mwrap ((σ (a + 1) (Int.toNat (σ (a + 6) (Int.toNat x0)))) - 1))))) (fun y4 =>
   (bif minb x0 5 then
   (bif minb x0 5 then
   (bif minb x0 5 then
   some ((mup (mup (mup y4.1 (a + 7) (Int.toNat x0) y4.2) (a + 9) (Int.toNat x0) (mwrap (((mup y4.1 (a + 7) (Int.toNat x0) y4.2) (a + 9) (Int.toNat x0)) + 1))) a 12 (mor ((mup (mup y4.1 (a + 7) (Int.toNat x0) y4.2) (a + 9) (Int.toNat x0) (mwrap (((mup y4.1 (a + 7) (Int.toNat x0) y4.2) (a + 9) (Int.toNat x0)) + 1))) a 12) (mshl 1 (σ (a + 6) (Int.toNat x0))))), 0)
   else none)
   else none)
   else none))))
  else none)
  else none)
  else none)
  else none))
 else none)
 else none) := by
  rcases ha with rfl | rfl | rfl | rfl | rfl <;> exact (srun_unr _ [] 55 _).trans rfl
/-! GridQuarrels$County.putHay(II)V: method 35; stops [] -/
theorem b_County_putHay (Ln d : Nat) (σ : mmSt) (x0 x1 : Int) (a : Nat) (ha : cnty a) : srun (lyT Ln) ((d + 1), 35, 0, [mR a, mI x0, mI x1], [], σ) =
 (bif minb x0 7 then
 (Option.bind (srun (lyT Ln) (d, 2, 0, [mI 99, mI (mwrap ((σ (a + 1) (Int.toNat x0)) + x1))], [], σ)) (fun y1 =>
 (bif minb x0 7 then
 some ((mup y1.1 (a + 1) (Int.toNat x0) y1.2), 0)
 else none)))
 else none) := by
  rcases ha with rfl | rfl | rfl | rfl | rfl <;> exact (srun_unr _ [] 13 _).trans rfl
/-! GridQuarrels$County.allHay()I: method 36; stops [4] -/
theorem b_County_allHay (Ln d : Nat) (σ : mmSt) (a : Nat) (ha : cnty a) : srun (lyT Ln) ((d + 1), 36, 0, [mR a, mJ, mJ], [], σ) =
 srun (lyT Ln) ((d + 1), 36, 4, [mR a, mI 0, mI 0], [], σ) := by
  rcases ha with rfl | rfl | rfl | rfl | rfl <;> exact (srun_unr _ [4] 4 _).trans rfl
theorem b_County_allHay_4 (Ln d : Nat) (σ : mmSt) (z1 z2 : Int) (a : Nat) (ha : cnty a) : srun (lyT Ln) ((d + 1), 36, 4, [mR a, mI z1, mI z2], [], σ) =
 (bif decide ((σ a 0) ≤ z2) then
  some (σ, z1)
 else
  (bif minb z2 7 then
  srun (lyT Ln) ((d + 1), 36, 4, [mR a, mI (mwrap (z1 + (σ (a + 1) (Int.toNat z2)))), mI (mwrap (z2 + 1))], [], σ)
  else none)) := by
  rcases ha with rfl | rfl | rfl | rfl | rfl <;> exact (srun_unr _ [4] 13 _).trans rfl
/-! GridQuarrels$County.living()I: method 37; stops [4] -/
theorem b_County_living (Ln d : Nat) (σ : mmSt) (a : Nat) (ha : cnty a) : srun (lyT Ln) ((d + 1), 37, 0, [mR a, mJ, mJ], [], σ) =
 srun (lyT Ln) ((d + 1), 37, 4, [mR a, mI 0, mI 0], [], σ) := by
  rcases ha with rfl | rfl | rfl | rfl | rfl <;> exact (srun_unr _ [4] 4 _).trans rfl
theorem b_County_living_4 (Ln d : Nat) (σ : mmSt) (z1 z2 : Int) (a : Nat) (ha : cnty a) : srun (lyT Ln) ((d + 1), 37, 4, [mR a, mI z1, mI z2], [], σ) =
 (bif decide ((σ a 2) ≤ z2) then
  some (σ, z1)
 else
  (Option.bind (srun (lyT Ln) (d, 19, 0, [mR a, mI z2], [], σ)) (fun y1 =>
  (bif decide (¬ y1.2 = 0) then
   srun (lyT Ln) ((d + 1), 37, 4, [mR a, mI z1, mI (mwrap (z2 + 1))], [], y1.1)
  else
   srun (lyT Ln) ((d + 1), 37, 4, [mR a, mI (mwrap (z1 + 1)), mI (mwrap (z2 + 1))], [], y1.1))))) := by
  rcases ha with rfl | rfl | rfl | rfl | rfl <;> exact (srun_unr _ [4] 11 _).trans rfl
/-! GridQuarrels$County.livesIn(II)Z: method 38; stops [] -/
theorem b_County_livesIn (Ln d : Nat) (σ : mmSt) (x0 x1 : Int) (a : Nat) (ha : cnty a) : srun (lyT Ln) ((d + 1), 38, 0, [mR a, mI x0, mI x1], [], σ) =
 (Option.bind (srun (lyT Ln) (d, 19, 0, [mR a, mI x0], [], σ)) (fun y1 =>
 (bif decide (¬ y1.2 = 0) then
  some (y1.1, 0)
 else
  (bif minb x0 5 then
  (bif decide (¬ (y1.1 (a + 6) (Int.toNat x0)) = x1) then
   some (y1.1, 0)
  else
   some (y1.1, 1))
  else none)))) := by
  rcases ha with rfl | rfl | rfl | rfl | rfl <;> exact (srun_unr _ [] 13 _).trans rfl
/-! GridQuarrels$County.livingIn(I)I: method 39; stops [4] -/
theorem b_County_livingIn (Ln d : Nat) (σ : mmSt) (x0 : Int) (a : Nat) (ha : cnty a) : srun (lyT Ln) ((d + 1), 39, 0, [mR a, mI x0, mJ, mJ], [], σ) =
 srun (lyT Ln) ((d + 1), 39, 4, [mR a, mI x0, mI 0, mI 0], [], σ) := by
  rcases ha with rfl | rfl | rfl | rfl | rfl <;> exact (srun_unr _ [4] 4 _).trans rfl
theorem b_County_livingIn_4 (Ln d : Nat) (σ : mmSt) (z1 z2 z3 : Int) (a : Nat) (ha : cnty a) : srun (lyT Ln) ((d + 1), 39, 4, [mR a, mI z1, mI z2, mI z3], [], σ) =
 (bif decide ((σ a 2) ≤ z3) then
  some (σ, z2)
 else
  (Option.bind (srun (lyT Ln) (d, 38, 0, [mR a, mI z3, mI z1], [], σ)) (fun y1 =>
  (bif decide (y1.2 = 0) then
   srun (lyT Ln) ((d + 1), 39, 4, [mR a, mI z1, mI z2, mI (mwrap (z3 + 1))], [], y1.1)
  else
   srun (lyT Ln) ((d + 1), 39, 4, [mR a, mI z1, mI (mor z2 (mshl 1 z3)), mI (mwrap (z3 + 1))], [], y1.1))))) := by
  rcases ha with rfl | rfl | rfl | rfl | rfl <;> exact (srun_unr _ [4] 17 _).trans rfl
/-! GridQuarrels$County.atTheirBrands()I: method 40; stops [4] -/
theorem b_County_atTheirBrands (Ln d : Nat) (σ : mmSt) (a : Nat) (ha : cnty a) : srun (lyT Ln) ((d + 1), 40, 0, [mR a, mJ, mJ], [], σ) =
 srun (lyT Ln) ((d + 1), 40, 4, [mR a, mI 0, mI 0], [], σ) := by
  rcases ha with rfl | rfl | rfl | rfl | rfl <;> exact (srun_unr _ [4] 4 _).trans rfl
theorem b_County_atTheirBrands_4 (Ln d : Nat) (σ : mmSt) (z1 z2 : Int) (a : Nat) (ha : cnty a) : srun (lyT Ln) ((d + 1), 40, 4, [mR a, mI z1, mI z2], [], σ) =
 (bif decide ((σ a 2) ≤ z2) then
  some (σ, z1)
 else
  (bif minb z2 5 then
  (Option.bind (srun (lyT Ln) (d, 38, 0, [mR a, mI z2, mI (σ (a + 8) (Int.toNat z2))], [], σ)) (fun y1 =>
  (bif decide (y1.2 = 0) then
   srun (lyT Ln) ((d + 1), 40, 4, [mR a, mI z1, mI (mwrap (z2 + 1))], [], y1.1)
  else
   srun (lyT Ln) ((d + 1), 40, 4, [mR a, mI (mor z1 (mshl 1 z2)), mI (mwrap (z2 + 1))], [], y1.1))))
  else none)) := by
  rcases ha with rfl | rfl | rfl | rfl | rfl <;> exact (srun_unr _ [4] 20 _).trans rfl
/-! GridQuarrels$County.roadsAt(I)I: method 41; stops [4] -/
theorem b_County_roadsAt (Ln d : Nat) (σ : mmSt) (x0 : Int) (a : Nat) (ha : cnty a) : srun (lyT Ln) ((d + 1), 41, 0, [mR a, mI x0, mJ, mJ], [], σ) =
 srun (lyT Ln) ((d + 1), 41, 4, [mR a, mI x0, mI 0, mI 0], [], σ) := by
  rcases ha with rfl | rfl | rfl | rfl | rfl <;> exact (srun_unr _ [4] 4 _).trans rfl
theorem b_County_roadsAt_4 (Ln d : Nat) (σ : mmSt) (z1 z2 z3 : Int) (a : Nat) (ha : cnty a) : srun (lyT Ln) ((d + 1), 41, 4, [mR a, mI z1, mI z2, mI z3], [], σ) =
 (bif decide ((σ a 1) ≤ z3) then
  some (σ, z2)
 else
  (Option.bind (srun (lyT Ln) (d, 27, 0, [mR a, mI z3, mI z1], [], σ)) (fun y1 =>
  (bif decide (y1.2 = 0) then
   srun (lyT Ln) ((d + 1), 41, 4, [mR a, mI z1, mI z2, mI (mwrap (z3 + 1))], [], y1.1)
  else
   srun (lyT Ln) ((d + 1), 41, 4, [mR a, mI z1, mI (mor z2 (mshl 1 z3)), mI (mwrap (z3 + 1))], [], y1.1))))) := by
  rcases ha with rfl | rfl | rfl | rfl | rfl <;> exact (srun_unr _ [4] 17 _).trans rfl
/-! GridQuarrels$County.roadsOpenTo(I)I: method 42; stops [4] -/
theorem b_County_roadsOpenTo (Ln d : Nat) (σ : mmSt) (x0 : Int) (a : Nat) (ha : cnty a) : srun (lyT Ln) ((d + 1), 42, 0, [mR a, mI x0, mJ, mJ], [], σ) =
 srun (lyT Ln) ((d + 1), 42, 4, [mR a, mI x0, mI 0, mI 0], [], σ) := by
  rcases ha with rfl | rfl | rfl | rfl | rfl <;> exact (srun_unr _ [4] 4 _).trans rfl
theorem b_County_roadsOpenTo_4 (Ln d : Nat) (σ : mmSt) (z1 z2 z3 : Int) (a : Nat) (ha : cnty a) : srun (lyT Ln) ((d + 1), 42, 4, [mR a, mI z1, mI z2, mI z3], [], σ) =
 (bif decide ((σ a 1) ≤ z3) then
  some (σ, z2)
 else
  (Option.bind (srun (lyT Ln) (d, 19, 0, [mR a, mI z1], [], σ)) (fun y1 =>
  (bif decide (¬ y1.2 = 0) then
   some (y1.1, z2)
  else
   (bif minb z1 5 then
   (Option.bind (srun (lyT Ln) (d, 27, 0, [mR a, mI z3, mI (y1.1 (a + 6) (Int.toNat z1))], [], y1.1)) (fun y2 =>
   (bif decide (y2.2 = 0) then
    srun (lyT Ln) ((d + 1), 42, 4, [mR a, mI z1, mI z2, mI (mwrap (z3 + 1))], [], y2.1)
   else
    (Option.bind (srun (lyT Ln) (d, 29, 0, [mR a, mI z1, mI z3], [], y2.1)) (fun y3 =>
    (bif decide (y3.2 = 0) then
     srun (lyT Ln) ((d + 1), 42, 4, [mR a, mI z1, mI z2, mI (mwrap (z3 + 1))], [], y3.1)
    else
     srun (lyT Ln) ((d + 1), 42, 4, [mR a, mI z1, mI (mor z2 (mshl 1 z3)), mI (mwrap (z3 + 1))], [], y3.1)))))))
   else none))))) := by
  rcases ha with rfl | rfl | rfl | rfl | rfl <;> exact (srun_unr _ [4] 29 _).trans rfl
/-! GridQuarrels$County.mostMeals()I: method 43; stops [4] -/
theorem b_County_mostMeals (Ln d : Nat) (σ : mmSt) (a : Nat) (ha : cnty a) : srun (lyT Ln) ((d + 1), 43, 0, [mR a, mJ, mJ], [], σ) =
 srun (lyT Ln) ((d + 1), 43, 4, [mR a, mI 0, mI 1], [], σ) := by
  rcases ha with rfl | rfl | rfl | rfl | rfl <;> exact (srun_unr _ [4] 4 _).trans rfl
theorem b_County_mostMeals_4 (Ln d : Nat) (σ : mmSt) (z1 z2 : Int) (a : Nat) (ha : cnty a) : srun (lyT Ln) ((d + 1), 43, 4, [mR a, mI z1, mI z2], [], σ) =
 (bif decide ((σ a 2) ≤ z2) then
  some (σ, z1)
 else
  (bif minb z2 5 then
  (bif minb z1 5 then
  (bif decide ((σ (a + 9) (Int.toNat z2)) ≤ (σ (a + 9) (Int.toNat z1))) then
   srun (lyT Ln) ((d + 1), 43, 4, [mR a, mI z1, mI (mwrap (z2 + 1))], [], σ)
  else
   srun (lyT Ln) ((d + 1), 43, 4, [mR a, mI z2, mI (mwrap (z2 + 1))], [], σ))
  else none)
  else none)) := by
  rcases ha with rfl | rfl | rfl | rfl | rfl <;> exact (srun_unr _ [4] 17 _).trans rfl
/-! GridQuarrels$County.spread(II)I: method 44; stops [4] -/
theorem b_County_spread (Ln d : Nat) (σ : mmSt) (x0 x1 : Int) (a : Nat) (ha : cnty a) : srun (lyT Ln) ((d + 1), 44, 0, [mR a, mI x0, mI x1, mJ, mJ], [], σ) =
 srun (lyT Ln) ((d + 1), 44, 4, [mR a, mI x0, mI x1, mI x1, mI 0], [], σ) := by
  rcases ha with rfl | rfl | rfl | rfl | rfl <;> exact (srun_unr _ [4] 4 _).trans rfl
theorem b_County_spread_4 (Ln d : Nat) (σ : mmSt) (z1 z2 z3 z4 : Int) (a : Nat) (ha : cnty a) : srun (lyT Ln) ((d + 1), 44, 4, [mR a, mI z1, mI z2, mI z3, mI z4], [], σ) =
 (bif decide ((σ a 1) ≤ z4) then
  some (σ, z3)
 else
  (Option.bind (srun (lyT Ln) (d, 29, 0, [mR a, mI z1, mI z4], [], σ)) (fun y1 =>
  (bif decide (y1.2 = 0) then
   srun (lyT Ln) ((d + 1), 44, 4, [mR a, mI z1, mI z2, mI z3, mI (mwrap (z4 + 1))], [], y1.1)
  else
   (bif minb z4 7 then
   (Option.bind (srun (lyT Ln) (d, 151, 0, [mI z2, mI (y1.1 (a + 2) (Int.toNat z4))], [], y1.1)) (fun y2 =>
   (bif decide (¬ y2.2 = 0) then
    (bif minb z4 7 then
    (bif minb z4 7 then
    srun (lyT Ln) ((d + 1), 44, 4, [mR a, mI z1, mI z2, mI (mor z3 (mor (mshl 1 (y2.1 (a + 2) (Int.toNat z4))) (mshl 1 (y2.1 (a + 3) (Int.toNat z4))))), mI (mwrap (z4 + 1))], [], y2.1)
    else none)
    else none)
   else
    (bif minb z4 7 then
    (Option.bind (srun (lyT Ln) (d, 151, 0, [mI z2, mI (y2.1 (a + 3) (Int.toNat z4))], [], y2.1)) (fun y3 =>
    (bif decide (y3.2 = 0) then
     srun (lyT Ln) ((d + 1), 44, 4, [mR a, mI z1, mI z2, mI z3, mI (mwrap (z4 + 1))], [], y3.1)
    else
     (bif minb z4 7 then
     (bif minb z4 7 then
     srun (lyT Ln) ((d + 1), 44, 4, [mR a, mI z1, mI z2, mI (mor z3 (mor (mshl 1 (y3.1 (a + 2) (Int.toNat z4))) (mshl 1 (y3.1 (a + 3) (Int.toNat z4))))), mI (mwrap (z4 + 1))], [], y3.1)
     else none)
     else none))))
    else none))))
   else none))))) := by
  rcases ha with rfl | rfl | rfl | rfl | rfl <;> exact (srun_unr _ [4] 41 _).trans rfl
/-! GridQuarrels$County.roadsTo(II)I: method 45; stops [9] -/
theorem b_County_roadsTo (Ln d : Nat) (σ : mmSt) (x0 x1 : Int) (a : Nat) (ha : cnty a) : srun (lyT Ln) ((d + 1), 45, 0, [mR a, mI x0, mI x1, mJ, mJ], [], σ) =
 (bif minb x0 5 then
 srun (lyT Ln) ((d + 1), 45, 9, [mR a, mI x0, mI x1, mI (mshl 1 (σ (a + 6) (Int.toNat x0))), mI 0], [], σ)
 else none) := by
  rcases ha with rfl | rfl | rfl | rfl | rfl <;> exact (srun_unr _ [9] 9 _).trans rfl
theorem b_County_roadsTo_9 (Ln d : Nat) (σ : mmSt) (z1 z2 z3 z4 : Int) (a : Nat) (ha : cnty a) : srun (lyT Ln) ((d + 1), 45, 9, [mR a, mI z1, mI z2, mI z3, mI z4], [], σ) =
 (bif decide ((σ a 0) ≤ z4) then
  some (σ, (-1000000))
 else
  (Option.bind (srun (lyT Ln) (d, 151, 0, [mI z3, mI z2], [], σ)) (fun y1 =>
  (bif decide (y1.2 = 0) then
   (Option.bind (srun (lyT Ln) (d, 44, 0, [mR a, mI z1, mI z3, mJ, mJ], [], y1.1)) (fun y2 =>
   srun (lyT Ln) ((d + 1), 45, 9, [mR a, mI z1, mI z2, mI y2.2, mI (mwrap (z4 + 1))], [], y2.1)))
  else
   some (y1.1, z4))))) := by
  rcases ha with rfl | rfl | rfl | rfl | rfl <;> exact (srun_unr _ [9] 15 _).trans rfl
/-! GridQuarrels$County.allReached(I)I: method 46; stops [9] -/
theorem b_County_allReached (Ln d : Nat) (σ : mmSt) (x0 : Int) (a : Nat) (ha : cnty a) : srun (lyT Ln) ((d + 1), 46, 0, [mR a, mI x0, mJ, mJ], [], σ) =
 (bif minb x0 5 then
 srun (lyT Ln) ((d + 1), 46, 9, [mR a, mI x0, mI (mshl 1 (σ (a + 6) (Int.toNat x0))), mI 1], [], σ)
 else none) := by
  rcases ha with rfl | rfl | rfl | rfl | rfl <;> exact (srun_unr _ [9] 9 _).trans rfl
theorem b_County_allReached_9 (Ln d : Nat) (σ : mmSt) (z1 z2 z3 : Int) (a : Nat) (ha : cnty a) : srun (lyT Ln) ((d + 1), 46, 9, [mR a, mI z1, mI z2, mI z3], [], σ) =
 (bif decide ((σ a 0) ≤ z3) then
  some (σ, z2)
 else
  (Option.bind (srun (lyT Ln) (d, 44, 0, [mR a, mI z1, mI z2, mJ, mJ], [], σ)) (fun y1 =>
  srun (lyT Ln) ((d + 1), 46, 9, [mR a, mI z1, mI y1.2, mI (mwrap (z3 + 1))], [], y1.1)))) := by
  rcases ha with rfl | rfl | rfl | rfl | rfl <;> exact (srun_unr _ [9] 11 _).trans rfl
/-! GridQuarrels$Reader.isFull()Z: method 48; stops [] -/
theorem b_Reader_isFull (Ln d : Nat) (σ : mmSt) : srun (lyT Ln) ((d + 1), 48, 0, [mR 9], [], σ) =
 (bif decide ((σ 9 1) < 120) then
  some (σ, 0)
 else
  some (σ, 1)) := by
  exact (srun_unr _ [] 7 _).trans rfl
/-! GridQuarrels$Reader.take(I)I: method 49; stops [] -/
theorem b_Reader_take (Ln d : Nat) (σ : mmSt) (x0 : Int) : srun (lyT Ln) ((d + 1), 49, 0, [mR 9, mI x0], [], σ) =
 (Option.bind (srun (lyT Ln) (d, 48, 0, [mR 9], [], σ)) (fun y1 =>
 (bif decide (¬ y1.2 = 0) then
  some (y1.1, (y1.1 9 1))
 else
  (bif minb (y1.1 9 1) 120 then
  some ((mup (mup y1.1 20 (Int.toNat (y1.1 9 1)) x0) 9 1 (mwrap (((mup y1.1 20 (Int.toNat (y1.1 9 1)) x0) 9 1) + 1))), ((mup (mup y1.1 20 (Int.toNat (y1.1 9 1)) x0) 9 1 (mwrap (((mup y1.1 20 (Int.toNat (y1.1 9 1)) x0) 9 1) + 1))) 9 1))
  else none)))) := by
  exact (srun_unr _ [] 18 _).trans rfl
/-! GridQuarrels$Reader.read()I: method 50; stops [] -/
theorem b_Reader_read (Ln d : Nat) (σ : mmSt) : srun (lyT Ln) ((d + 1), 50, 0, [mR 9], [], σ) =
 (Option.bind (srun (lyT Ln) (d, 20, 0, [mR 10], [], (mup (mup σ 9 4 0) 9 5 0))) (fun y1 =>
 (Option.bind (srun (lyT Ln) (d, 51, 0, [mR 9, mJ, mJ], [], y1.1)) (fun y2 =>
 (Option.bind (srun (lyT Ln) (d, 52, 0, [mR 9, mJ], [], y2.1)) (fun y3 =>
 (Option.bind (srun (lyT Ln) (d, 54, 0, [mR 9, mJ], [], y3.1)) (fun y4 =>
 (bif decide (¬ ((mup y4.1 9 1 0) 9 5) = 0) then
  some ((mup (mup y4.1 9 1 0) 9 2 ((mup y4.1 9 1 0) 9 5)), ((mup (mup y4.1 9 1 0) 9 2 ((mup y4.1 9 1 0) 9 5)) 9 4))
 else
  some ((mup y4.1 9 1 0), (-1000000))))))))))) := by
  exact (srun_unr _ [] 28 _).trans rfl
/-! GridQuarrels$Reader.readLaw()V: method 51; stops [] -/
theorem b_Reader_readLaw (Ln d : Nat) (σ : mmSt) : srun (lyT Ln) ((d + 1), 51, 0, [mR 9, mJ, mJ], [], σ) =
 (Option.bind (srun (lyT Ln) (d, 59, 0, [mR 9, mI 99], [], σ)) (fun y1 =>
 (Option.bind (srun (lyT Ln) (d, 62, 0, [mR 9, mI 2, mI 7, mI (-1000000), mJ, mJ, mJ], [], y1.1)) (fun y2 =>
 (Option.bind (srun (lyT Ln) (d, 59, 0, [mR 9, mI 44], [], y2.1)) (fun y3 =>
 (Option.bind (srun (lyT Ln) (d, 62, 0, [mR 9, mI 0, mI 9, mI (-1000000), mJ, mJ, mJ], [], y3.1)) (fun y4 =>
 (Option.bind (srun (lyT Ln) (d, 59, 0, [mR 9, mI 59], [], y4.1)) (fun y5 =>
 (bif decide (¬ (y5.1 9 5) = 0) then
  some (y5.1, 0)
 else
  (Option.bind (srun (lyT Ln) (d, 21, 0, [mR 10, mI y2.2, mI y4.2, mJ], [], y5.1)) (fun y6 =>
  some (y6.1, 0)))))))))))))) := by
  exact (srun_unr _ [] 30 _).trans rfl
/-! GridQuarrels$Reader.readRoads()V: method 52; stops [4] -/
theorem b_Reader_readRoads (Ln d : Nat) (σ : mmSt) : srun (lyT Ln) ((d + 1), 52, 0, [mR 9, mJ], [], σ) =
 (Option.bind (srun (lyT Ln) (d, 53, 0, [mR 9, mJ, mJ, mJ], [], σ)) (fun y1 =>
 srun (lyT Ln) ((d + 1), 52, 4, [mR 9, mI 0], [], y1.1))) := by
  exact (srun_unr _ [4] 4 _).trans rfl
theorem b_Reader_readRoads_4 (Ln d : Nat) (σ : mmSt) (z1 : Int) : srun (lyT Ln) ((d + 1), 52, 4, [mR 9, mI z1], [], σ) =
 (bif decide (7 ≤ z1) then
  some (σ, 0)
 else
  (bif decide (¬ (σ 9 5) = 0) then
   some (σ, 0)
  else
   (Option.bind (srun (lyT Ln) (d, 57, 0, [mR 9], [], σ)) (fun y1 =>
   (bif decide (¬ y1.2 = 114) then
    some (y1.1, 0)
   else
    (Option.bind (srun (lyT Ln) (d, 53, 0, [mR 9, mJ, mJ, mJ], [], y1.1)) (fun y2 =>
    srun (lyT Ln) ((d + 1), 52, 4, [mR 9, mI (mwrap (z1 + 1))], [], y2.1)))))))) := by
  exact (srun_unr _ [4] 14 _).trans rfl
/-! GridQuarrels$Reader.readRoad()V: method 53; stops [] -/
set_option maxRecDepth 100000 in
theorem b_Reader_readRoad (Ln d : Nat) (σ : mmSt) : srun (lyT Ln) ((d + 1), 53, 0, [mR 9, mJ, mJ, mJ], [], σ) =
 (Option.bind (srun (lyT Ln) (d, 57, 0, [mR 9], [], σ)) (fun y1 =>
 (bif decide (¬ y1.2 = 114) then
  (Option.bind (srun (lyT Ln) (d, 59, 0, [mR 9, mI 114], [], y1.1)) (fun y2 =>
  (Option.bind (srun (lyT Ln) (d, 62, 0, [mR 9, mI 0, mI (mwrap ((y2.1 10 0) - 1)), mI (-1000000), mJ, mJ, mJ], [], y2.1)) (fun y3 =>
  (Option.bind (srun (lyT Ln) (d, 59, 0, [mR 9, mI 44], [], y3.1)) (fun y4 =>
  (Option.bind (srun (lyT Ln) (d, 62, 0, [mR 9, mI 0, mI (mwrap ((y4.1 10 0) - 1)), mI y3.2, mJ, mJ, mJ], [], y4.1)) (fun y5 =>
  (Option.bind (srun (lyT Ln) (d, 59, 0, [mR 9, mI 44], [], y5.1)) (fun y6 =>
  (Option.bind (srun (lyT Ln) (d, 62, 0, [mR 9, mI 0, mI 9, mI (-1000000), mJ, mJ, mJ], [], y6.1)) (fun y7 =>
  (Option.bind (srun (lyT Ln) (d, 59, 0, [mR 9, mI 59], [], y7.1)) (fun y8 =>
  (bif decide (¬ (y8.1 9 5) = 0) then
   some (y8.1, 0)
  else
   (Option.bind (srun (lyT Ln) (d, 22, 0, [mR 10, mI y3.2, mI y5.2, mI y7.2], [], y8.1)) (fun y9 =>
   some (y9.1, 0))))))))))))))))))
 else
  (bif decide (¬ (y1.1 10 1) = 7) then
   (Option.bind (srun (lyT Ln) (d, 59, 0, [mR 9, mI 114], [], y1.1)) (fun y10 =>
   (Option.bind (srun (lyT Ln) (d, 62, 0, [mR 9, mI 0, mI (mwrap ((y10.1 10 0) - 1)), mI (-1000000), mJ, mJ, mJ], [], y10.1)) (fun y11 =>
   (Option.bind (srun (lyT Ln) (d, 59, 0, [mR 9, mI 44], [], y11.1)) (fun y12 =>
   (Option.bind (srun (lyT Ln) (d, 62, 0, [mR 9, mI 0, mI (mwrap ((y12.1 10 0) - 1)), mI y11.2, mJ, mJ, mJ], [], y12.1)) (fun y13 =>
   (Option.bind (srun (lyT Ln) (d, 59, 0, [mR 9, mI 44], [], y13.1)) (fun y14 =>
   (Option.bind (srun (lyT Ln) (d, 62, 0, [mR 9, mI 0, mI 9, mI (-1000000), mJ, mJ, mJ], [], y14.1)) (fun y15 =>
   (Option.bind (srun (lyT Ln) (d, 59, 0, [mR 9, mI 59], [], y15.1)) (fun y16 =>
   (bif decide (¬ (y16.1 9 5) = 0) then
    some (y16.1, 0)
   else
    (Option.bind (srun (lyT Ln) (d, 22, 0, [mR 10, mI y11.2, mI y13.2, mI y15.2], [], y16.1)) (fun y17 =>
    some (y17.1, 0))))))))))))))))))
  else
   (Option.bind (srun (lyT Ln) (d, 56, 0, [mR 9, mI 3], [], y1.1)) (fun y18 =>
   (Option.bind (srun (lyT Ln) (d, 59, 0, [mR 9, mI 114], [], y18.1)) (fun y19 =>
   (Option.bind (srun (lyT Ln) (d, 62, 0, [mR 9, mI 0, mI (mwrap ((y19.1 10 0) - 1)), mI (-1000000), mJ, mJ, mJ], [], y19.1)) (fun y20 =>
   (Option.bind (srun (lyT Ln) (d, 59, 0, [mR 9, mI 44], [], y20.1)) (fun y21 =>
   (Option.bind (srun (lyT Ln) (d, 62, 0, [mR 9, mI 0, mI (mwrap ((y21.1 10 0) - 1)), mI y20.2, mJ, mJ, mJ], [], y21.1)) (fun y22 =>
   (Option.bind (srun (lyT Ln) (d, 59, 0, [mR 9, mI 44], [], y22.1)) (fun y23 =>
   (Option.bind (srun (lyT Ln) (d, 62, 0, [mR 9, mI 0, mI 9, mI (-1000000), mJ, mJ, mJ], [], y23.1)) (fun y24 =>
   (Option.bind (srun (lyT Ln) (d, 59, 0, [mR 9, mI 59], [], y24.1)) (fun y25 =>
   (bif decide (¬ (y25.1 9 5) = 0) then
    some (y25.1, 0)
   else
    (Option.bind (srun (lyT Ln) (d, 22, 0, [mR 10, mI y20.2, mI y22.2, mI y24.2], [], y25.1)) (fun y26 =>
    some (y26.1, 0)))))))))))))))))))))))) := by
  exact (srun_unr _ [] 60 _).trans rfl
/-! GridQuarrels$Reader.readQuarrels()V: method 54; stops [4] -/
theorem b_Reader_readQuarrels (Ln d : Nat) (σ : mmSt) : srun (lyT Ln) ((d + 1), 54, 0, [mR 9, mJ], [], σ) =
 (Option.bind (srun (lyT Ln) (d, 55, 0, [mR 9, mJ, mJ, mJ, mJ], [], σ)) (fun y1 =>
 srun (lyT Ln) ((d + 1), 54, 4, [mR 9, mI 0], [], y1.1))) := by
  exact (srun_unr _ [4] 4 _).trans rfl
theorem b_Reader_readQuarrels_4 (Ln d : Nat) (σ : mmSt) (z1 : Int) : srun (lyT Ln) ((d + 1), 54, 4, [mR 9, mI z1], [], σ) =
 (bif decide (5 ≤ z1) then
  some (σ, 0)
 else
  (bif decide (¬ (σ 9 5) = 0) then
   some (σ, 0)
  else
   (bif decide ((σ 9 1) ≤ (σ 9 4)) then
    some (σ, 0)
   else
    (Option.bind (srun (lyT Ln) (d, 55, 0, [mR 9, mJ, mJ, mJ, mJ], [], σ)) (fun y1 =>
    srun (lyT Ln) ((d + 1), 54, 4, [mR 9, mI (mwrap (z1 + 1))], [], y1.1)))))) := by
  exact (srun_unr _ [4] 15 _).trans rfl
/-! GridQuarrels$Reader.readQuarrel()V: method 55; stops [] -/
set_option maxRecDepth 100000 in
theorem b_Reader_readQuarrel (Ln d : Nat) (σ : mmSt) : srun (lyT Ln) ((d + 1), 55, 0, [mR 9, mJ, mJ, mJ, mJ], [], σ) =
 (Option.bind (srun (lyT Ln) (d, 57, 0, [mR 9], [], σ)) (fun y1 =>
 (Option.bind (srun (lyT Ln) (d, 61, 0, [mI y1.2], [], y1.1)) (fun y2 =>
 (bif decide (y2.2 = 0) then
  (Option.bind (srun (lyT Ln) (d, 60, 0, [mR 9, mJ], [], y2.1)) (fun y3 =>
  (Option.bind (srun (lyT Ln) (d, 62, 0, [mR 9, mI 0, mI (mwrap ((y3.1 10 0) - 1)), mI (-1000000), mJ, mJ, mJ], [], y3.1)) (fun y4 =>
  (Option.bind (srun (lyT Ln) (d, 59, 0, [mR 9, mI 44], [], y4.1)) (fun y5 =>
  (Option.bind (srun (lyT Ln) (d, 62, 0, [mR 9, mI 1, mI 9, mI (-1000000), mJ, mJ, mJ], [], y5.1)) (fun y6 =>
  (Option.bind (srun (lyT Ln) (d, 59, 0, [mR 9, mI 44], [], y6.1)) (fun y7 =>
  (Option.bind (srun (lyT Ln) (d, 62, 0, [mR 9, mI 0, mI (mwrap ((y7.1 10 0) - 1)), mI (-1000000), mJ, mJ, mJ], [], y7.1)) (fun y8 =>
  (Option.bind (srun (lyT Ln) (d, 59, 0, [mR 9, mI 59], [], y8.1)) (fun y9 =>
  (bif decide (¬ (y9.1 9 5) = 0) then
   some (y9.1, 0)
  else
   (Option.bind (srun (lyT Ln) (d, 23, 0, [mR 10, mI y3.2, mI y4.2, mI y6.2, mI y8.2], [], y9.1)) (fun y10 =>
   some (y10.1, 0))))))))))))))))))
 else
  (bif decide (¬ (y2.1 10 2) = 5) then
   (Option.bind (srun (lyT Ln) (d, 60, 0, [mR 9, mJ], [], y2.1)) (fun y11 =>
   (Option.bind (srun (lyT Ln) (d, 62, 0, [mR 9, mI 0, mI (mwrap ((y11.1 10 0) - 1)), mI (-1000000), mJ, mJ, mJ], [], y11.1)) (fun y12 =>
   (Option.bind (srun (lyT Ln) (d, 59, 0, [mR 9, mI 44], [], y12.1)) (fun y13 =>
   (Option.bind (srun (lyT Ln) (d, 62, 0, [mR 9, mI 1, mI 9, mI (-1000000), mJ, mJ, mJ], [], y13.1)) (fun y14 =>
   (Option.bind (srun (lyT Ln) (d, 59, 0, [mR 9, mI 44], [], y14.1)) (fun y15 =>
   (Option.bind (srun (lyT Ln) (d, 62, 0, [mR 9, mI 0, mI (mwrap ((y15.1 10 0) - 1)), mI (-1000000), mJ, mJ, mJ], [], y15.1)) (fun y16 =>
   (Option.bind (srun (lyT Ln) (d, 59, 0, [mR 9, mI 59], [], y16.1)) (fun y17 =>
   (bif decide (¬ (y17.1 9 5) = 0) then
    some (y17.1, 0)
   else
    (Option.bind (srun (lyT Ln) (d, 23, 0, [mR 10, mI y11.2, mI y12.2, mI y14.2, mI y16.2], [], y17.1)) (fun y18 =>
    some (y18.1, 0))))))))))))))))))
  else
   (Option.bind (srun (lyT Ln) (d, 56, 0, [mR 9, mI 3], [], y2.1)) (fun y19 =>
   (Option.bind (srun (lyT Ln) (d, 60, 0, [mR 9, mJ], [], y19.1)) (fun y20 =>
   (Option.bind (srun (lyT Ln) (d, 62, 0, [mR 9, mI 0, mI (mwrap ((y20.1 10 0) - 1)), mI (-1000000), mJ, mJ, mJ], [], y20.1)) (fun y21 =>
   (Option.bind (srun (lyT Ln) (d, 59, 0, [mR 9, mI 44], [], y21.1)) (fun y22 =>
   (Option.bind (srun (lyT Ln) (d, 62, 0, [mR 9, mI 1, mI 9, mI (-1000000), mJ, mJ, mJ], [], y22.1)) (fun y23 =>
   (Option.bind (srun (lyT Ln) (d, 59, 0, [mR 9, mI 44], [], y23.1)) (fun y24 =>
   (Option.bind (srun (lyT Ln) (d, 62, 0, [mR 9, mI 0, mI (mwrap ((y24.1 10 0) - 1)), mI (-1000000), mJ, mJ, mJ], [], y24.1)) (fun y25 =>
   (Option.bind (srun (lyT Ln) (d, 59, 0, [mR 9, mI 59], [], y25.1)) (fun y26 =>
   (bif decide (¬ (y26.1 9 5) = 0) then
    some (y26.1, 0)
   else
    (Option.bind (srun (lyT Ln) (d, 23, 0, [mR 10, mI y20.2, mI y21.2, mI y23.2, mI y25.2], [], y26.1)) (fun y27 =>
    some (y27.1, 0)))))))))))))))))))))))))) := by
  exact (srun_unr _ [] 61 _).trans rfl
/-! GridQuarrels$Reader.fail(I)V: method 56; stops [] -/
theorem b_Reader_fail (Ln d : Nat) (σ : mmSt) (x0 : Int) : srun (lyT Ln) ((d + 1), 56, 0, [mR 9, mI x0], [], σ) =
 (bif decide (¬ (σ 9 5) = 0) then
  some (σ, 0)
 else
  some ((mup σ 9 5 x0), 0)) := by
  exact (srun_unr _ [] 7 _).trans rfl
/-! GridQuarrels$Reader.next()I: method 57; stops [] -/
theorem b_Reader_next (Ln d : Nat) (σ : mmSt) : srun (lyT Ln) ((d + 1), 57, 0, [mR 9], [], σ) =
 (Option.bind (srun (lyT Ln) (d, 58, 0, [mR 9, mI (σ 9 4)], [], σ)) (fun y1 =>
 some (y1.1, y1.2))) := by
  exact (srun_unr _ [] 5 _).trans rfl
/-! GridQuarrels$Reader.byteAt(I)I: method 58; stops [] -/
theorem b_Reader_byteAt (Ln d : Nat) (σ : mmSt) (x0 : Int) : srun (lyT Ln) ((d + 1), 58, 0, [mR 9, mI x0], [], σ) =
 (bif decide (x0 < 0) then
  some (σ, (-1))
 else
  (bif decide ((σ 9 1) ≤ x0) then
   some (σ, (-1))
  else
   (bif minb x0 120 then
   some (σ, (σ 20 (Int.toNat x0)))
   else none))) := by
  exact (srun_unr _ [] 12 _).trans rfl
/-! GridQuarrels$Reader.expect(I)V: method 59; stops [] -/
theorem b_Reader_expect (Ln d : Nat) (σ : mmSt) (x0 : Int) : srun (lyT Ln) ((d + 1), 59, 0, [mR 9, mI x0], [], σ) =
 (bif decide ((σ 9 5) = 0) then
  (Option.bind (srun (lyT Ln) (d, 57, 0, [mR 9], [], σ)) (fun y1 =>
  (bif decide (¬ y1.2 = x0) then
   (Option.bind (srun (lyT Ln) (d, 56, 0, [mR 9, mI 1], [], y1.1)) (fun y2 =>
   some (y2.1, 0)))
  else
   some ((mup y1.1 9 4 (mwrap ((y1.1 9 4) + 1))), 0))))
 else
  some (σ, 0)) := by
  exact (srun_unr _ [] 15 _).trans rfl
/-! GridQuarrels$Reader.sort()I: method 60; stops [] -/
theorem b_Reader_sort (Ln d : Nat) (σ : mmSt) : srun (lyT Ln) ((d + 1), 60, 0, [mR 9, mJ], [], σ) =
 (Option.bind (srun (lyT Ln) (d, 57, 0, [mR 9], [], σ)) (fun y1 =>
 (Option.bind (srun (lyT Ln) (d, 61, 0, [mI y1.2], [], y1.1)) (fun y2 =>
 (bif decide (¬ y2.2 = 0) then
  (bif decide (¬ (y2.1 9 5) = 0) then
   some (y2.1, y2.2)
  else
   some ((mup y2.1 9 4 (mwrap ((y2.1 9 4) + 1))), y2.2))
 else
  (Option.bind (srun (lyT Ln) (d, 56, 0, [mR 9, mI 1], [], y2.1)) (fun y3 =>
  (bif decide (¬ (y3.1 9 5) = 0) then
   some (y3.1, y2.2)
  else
   some ((mup y3.1 9 4 (mwrap ((y3.1 9 4) + 1))), y2.2))))))))) := by
  exact (srun_unr _ [] 20 _).trans rfl
/-! GridQuarrels$Reader.kindOf(I)I: method 61; stops [] -/
theorem b_Reader_kindOf (Ln d : Nat) (σ : mmSt) (x0 : Int) : srun (lyT Ln) ((d + 1), 61, 0, [mI x0], [], σ) =
 (bif decide (x0 = 98) then
 some (σ, 4)
 else
 (bif decide (x0 = 107) then
 some (σ, 3)
 else
 (bif decide (x0 = 109) then
 some (σ, 5)
 else
 (bif decide (x0 = 112) then
 some (σ, 1)
 else
 (bif decide (x0 = 116) then
 some (σ, 2)
 else
 some (σ, 0)))))) := by
  exact (srun_unr _ [] 4 _).trans rfl
/-! GridQuarrels$Reader.number(III)I: method 62; stops [23] -/
theorem b_Reader_number (Ln d : Nat) (σ : mmSt) (x0 x1 x2 : Int) : srun (lyT Ln) ((d + 1), 62, 0, [mR 9, mI x0, mI x1, mI x2, mJ, mJ, mJ], [], σ) =
 (bif decide ((σ 9 5) = 0) then
  (Option.bind (srun (lyT Ln) (d, 63, 0, [mR 9, mJ, mJ], [], σ)) (fun y1 =>
  (bif decide (y1.2 < 1) then
   (Option.bind (srun (lyT Ln) (d, 56, 0, [mR 9, mI 1], [], y1.1)) (fun y2 =>
   some (y2.1, 0)))
  else
   (bif decide (y1.2 ≤ 2) then
    srun (lyT Ln) ((d + 1), 62, 23, [mR 9, mI x0, mI x1, mI x2, mI y1.2, mI 0, mI 0], [], y1.1)
   else
    (Option.bind (srun (lyT Ln) (d, 56, 0, [mR 9, mI 1], [], y1.1)) (fun y3 =>
    some (y3.1, 0)))))))
 else
  some (σ, 0)) := by
  exact (srun_unr _ [23] 17 _).trans rfl
theorem b_Reader_number_23 (Ln d : Nat) (σ : mmSt) (z1 z2 z3 z4 z5 z6 : Int) : srun (lyT Ln) ((d + 1), 62, 23, [mR 9, mI z1, mI z2, mI z3, mI z4, mI z5, mI z6], [], σ) =
 (bif decide (z4 ≤ z6) then
  (Option.bind (srun (lyT Ln) (d, 150, 0, [mI z5, mI z1, mI z2], [], σ)) (fun y1 =>
  (bif decide (y1.2 = 0) then
   (Option.bind (srun (lyT Ln) (d, 56, 0, [mR 9, mI 2], [], y1.1)) (fun y2 =>
   some (y2.1, 0)))
  else
   (bif decide (¬ z5 = z3) then
    some ((mup y1.1 9 4 (mwrap ((y1.1 9 4) + z4))), z5)
   else
    (Option.bind (srun (lyT Ln) (d, 56, 0, [mR 9, mI 2], [], y1.1)) (fun y3 =>
    some (y3.1, 0)))))))
 else
  (Option.bind (srun (lyT Ln) (d, 58, 0, [mR 9, mI (mwrap ((σ 9 4) + z6))], [], σ)) (fun y4 =>
  srun (lyT Ln) ((d + 1), 62, 23, [mR 9, mI z1, mI z2, mI z3, mI z4, mI (mwrap ((mwrap ((mwrap (z5 * 10)) + y4.2)) - 48)), mI (mwrap (z6 + 1))], [], y4.1)))) := by
  exact (srun_unr _ [23] 19 _).trans rfl
/-! GridQuarrels$Reader.figuresHere()I: method 63; stops [5] -/
theorem b_Reader_figuresHere (Ln d : Nat) (σ : mmSt) : srun (lyT Ln) ((d + 1), 63, 0, [mR 9, mJ, mJ], [], σ) =
 srun (lyT Ln) ((d + 1), 63, 5, [mR 9, mI 0, mI (σ 9 4)], [], σ) := by
  exact (srun_unr _ [5] 5 _).trans rfl
theorem b_Reader_figuresHere_5 (Ln d : Nat) (σ : mmSt) (z1 z2 : Int) : srun (lyT Ln) ((d + 1), 63, 5, [mR 9, mI z1, mI z2], [], σ) =
 (bif decide ((σ 9 1) ≤ z2) then
  some (σ, z1)
 else
  (Option.bind (srun (lyT Ln) (d, 58, 0, [mR 9, mI z2], [], σ)) (fun y1 =>
  (Option.bind (srun (lyT Ln) (d, 150, 0, [mI y1.2, mI 48, mI 57], [], y1.1)) (fun y2 =>
  (bif decide (y2.2 = 0) then
   some (y2.1, z1)
  else
   srun (lyT Ln) ((d + 1), 63, 5, [mR 9, mI (mwrap (z1 + 1)), mI (mwrap (z2 + 1))], [], y2.1))))))) := by
  exact (srun_unr _ [5] 14 _).trans rfl
/-! GridQuarrels$Rows.isRow(I)Z: method 65; stops [] -/
theorem b_Rows_isRow (Ln d : Nat) (σ : mmSt) (x0 : Int) : srun (lyT Ln) ((d + 1), 65, 0, [mR 5, mI x0], [], σ) =
 (Option.bind (srun (lyT Ln) (d, 150, 0, [mI x0, mI 0, mI 7], [], σ)) (fun y1 =>
 (bif decide (0 ≤ y1.2) && decide (y1.2 ≤ 1) then some (y1.1, y1.2) else none))) := by
  exact (srun_unr _ [] 5 _).trans rfl
/-! GridQuarrels$Rows.isMissing(I)Z: method 66; stops [] -/
theorem b_Rows_isMissing (Ln d : Nat) (σ : mmSt) (x0 : Int) : srun (lyT Ln) ((d + 1), 66, 0, [mR 5, mI x0], [], σ) =
 (bif minb x0 8 then
 (bif decide (¬ (σ 8 (Int.toNat x0)) = (-1)) then
  some (σ, 0)
 else
  some (σ, 1))
 else none) := by
  exact (srun_unr _ [] 9 _).trans rfl
/-! GridQuarrels$Rows.present()I: method 67; stops [4] -/
theorem b_Rows_present (Ln d : Nat) (σ : mmSt) : srun (lyT Ln) ((d + 1), 67, 0, [mR 5, mJ, mJ], [], σ) =
 srun (lyT Ln) ((d + 1), 67, 4, [mR 5, mI 0, mI 0], [], σ) := by
  exact (srun_unr _ [4] 4 _).trans rfl
theorem b_Rows_present_4 (Ln d : Nat) (σ : mmSt) (z1 z2 : Int) : srun (lyT Ln) ((d + 1), 67, 4, [mR 5, mI z1, mI z2], [], σ) =
 (bif decide (8 ≤ z2) then
  some (σ, z1)
 else
  (Option.bind (srun (lyT Ln) (d, 66, 0, [mR 5, mI z2], [], σ)) (fun y1 =>
  (bif decide (¬ y1.2 = 0) then
   srun (lyT Ln) ((d + 1), 67, 4, [mR 5, mI z1, mI (mwrap (z2 + 1))], [], y1.1)
  else
   srun (lyT Ln) ((d + 1), 67, 4, [mR 5, mI (mwrap (z1 + 1)), mI (mwrap (z2 + 1))], [], y1.1))))) := by
  exact (srun_unr _ [4] 10 _).trans rfl
/-! GridQuarrels$Rows.findingOf(III)I: method 68; stops [] -/
theorem b_Rows_findingOf (Ln d : Nat) (σ : mmSt) (x0 x1 x2 : Int) : srun (lyT Ln) ((d + 1), 68, 0, [mR 5, mI x0, mI x1, mI x2], [], σ) =
 (Option.bind (srun (lyT Ln) (d, 66, 0, [mR 5, mI x0], [], σ)) (fun y1 =>
 (bif decide (y1.2 = 0) then
  (Option.bind (srun (lyT Ln) (d, 70, 0, [mR 5, mI x0, mI x1, mI x2], [], y1.1)) (fun y2 =>
  (bif decide (y2.2 = 0) then
   some (y2.1, 2)
  else
   some (y2.1, 0))))
 else
  some (y1.1, 1)))) := by
  exact (srun_unr _ [] 13 _).trans rfl
/-! GridQuarrels$Rows.findingOfTwo(IIIII)I: method 69; stops [] -/
theorem b_Rows_findingOfTwo (Ln d : Nat) (σ : mmSt) (x0 x1 x2 x3 x4 : Int) : srun (lyT Ln) ((d + 1), 69, 0, [mR 5, mI x0, mI x1, mI x2, mI x3, mI x4], [], σ) =
 (Option.bind (srun (lyT Ln) (d, 66, 0, [mR 5, mI x0], [], σ)) (fun y1 =>
 (bif decide (¬ y1.2 = 0) then
  some (y1.1, 1)
 else
  (Option.bind (srun (lyT Ln) (d, 66, 0, [mR 5, mI x2], [], y1.1)) (fun y2 =>
  (bif decide (y2.2 = 0) then
   (bif minb x0 8 then
   (bif minb x2 8 then
   (bif decide ((y2.1 7 (Int.toNat x0)) = (y2.1 7 (Int.toNat x2))) then
    (Option.bind (srun (lyT Ln) (d, 70, 0, [mR 5, mI x0, mI x1, mI x4], [], y2.1)) (fun y3 =>
    (bif decide (y3.2 = 0) then
     some (y3.1, 2)
    else
     (Option.bind (srun (lyT Ln) (d, 70, 0, [mR 5, mI x2, mI x3, mI x4], [], y3.1)) (fun y4 =>
     (bif decide (y4.2 = 0) then
      some (y4.1, 2)
     else
      some (y4.1, 0)))))))
   else
    some (y2.1, 5))
   else none)
   else none)
  else
   some (y2.1, 1))))))) := by
  exact (srun_unr _ [] 32 _).trans rfl
/-! GridQuarrels$Rows.holds(III)Z: method 70; stops [] -/
theorem b_Rows_holds (Ln d : Nat) (σ : mmSt) (x0 x1 x2 : Int) : srun (lyT Ln) ((d + 1), 70, 0, [mR 5, mI x0, mI x1, mI x2], [], σ) =
 (bif decide (x1 < 0) then
  some (σ, 0)
 else
  (bif decide (x2 < 0) then
   some (σ, 0)
  else
   (bif minb x0 8 then
   (bif decide ((σ 8 (Int.toNat x0)) < x2) then
    some (σ, 0)
   else
    (bif minb x0 8 then
    (bif decide ((mwrap ((σ 8 (Int.toNat x0)) - x2)) < x1) then
     some (σ, 0)
    else
     some (σ, 1))
    else none))
   else none))) := by
  exact (srun_unr _ [] 21 _).trans rfl
/-! GridQuarrels$Rows.make(III)V: method 71; stops [12] -/
theorem b_Rows_make (Ln d : Nat) (σ : mmSt) (x0 x1 x2 : Int) : srun (lyT Ln) ((d + 1), 71, 0, [mR 5, mI x0, mI x1, mI x2, mJ], [], σ) =
 (bif minb x0 8 then
 (bif minb x0 8 then
 srun (lyT Ln) ((d + 1), 71, 12, [mR 5, mI x0, mI x1, mI x2, mI 0], [], (mup (mup σ 7 (Int.toNat x0) x1) 8 (Int.toNat x0) x2))
 else none)
 else none) := by
  exact (srun_unr _ [12] 12 _).trans rfl
theorem b_Rows_make_12 (Ln d : Nat) (σ : mmSt) (z1 z2 z3 z4 : Int) : srun (lyT Ln) ((d + 1), 71, 12, [mR 5, mI z1, mI z2, mI z3, mI z4], [], σ) =
 (bif decide (z3 ≤ z4) then
  some (σ, 0)
 else
  (bif minb (mwrap ((mwrap (z1 * 40)) + z4)) 320 then
  srun (lyT Ln) ((d + 1), 71, 12, [mR 5, mI z1, mI z2, mI z3, mI (mwrap (z4 + 1))], [], (mup σ 6 (Int.toNat (mwrap ((mwrap (z1 * 40)) + z4))) 0))
  else none)) := by
  exact (srun_unr _ [12] 14 _).trans rfl
/-! GridQuarrels$Rows.remove(I)I: method 72; stops [] -/
theorem b_Rows_remove (Ln d : Nat) (σ : mmSt) (x0 : Int) : srun (lyT Ln) ((d + 1), 72, 0, [mR 5, mI x0, mJ], [], σ) =
 (bif minb x0 8 then
 (bif minb x0 8 then
 some ((mup σ 8 (Int.toNat x0) (-1)), (σ 8 (Int.toNat x0)))
 else none)
 else none) := by
  exact (srun_unr _ [] 12 _).trans rfl
/-! GridQuarrels$Rows.put(III)I: method 73; stops [] -/
theorem b_Rows_put (Ln d : Nat) (σ : mmSt) (x0 x1 x2 : Int) : srun (lyT Ln) ((d + 1), 73, 0, [mR 5, mI x0, mI x1, mI x2, mJ], [], σ) =
 (bif minb x0 8 then
 (Option.bind (srun (lyT Ln) (d, 74, 0, [mI (σ 7 (Int.toNat x0)), mI x2], [], σ)) (fun y1 =>
 (bif minb (mwrap ((mwrap (x0 * 40)) + x1)) 320 then
 some ((mup y1.1 6 (Int.toNat (mwrap ((mwrap (x0 * 40)) + x1))) y1.2), y1.2)
 else none)))
 else none) := by
  exact (srun_unr _ [] 18 _).trans rfl
/-! GridQuarrels$Rows.cutToLane(II)I: method 74; stops [] -/
theorem b_Rows_cutToLane (Ln d : Nat) (σ : mmSt) (x0 x1 : Int) : srun (lyT Ln) ((d + 1), 74, 0, [mI x0, mI x1], [], σ) =
 (bif decide (x0 = 0) then
 some (σ, (mi2b x1))
 else
 (bif decide (x0 = 1) then
 some (σ, (mi2s x1))
 else
 some (σ, x1))) := by
  exact (srun_unr _ [] 5 _).trans rfl
/-! GridQuarrels$Rows.move(IIIII)V: method 75; stops [] -/
theorem b_Rows_move (Ln d : Nat) (σ : mmSt) (x0 x1 x2 x3 x4 : Int) : srun (lyT Ln) ((d + 1), 75, 0, [mR 5, mI x0, mI x1, mI x2, mI x3, mI x4], [], σ) =
 (bif decide (0 ≤ (mwrap ((mwrap (x0 * 40)) + x1))) && decide (0 ≤ (mwrap ((mwrap (x2 * 40)) + x3))) && decide (0 ≤ x4) && decide ((mwrap ((mwrap (x0 * 40)) + x1)) + x4 ≤ 320) && decide ((mwrap ((mwrap (x2 * 40)) + x3)) + x4 ≤ 320) then
 some ((mcpy σ 6 (Int.toNat (mwrap ((mwrap (x0 * 40)) + x1))) 6 (Int.toNat (mwrap ((mwrap (x2 * 40)) + x3))) (Int.toNat x4)), 0)
 else none) := by
  exact (srun_unr _ [] 17 _).trans rfl
/-! GridQuarrels$Rows.tell(III[I)V: method 76; stops [2] -/
theorem b_Rows_tell (Ln d : Nat) (σ : mmSt) (x0 x1 x2 : Int) : srun (lyT Ln) ((d + 1), 76, 0, [mR 5, mI x0, mI x1, mI x2, mR 68, mJ], [], σ) =
 srun (lyT Ln) ((d + 1), 76, 2, [mR 5, mI x0, mI x1, mI x2, mR 68, mI 0], [], σ) := by
  exact (srun_unr _ [2] 2 _).trans rfl
theorem b_Rows_tell_2 (Ln d : Nat) (σ : mmSt) (z1 z2 z3 z5 : Int) : srun (lyT Ln) ((d + 1), 76, 2, [mR 5, mI z1, mI z2, mI z3, mR 68, mI z5], [], σ) =
 (bif decide (z3 ≤ z5) then
  some (σ, 0)
 else
  (bif decide (12 ≤ z5) then
   some (σ, 0)
  else
   (bif minb (mwrap ((mwrap ((mwrap (z1 * 40)) + z2)) + z5)) 320 then
   (bif minb z5 12 then
   srun (lyT Ln) ((d + 1), 76, 2, [mR 5, mI z1, mI z2, mI z3, mR 68, mI (mwrap (z5 + 1))], [], (mup σ 68 (Int.toNat z5) (σ 6 (Int.toNat (mwrap ((mwrap ((mwrap (z1 * 40)) + z2)) + z5))))))
   else none)
   else none))) := by
  exact (srun_unr _ [2] 22 _).trans rfl
/-! GridQuarrels$Seer.begin()V: method 78; stops [] -/
theorem b_Seer_begin (Ln d : Nat) (σ : mmSt) : srun (lyT Ln) ((d + 1), 78, 0, [mR 47], [], σ) =
 (Option.bind (srun (lyT Ln) (d, 24, 0, [mR 58, mR 48, mJ], [], σ)) (fun y1 =>
 some (y1.1, 0))) := by
  exact (srun_unr _ [] 6 _).trans rfl
/-! GridQuarrels$Seer.pass(I)V: method 79; stops [2] -/
theorem b_Seer_pass (Ln d : Nat) (σ : mmSt) (x0 : Int) : srun (lyT Ln) ((d + 1), 79, 0, [mR 47, mI x0, mJ], [], σ) =
 srun (lyT Ln) ((d + 1), 79, 2, [mR 47, mI x0, mI 0], [], σ) := by
  exact (srun_unr _ [2] 2 _).trans rfl
theorem b_Seer_pass_2 (Ln d : Nat) (σ : mmSt) (z1 z2 : Int) : srun (lyT Ln) ((d + 1), 79, 2, [mR 47, mI z1, mI z2], [], σ) =
 (bif decide (z1 ≤ z2) then
  some (σ, 0)
 else
  (Option.bind (srun (lyT Ln) (d, 32, 0, [mR 58, mJ], [], σ)) (fun y1 =>
  srun (lyT Ln) ((d + 1), 79, 2, [mR 47, mI z1, mI (mwrap (z2 + 1))], [], y1.1)))) := by
  exact (srun_unr _ [2] 8 _).trans rfl
/-! GridQuarrels$Seer.lookAhead(I)V: method 80; stops [] -/
theorem b_Seer_lookAhead (Ln d : Nat) (σ : mmSt) (x0 : Int) : srun (lyT Ln) ((d + 1), 80, 0, [mR 47, mI x0], [], σ) =
 (Option.bind (srun (lyT Ln) (d, 78, 0, [mR 47], [], σ)) (fun y1 =>
 (Option.bind (srun (lyT Ln) (d, 79, 0, [mR 47, mI x0, mJ], [], y1.1)) (fun y2 =>
 some (y2.1, 0))))) := by
  exact (srun_unr _ [] 6 _).trans rfl
/-! GridQuarrels$Seer.yearsToDeath(I)I: method 81; stops [2] -/
theorem b_Seer_yearsToDeath (Ln d : Nat) (σ : mmSt) (x0 : Int) : srun (lyT Ln) ((d + 1), 81, 0, [mR 47, mI x0, mJ], [], σ) =
 srun (lyT Ln) ((d + 1), 81, 2, [mR 47, mI x0, mI 0], [], σ) := by
  exact (srun_unr _ [2] 2 _).trans rfl
theorem b_Seer_yearsToDeath_2 (Ln d : Nat) (σ : mmSt) (z1 z2 : Int) : srun (lyT Ln) ((d + 1), 81, 2, [mR 47, mI z1, mI z2], [], σ) =
 (bif decide (60 < z2) then
  some (σ, (-1000000))
 else
  (Option.bind (srun (lyT Ln) (d, 19, 0, [mR 58, mI z1], [], σ)) (fun y1 =>
  (bif decide (y1.2 = 0) then
   (Option.bind (srun (lyT Ln) (d, 32, 0, [mR 58, mJ], [], y1.1)) (fun y2 =>
   srun (lyT Ln) ((d + 1), 81, 2, [mR 47, mI z1, mI (mwrap (z2 + 1))], [], y2.1)))
  else
   some (y1.1, z2))))) := by
  exact (srun_unr _ [2] 13 _).trans rfl
/-! GridQuarrels$Seer.yearsToParish(II)I: method 82; stops [4] -/
theorem b_Seer_yearsToParish (Ln d : Nat) (σ : mmSt) (x0 x1 : Int) : srun (lyT Ln) ((d + 1), 82, 0, [mR 47, mI x0, mI x1, mJ], [], σ) =
 (Option.bind (srun (lyT Ln) (d, 78, 0, [mR 47], [], σ)) (fun y1 =>
 srun (lyT Ln) ((d + 1), 82, 4, [mR 47, mI x0, mI x1, mI 0], [], y1.1))) := by
  exact (srun_unr _ [4] 4 _).trans rfl
theorem b_Seer_yearsToParish_4 (Ln d : Nat) (σ : mmSt) (z1 z2 z3 : Int) : srun (lyT Ln) ((d + 1), 82, 4, [mR 47, mI z1, mI z2, mI z3], [], σ) =
 (bif decide (60 < z3) then
  some (σ, (-1000000))
 else
  (Option.bind (srun (lyT Ln) (d, 38, 0, [mR 58, mI z1, mI z2], [], σ)) (fun y1 =>
  (bif decide (y1.2 = 0) then
   (Option.bind (srun (lyT Ln) (d, 32, 0, [mR 58, mJ], [], y1.1)) (fun y2 =>
   srun (lyT Ln) ((d + 1), 82, 4, [mR 47, mI z1, mI z2, mI (mwrap (z3 + 1))], [], y2.1)))
  else
   some (y1.1, z3))))) := by
  exact (srun_unr _ [4] 14 _).trans rfl
/-! GridQuarrels$Seer.yearsToMeeting(II)I: method 83; stops [4] -/
theorem b_Seer_yearsToMeeting (Ln d : Nat) (σ : mmSt) (x0 x1 : Int) : srun (lyT Ln) ((d + 1), 83, 0, [mR 47, mI x0, mI x1, mJ], [], σ) =
 (Option.bind (srun (lyT Ln) (d, 78, 0, [mR 47], [], σ)) (fun y1 =>
 srun (lyT Ln) ((d + 1), 83, 4, [mR 47, mI x0, mI x1, mI 0], [], y1.1))) := by
  exact (srun_unr _ [4] 4 _).trans rfl
theorem b_Seer_yearsToMeeting_4 (Ln d : Nat) (σ : mmSt) (z1 z2 z3 : Int) : srun (lyT Ln) ((d + 1), 83, 4, [mR 47, mI z1, mI z2, mI z3], [], σ) =
 (bif decide (60 < z3) then
  some (σ, (-1000000))
 else
  (Option.bind (srun (lyT Ln) (d, 19, 0, [mR 58, mI z1], [], σ)) (fun y1 =>
  (bif decide (¬ y1.2 = 0) then
   (Option.bind (srun (lyT Ln) (d, 32, 0, [mR 58, mJ], [], y1.1)) (fun y2 =>
   srun (lyT Ln) ((d + 1), 83, 4, [mR 47, mI z1, mI z2, mI (mwrap (z3 + 1))], [], y2.1)))
  else
   (bif minb z1 5 then
   (Option.bind (srun (lyT Ln) (d, 38, 0, [mR 58, mI z2, mI (y1.1 64 (Int.toNat z1))], [], y1.1)) (fun y3 =>
   (bif decide (y3.2 = 0) then
    (Option.bind (srun (lyT Ln) (d, 32, 0, [mR 58, mJ], [], y3.1)) (fun y4 =>
    srun (lyT Ln) ((d + 1), 83, 4, [mR 47, mI z1, mI z2, mI (mwrap (z3 + 1))], [], y4.1)))
   else
    some (y3.1, z3))))
   else none))))) := by
  exact (srun_unr _ [4] 23 _).trans rfl
/-! GridQuarrels$Seer.fewestShut(II)I: method 84; stops [6] -/
theorem b_Seer_fewestShut (Ln d : Nat) (σ : mmSt) (x0 x1 : Int) : srun (lyT Ln) ((d + 1), 84, 0, [mR 47, mI x0, mI x1, mJ, mJ, mJ], [], σ) =
 srun (lyT Ln) ((d + 1), 84, 6, [mR 47, mI x0, mI x1, mI (-1000000), mI 8, mI 0], [], σ) := by
  exact (srun_unr _ [6] 6 _).trans rfl
theorem b_Seer_fewestShut_6 (Ln d : Nat) (σ : mmSt) (z1 z2 z3 z4 z5 : Int) : srun (lyT Ln) ((d + 1), 84, 6, [mR 47, mI z1, mI z2, mI z3, mI z4, mI z5], [], σ) =
 (bif decide ((mshl 1 (σ 48 1)) ≤ z5) then
  some (σ, z3)
 else
  (Option.bind (srun (lyT Ln) (d, 0, 0, [mI z5], [], σ)) (fun y1 =>
  (bif decide (z4 ≤ y1.2) then
   srun (lyT Ln) ((d + 1), 84, 6, [mR 47, mI z1, mI z2, mI z3, mI z4, mI (mwrap (z5 + 1))], [], y1.1)
  else
   (Option.bind (srun (lyT Ln) (d, 85, 0, [mR 47, mI z5, mI z1, mI z2, mJ], [], y1.1)) (fun y2 =>
   (bif decide (y2.2 = 0) then
    srun (lyT Ln) ((d + 1), 84, 6, [mR 47, mI z1, mI z2, mI z3, mI z4, mI (mwrap (z5 + 1))], [], y2.1)
   else
    (Option.bind (srun (lyT Ln) (d, 0, 0, [mI z5], [], y2.1)) (fun y3 =>
    srun (lyT Ln) ((d + 1), 84, 6, [mR 47, mI z1, mI z2, mI z5, mI y3.2, mI (mwrap (z5 + 1))], [], y3.1)))))))))) := by
  exact (srun_unr _ [6] 24 _).trans rfl
/-! GridQuarrels$Seer.sparedByShut(III)Z: method 85; stops [8] -/
theorem b_Seer_sparedByShut (Ln d : Nat) (σ : mmSt) (x0 x1 x2 : Int) : srun (lyT Ln) ((d + 1), 85, 0, [mR 47, mI x0, mI x1, mI x2, mJ], [], σ) =
 (Option.bind (srun (lyT Ln) (d, 78, 0, [mR 47], [], σ)) (fun y1 =>
 (Option.bind (srun (lyT Ln) (d, 86, 0, [mR 47, mI x0, mI 12, mJ], [], y1.1)) (fun y2 =>
 srun (lyT Ln) ((d + 1), 85, 8, [mR 47, mI x0, mI x1, mI x2, mI 0], [], y2.1))))) := by
  exact (srun_unr _ [8] 8 _).trans rfl
theorem b_Seer_sparedByShut_8 (Ln d : Nat) (σ : mmSt) (z1 z2 z3 z4 : Int) : srun (lyT Ln) ((d + 1), 85, 8, [mR 47, mI z1, mI z2, mI z3, mI z4], [], σ) =
 (bif decide (z3 ≤ z4) then
  some (σ, 1)
 else
  (Option.bind (srun (lyT Ln) (d, 32, 0, [mR 58, mJ], [], σ)) (fun y1 =>
  (Option.bind (srun (lyT Ln) (d, 87, 0, [mR 47, mI z2, mJ], [], y1.1)) (fun y2 =>
  (bif decide (y2.2 = 0) then
   srun (lyT Ln) ((d + 1), 85, 8, [mR 47, mI z1, mI z2, mI z3, mI (mwrap (z4 + 1))], [], y2.1)
  else
   some (y2.1, 0))))))) := by
  exact (srun_unr _ [8] 12 _).trans rfl
/-! GridQuarrels$Seer.setGrids(II)V: method 86; stops [2] -/
theorem b_Seer_setGrids (Ln d : Nat) (σ : mmSt) (x0 x1 : Int) : srun (lyT Ln) ((d + 1), 86, 0, [mR 47, mI x0, mI x1, mJ], [], σ) =
 srun (lyT Ln) ((d + 1), 86, 2, [mR 47, mI x0, mI x1, mI 0], [], σ) := by
  exact (srun_unr _ [2] 2 _).trans rfl
theorem b_Seer_setGrids_2 (Ln d : Nat) (σ : mmSt) (z1 z2 z3 : Int) : srun (lyT Ln) ((d + 1), 86, 2, [mR 47, mI z1, mI z2, mI z3], [], σ) =
 (bif decide ((σ 58 1) ≤ z3) then
  some (σ, 0)
 else
  (Option.bind (srun (lyT Ln) (d, 151, 0, [mI z1, mI z3], [], σ)) (fun y1 =>
  (bif decide (y1.2 = 0) then
   srun (lyT Ln) ((d + 1), 86, 2, [mR 47, mI z1, mI z2, mI (mwrap (z3 + 1))], [], y1.1)
  else
   (bif minb z3 7 then
   srun (lyT Ln) ((d + 1), 86, 2, [mR 47, mI z1, mI z2, mI (mwrap (z3 + 1))], [], (mup y1.1 62 (Int.toNat z3) z2))
   else none))))) := by
  exact (srun_unr _ [2] 17 _).trans rfl
/-! GridQuarrels$Seer.isEntered(I)Z: method 87; stops [2] -/
theorem b_Seer_isEntered (Ln d : Nat) (σ : mmSt) (x0 : Int) : srun (lyT Ln) ((d + 1), 87, 0, [mR 47, mI x0, mJ], [], σ) =
 srun (lyT Ln) ((d + 1), 87, 2, [mR 47, mI x0, mI 0], [], σ) := by
  exact (srun_unr _ [2] 2 _).trans rfl
theorem b_Seer_isEntered_2 (Ln d : Nat) (σ : mmSt) (z1 z2 : Int) : srun (lyT Ln) ((d + 1), 87, 2, [mR 47, mI z1, mI z2], [], σ) =
 (bif decide ((σ 48 2) ≤ z2) then
  some (σ, 0)
 else
  (bif minb z2 5 then
  (bif decide ((σ 54 (Int.toNat z2)) = z1) then
   srun (lyT Ln) ((d + 1), 87, 2, [mR 47, mI z1, mI (mwrap (z2 + 1))], [], σ)
  else
   (bif minb z2 5 then
   (bif decide (¬ (σ 64 (Int.toNat z2)) = z1) then
    srun (lyT Ln) ((d + 1), 87, 2, [mR 47, mI z1, mI (mwrap (z2 + 1))], [], σ)
   else
    some (σ, 1))
   else none))
  else none)) := by
  exact (srun_unr _ [2] 21 _).trans rfl
/-! GridQuarrels$Seer.fewestLures(III)I: method 88; stops [6] -/
theorem b_Seer_fewestLures (Ln d : Nat) (σ : mmSt) (x0 x1 x2 : Int) : srun (lyT Ln) ((d + 1), 88, 0, [mR 47, mI x0, mI x1, mI x2, mJ, mJ, mJ], [], σ) =
 srun (lyT Ln) ((d + 1), 88, 6, [mR 47, mI x0, mI x1, mI x2, mI (-1000000), mI 8, mI 0], [], σ) := by
  exact (srun_unr _ [6] 6 _).trans rfl
theorem b_Seer_fewestLures_6 (Ln d : Nat) (σ : mmSt) (z1 z2 z3 z4 z5 z6 : Int) : srun (lyT Ln) ((d + 1), 88, 6, [mR 47, mI z1, mI z2, mI z3, mI z4, mI z5, mI z6], [], σ) =
 (bif decide ((mshl 1 (σ 48 0)) ≤ z6) then
  some (σ, z4)
 else
  (Option.bind (srun (lyT Ln) (d, 0, 0, [mI z6], [], σ)) (fun y1 =>
  (bif decide (z5 ≤ y1.2) then
   srun (lyT Ln) ((d + 1), 88, 6, [mR 47, mI z1, mI z2, mI z3, mI z4, mI z5, mI (mwrap (z6 + 1))], [], y1.1)
  else
   (Option.bind (srun (lyT Ln) (d, 89, 0, [mR 47, mI z6, mI z1, mI z2, mI z3, mJ], [], y1.1)) (fun y2 =>
   (bif decide (y2.2 = 0) then
    srun (lyT Ln) ((d + 1), 88, 6, [mR 47, mI z1, mI z2, mI z3, mI z4, mI z5, mI (mwrap (z6 + 1))], [], y2.1)
   else
    (Option.bind (srun (lyT Ln) (d, 0, 0, [mI z6], [], y2.1)) (fun y3 =>
    srun (lyT Ln) ((d + 1), 88, 6, [mR 47, mI z1, mI z2, mI z3, mI z6, mI y3.2, mI (mwrap (z6 + 1))], [], y3.1)))))))))) := by
  exact (srun_unr _ [6] 25 _).trans rfl
/-! GridQuarrels$Seer.isLured(IIII)Z: method 89; stops [4] -/
theorem b_Seer_isLured (Ln d : Nat) (σ : mmSt) (x0 x1 x2 x3 : Int) : srun (lyT Ln) ((d + 1), 89, 0, [mR 47, mI x0, mI x1, mI x2, mI x3, mJ], [], σ) =
 (Option.bind (srun (lyT Ln) (d, 78, 0, [mR 47], [], σ)) (fun y1 =>
 srun (lyT Ln) ((d + 1), 89, 4, [mR 47, mI x0, mI x1, mI x2, mI x3, mI 0], [], y1.1))) := by
  exact (srun_unr _ [4] 4 _).trans rfl
theorem b_Seer_isLured_4 (Ln d : Nat) (σ : mmSt) (z1 z2 z3 z4 z5 : Int) : srun (lyT Ln) ((d + 1), 89, 4, [mR 47, mI z1, mI z2, mI z3, mI z4, mI z5], [], σ) =
 (bif decide ((σ 58 0) ≤ z5) then
  (Option.bind (srun (lyT Ln) (d, 79, 0, [mR 47, mI z4, mJ], [], σ)) (fun y1 =>
  (Option.bind (srun (lyT Ln) (d, 38, 0, [mR 58, mI z2, mI z3], [], y1.1)) (fun y2 =>
  (bif decide (0 ≤ y2.2) && decide (y2.2 ≤ 1) then some (y2.1, y2.2) else none)))))
 else
  (Option.bind (srun (lyT Ln) (d, 151, 0, [mI z1, mI z5], [], σ)) (fun y3 =>
  (bif decide (y3.2 = 0) then
   srun (lyT Ln) ((d + 1), 89, 4, [mR 47, mI z1, mI z2, mI z3, mI z4, mI (mwrap (z5 + 1))], [], y3.1)
  else
   (Option.bind (srun (lyT Ln) (d, 35, 0, [mR 58, mI z5, mI 9], [], y3.1)) (fun y4 =>
   srun (lyT Ln) ((d + 1), 89, 4, [mR 47, mI z1, mI z2, mI z3, mI z4, mI (mwrap (z5 + 1))], [], y4.1))))))) := by
  exact (srun_unr _ [4] 16 _).trans rfl
/-! GridQuarrels$Seer.worstLoss(I)I: method 90; stops [6] -/
theorem b_Seer_worstLoss (Ln d : Nat) (σ : mmSt) (x0 : Int) : srun (lyT Ln) ((d + 1), 90, 0, [mR 47, mI x0, mJ, mJ, mJ, mJ], [], σ) =
 srun (lyT Ln) ((d + 1), 90, 6, [mR 47, mI x0, mI (-1000000), mI 61, mI 0, mJ], [], σ) := by
  exact (srun_unr _ [6] 6 _).trans rfl
theorem b_Seer_worstLoss_6 (Ln d : Nat) (σ : mmSt) (z1 z2 z3 z4 : Int) (v5 : mmV) : srun (lyT Ln) ((d + 1), 90, 6, [mR 47, mI z1, mI z2, mI z3, mI z4, v5], [], σ) =
 (bif decide ((σ 48 0) ≤ z4) then
  some (σ, z2)
 else
  (Option.bind (srun (lyT Ln) (d, 19, 0, [mR 48, mI z1], [], σ)) (fun y1 =>
  (bif decide (¬ y1.2 = 0) then
   some (y1.1, z2)
  else
   (Option.bind (srun (lyT Ln) (d, 91, 0, [mR 47, mI z1, mI z4], [], y1.1)) (fun y2 =>
   (bif decide (y2.2 = (-1000000)) then
    srun (lyT Ln) ((d + 1), 90, 6, [mR 47, mI z1, mI z2, mI z3, mI (mwrap (z4 + 1)), mI y2.2], [], y2.1)
   else
    (bif decide (z3 ≤ y2.2) then
     srun (lyT Ln) ((d + 1), 90, 6, [mR 47, mI z1, mI z2, mI z3, mI (mwrap (z4 + 1)), mI y2.2], [], y2.1)
    else
     srun (lyT Ln) ((d + 1), 90, 6, [mR 47, mI z1, mI z4, mI y2.2, mI (mwrap (z4 + 1)), mI y2.2], [], y2.1))))))))) := by
  exact (srun_unr _ [6] 27 _).trans rfl
/-! GridQuarrels$Seer.deathWithout(II)I: method 91; stops [] -/
theorem b_Seer_deathWithout (Ln d : Nat) (σ : mmSt) (x0 x1 : Int) : srun (lyT Ln) ((d + 1), 91, 0, [mR 47, mI x0, mI x1], [], σ) =
 (Option.bind (srun (lyT Ln) (d, 78, 0, [mR 47], [], σ)) (fun y1 =>
 (bif minb x1 7 then
 (Option.bind (srun (lyT Ln) (d, 81, 0, [mR 47, mI x0, mJ], [], (mup y1.1 59 (Int.toNat x1) 0))) (fun y2 =>
 some (y2.1, y2.2)))
 else none))) := by
  exact (srun_unr _ [] 12 _).trans rfl
/-! GridQuarrels$Seer.fits(II)Z: method 92; stops [2] -/
theorem b_Seer_fits (Ln d : Nat) (σ : mmSt) (x0 x1 : Int) : srun (lyT Ln) ((d + 1), 92, 0, [mR 47, mI x0, mI x1, mJ], [], σ) =
 srun (lyT Ln) ((d + 1), 92, 2, [mR 47, mI x0, mI x1, mI 0], [], σ) := by
  exact (srun_unr _ [2] 2 _).trans rfl
theorem b_Seer_fits_2 (Ln d : Nat) (σ : mmSt) (z1 z2 z3 : Int) : srun (lyT Ln) ((d + 1), 92, 2, [mR 47, mI z1, mI z2, mI z3], [], σ) =
 (bif decide (z2 ≤ z3) then
  some (σ, 1)
 else
  (bif decide (12 ≤ z3) then
   some (σ, 1)
  else
   (Option.bind (srun (lyT Ln) (d, 32, 0, [mR 58, mJ], [], σ)) (fun y1 =>
   (bif minb z1 5 then
   (bif minb z3 12 then
   (bif decide ((y1.1 64 (Int.toNat z1)) = (y1.1 68 (Int.toNat z3))) then
    srun (lyT Ln) ((d + 1), 92, 2, [mR 47, mI z1, mI z2, mI (mwrap (z3 + 1))], [], y1.1)
   else
    some (y1.1, 0))
   else none)
   else none))))) := by
  exact (srun_unr _ [2] 21 _).trans rfl
/-! GridQuarrels$Seer.kindsThatFit(II)I: method 93; stops [4] -/
theorem b_Seer_kindsThatFit (Ln d : Nat) (σ : mmSt) (x0 x1 : Int) : srun (lyT Ln) ((d + 1), 93, 0, [mR 47, mI x0, mI x1, mJ, mJ], [], σ) =
 srun (lyT Ln) ((d + 1), 93, 4, [mR 47, mI x0, mI x1, mI 0, mI 1], [], σ) := by
  exact (srun_unr _ [4] 4 _).trans rfl
theorem b_Seer_kindsThatFit_4 (Ln d : Nat) (σ : mmSt) (z1 z2 z3 z4 : Int) : srun (lyT Ln) ((d + 1), 93, 4, [mR 47, mI z1, mI z2, mI z3, mI z4], [], σ) =
 (bif decide (5 < z4) then
  some (σ, z3)
 else
  (Option.bind (srun (lyT Ln) (d, 78, 0, [mR 47], [], σ)) (fun y1 =>
  (bif minb z1 5 then
  (Option.bind (srun (lyT Ln) (d, 92, 0, [mR 47, mI z1, mI z2, mJ], [], (mup y1.1 63 (Int.toNat z1) z4))) (fun y2 =>
  (bif decide (y2.2 = 0) then
   srun (lyT Ln) ((d + 1), 93, 4, [mR 47, mI z1, mI z2, mI z3, mI (mwrap (z4 + 1))], [], y2.1)
  else
   srun (lyT Ln) ((d + 1), 93, 4, [mR 47, mI z1, mI z2, mI (mor z3 (mshl 1 z4)), mI (mwrap (z4 + 1))], [], y2.1))))
  else none)))) := by
  exact (srun_unr _ [4] 24 _).trans rfl
/-! GridQuarrels$Seer.sizesThatFit(II)I: method 94; stops [4] -/
theorem b_Seer_sizesThatFit (Ln d : Nat) (σ : mmSt) (x0 x1 : Int) : srun (lyT Ln) ((d + 1), 94, 0, [mR 47, mI x0, mI x1, mJ, mJ], [], σ) =
 srun (lyT Ln) ((d + 1), 94, 4, [mR 47, mI x0, mI x1, mI 0, mI 1], [], σ) := by
  exact (srun_unr _ [4] 4 _).trans rfl
theorem b_Seer_sizesThatFit_4 (Ln d : Nat) (σ : mmSt) (z1 z2 z3 z4 : Int) : srun (lyT Ln) ((d + 1), 94, 4, [mR 47, mI z1, mI z2, mI z3, mI z4], [], σ) =
 (bif decide (9 < z4) then
  some (σ, z3)
 else
  (Option.bind (srun (lyT Ln) (d, 78, 0, [mR 47], [], σ)) (fun y1 =>
  (bif minb z1 5 then
  (Option.bind (srun (lyT Ln) (d, 92, 0, [mR 47, mI z1, mI z2, mJ], [], (mup y1.1 65 (Int.toNat z1) z4))) (fun y2 =>
  (bif decide (y2.2 = 0) then
   srun (lyT Ln) ((d + 1), 94, 4, [mR 47, mI z1, mI z2, mI z3, mI (mwrap (z4 + 1))], [], y2.1)
  else
   srun (lyT Ln) ((d + 1), 94, 4, [mR 47, mI z1, mI z2, mI (mor z3 (mshl 1 z4)), mI (mwrap (z4 + 1))], [], y2.1))))
  else none)))) := by
  exact (srun_unr _ [4] 24 _).trans rfl
/-! GridQuarrels$Seer.placesThatFit(II)I: method 95; stops [4] -/
theorem b_Seer_placesThatFit (Ln d : Nat) (σ : mmSt) (x0 x1 : Int) : srun (lyT Ln) ((d + 1), 95, 0, [mR 47, mI x0, mI x1, mJ, mJ], [], σ) =
 srun (lyT Ln) ((d + 1), 95, 4, [mR 47, mI x0, mI x1, mI 0, mI 0], [], σ) := by
  exact (srun_unr _ [4] 4 _).trans rfl
theorem b_Seer_placesThatFit_4 (Ln d : Nat) (σ : mmSt) (z1 z2 z3 z4 : Int) : srun (lyT Ln) ((d + 1), 95, 4, [mR 47, mI z1, mI z2, mI z3, mI z4], [], σ) =
 (bif decide ((σ 48 0) ≤ z4) then
  some (σ, z3)
 else
  (Option.bind (srun (lyT Ln) (d, 78, 0, [mR 47], [], σ)) (fun y1 =>
  (bif minb z1 5 then
  (Option.bind (srun (lyT Ln) (d, 92, 0, [mR 47, mI z1, mI z2, mJ], [], (mup y1.1 64 (Int.toNat z1) z4))) (fun y2 =>
  (bif decide (y2.2 = 0) then
   srun (lyT Ln) ((d + 1), 95, 4, [mR 47, mI z1, mI z2, mI z3, mI (mwrap (z4 + 1))], [], y2.1)
  else
   srun (lyT Ln) ((d + 1), 95, 4, [mR 47, mI z1, mI z2, mI (mor z3 (mshl 1 z4)), mI (mwrap (z4 + 1))], [], y2.1))))
  else none)))) := by
  exact (srun_unr _ [4] 26 _).trans rfl
/-! GridQuarrels$Seer.gridsThatFit(III)I: method 96; stops [4] -/
theorem b_Seer_gridsThatFit (Ln d : Nat) (σ : mmSt) (x0 x1 x2 : Int) : srun (lyT Ln) ((d + 1), 96, 0, [mR 47, mI x0, mI x1, mI x2, mJ, mJ], [], σ) =
 srun (lyT Ln) ((d + 1), 96, 4, [mR 47, mI x0, mI x1, mI x2, mI 0, mI 0], [], σ) := by
  exact (srun_unr _ [4] 4 _).trans rfl
theorem b_Seer_gridsThatFit_4 (Ln d : Nat) (σ : mmSt) (z1 z2 z3 z4 z5 : Int) : srun (lyT Ln) ((d + 1), 96, 4, [mR 47, mI z1, mI z2, mI z3, mI z4, mI z5], [], σ) =
 (bif decide (9 < z5) then
  some (σ, z4)
 else
  (Option.bind (srun (lyT Ln) (d, 78, 0, [mR 47], [], σ)) (fun y1 =>
  (bif minb z1 7 then
  (Option.bind (srun (lyT Ln) (d, 92, 0, [mR 47, mI z2, mI z3, mJ], [], (mup y1.1 62 (Int.toNat z1) z5))) (fun y2 =>
  (bif decide (y2.2 = 0) then
   srun (lyT Ln) ((d + 1), 96, 4, [mR 47, mI z1, mI z2, mI z3, mI z4, mI (mwrap (z5 + 1))], [], y2.1)
  else
   srun (lyT Ln) ((d + 1), 96, 4, [mR 47, mI z1, mI z2, mI z3, mI (mor z4 (mshl 1 z5)), mI (mwrap (z5 + 1))], [], y2.1))))
  else none)))) := by
  exact (srun_unr _ [4] 24 _).trans rfl
/-! GridQuarrels$Seer.quarrelsThatFit(I)I: method 97; stops [4] -/
theorem b_Seer_quarrelsThatFit (Ln d : Nat) (σ : mmSt) (x0 : Int) : srun (lyT Ln) ((d + 1), 97, 0, [mR 47, mI x0, mJ, mJ], [], σ) =
 srun (lyT Ln) ((d + 1), 97, 4, [mR 47, mI x0, mI 0, mI 0], [], σ) := by
  exact (srun_unr _ [4] 4 _).trans rfl
theorem b_Seer_quarrelsThatFit_4 (Ln d : Nat) (σ : mmSt) (z1 z2 z3 : Int) : srun (lyT Ln) ((d + 1), 97, 4, [mR 47, mI z1, mI z2, mI z3], [], σ) =
 (bif decide ((σ 48 2) ≤ z3) then
  some (σ, z2)
 else
  (Option.bind (srun (lyT Ln) (d, 78, 0, [mR 47], [], σ)) (fun y1 =>
  (Option.bind (srun (lyT Ln) (d, 92, 0, [mR 47, mI z3, mI z1, mJ], [], y1.1)) (fun y2 =>
  (bif decide (y2.2 = 0) then
   srun (lyT Ln) ((d + 1), 97, 4, [mR 47, mI z1, mI z2, mI (mwrap (z3 + 1))], [], y2.1)
  else
   srun (lyT Ln) ((d + 1), 97, 4, [mR 47, mI z1, mI (mor z2 (mshl 1 z3)), mI (mwrap (z3 + 1))], [], y2.1))))))) := by
  exact (srun_unr _ [4] 20 _).trans rfl
/-! GridQuarrels$Seer.roadsWithBars()I: method 98; stops [4] -/
theorem b_Seer_roadsWithBars (Ln d : Nat) (σ : mmSt) : srun (lyT Ln) ((d + 1), 98, 0, [mR 47, mJ, mJ], [], σ) =
 srun (lyT Ln) ((d + 1), 98, 4, [mR 47, mI 0, mI 0], [], σ) := by
  exact (srun_unr _ [4] 4 _).trans rfl
theorem b_Seer_roadsWithBars_4 (Ln d : Nat) (σ : mmSt) (z1 z2 : Int) : srun (lyT Ln) ((d + 1), 98, 4, [mR 47, mI z1, mI z2], [], σ) =
 (bif decide ((σ 48 1) ≤ z2) then
  some (σ, z1)
 else
  (bif minb z2 7 then
  (bif decide ((σ 52 (Int.toNat z2)) ≤ 0) then
   srun (lyT Ln) ((d + 1), 98, 4, [mR 47, mI z1, mI (mwrap (z2 + 1))], [], σ)
  else
   srun (lyT Ln) ((d + 1), 98, 4, [mR 47, mI (mor z1 (mshl 1 z2)), mI (mwrap (z2 + 1))], [], σ))
  else none)) := by
  exact (srun_unr _ [4] 19 _).trans rfl
/-! GridQuarrels$Seer.allCases()J: method 99; stops [] -/
theorem b_Seer_allCases (Ln d : Nat) (σ : mmSt) : srun (lyT Ln) ((d + 1), 99, 0, [mR 47], [], σ) =
 (Option.bind (srun (lyT Ln) (d, 98, 0, [mR 47, mJ, mJ], [], σ)) (fun y1 =>
 (Option.bind (srun (lyT Ln) (d, 0, 0, [mI y1.2], [], y1.1)) (fun y2 =>
 (Option.bind (srun (lyT Ln) (d, 103, 0, [mI 10, mI y2.2, mJ, mJ, mJ], [], y2.1)) (fun y3 =>
 some (y3.1, y3.2))))))) := by
  exact (srun_unr _ [] 6 _).trans rfl
/-! GridQuarrels$Seer.snowyCases(IIII)J: method 100; stops [7] -/
theorem b_Seer_snowyCases (Ln d : Nat) (σ : mmSt) (x0 x1 x2 x3 : Int) : srun (lyT Ln) ((d + 1), 100, 0, [mR 47, mI x0, mI x1, mI x2, mI x3, mJ, mJ, mJ, mJ, mJ, mJ], [], σ) =
 (Option.bind (srun (lyT Ln) (d, 98, 0, [mR 47, mJ, mJ], [], σ)) (fun y1 =>
 srun (lyT Ln) ((d + 1), 100, 7, [mR 47, mI x0, mI x1, mI x2, mI x3, mI y1.2, mL 0, mJ, mI 0, mJ, mJ], [], y1.1))) := by
  exact (srun_unr _ [7] 7 _).trans rfl
theorem b_Seer_snowyCases_7 (Ln d : Nat) (σ : mmSt) (z1 z2 z3 z4 z5 z6 z8 : Int) (v9 : mmV) : srun (lyT Ln) ((d + 1), 100, 7, [mR 47, mI z1, mI z2, mI z3, mI z4, mI z5, mL z6, mJ, mI z8, v9, mJ], [], σ) =
 (bif decide ((mshl 1 (σ 48 1)) ≤ z8) then
  some (σ, z6)
 else
  (bif decide (¬ (mand z8 (mxor z5 (-1))) = 0) then
   (bif decide ((mlcmp 0 0) ≤ 0) then
    srun (lyT Ln) ((d + 1), 100, 7, [mR 47, mI z1, mI z2, mI z3, mI z4, mI z5, mL z6, mJ, mI (mwrap (z8 + 1)), mL 0, mJ], [], σ)
   else
    (Option.bind (srun (lyT Ln) (d, 102, 0, [mR 47, mI z8, mI z1, mI z2, mI z3], [], σ)) (fun y1 =>
    (bif decide (y1.2 = 0) then
     srun (lyT Ln) ((d + 1), 100, 7, [mR 47, mI z1, mI z2, mI z3, mI z4, mI z5, mL z6, mJ, mI (mwrap (z8 + 1)), mL 0, mJ], [], y1.1)
    else
     srun (lyT Ln) ((d + 1), 100, 7, [mR 47, mI z1, mI z2, mI z3, mI z4, mI z5, mL (mwrapL (z6 + 0)), mJ, mI (mwrap (z8 + 1)), mL 0, mJ], [], y1.1)))))
  else
   (Option.bind (srun (lyT Ln) (d, 101, 0, [mI z8, mI z5, mI z4, mJ], [], σ)) (fun y2 =>
   (bif decide ((mlcmp y2.2 0) ≤ 0) then
    srun (lyT Ln) ((d + 1), 100, 7, [mR 47, mI z1, mI z2, mI z3, mI z4, mI z5, mL z6, mJ, mI (mwrap (z8 + 1)), mL y2.2, mJ], [], y2.1)
   else
    (Option.bind (srun (lyT Ln) (d, 102, 0, [mR 47, mI z8, mI z1, mI z2, mI z3], [], y2.1)) (fun y3 =>
    (bif decide (y3.2 = 0) then
     srun (lyT Ln) ((d + 1), 100, 7, [mR 47, mI z1, mI z2, mI z3, mI z4, mI z5, mL z6, mJ, mI (mwrap (z8 + 1)), mL y2.2, mJ], [], y3.1)
    else
     srun (lyT Ln) ((d + 1), 100, 7, [mR 47, mI z1, mI z2, mI z3, mI z4, mI z5, mL (mwrapL (z6 + y2.2)), mJ, mI (mwrap (z8 + 1)), mL y2.2, mJ], [], y3.1))))))))) := by
  exact (srun_unr _ [7] 36 _).trans rfl
/-! GridQuarrels$Seer.casesOf(III)J: method 101; stops [] -/
theorem b_Seer_casesOf (Ln d : Nat) (σ : mmSt) (x0 x1 x2 : Int) : srun (lyT Ln) ((d + 1), 101, 0, [mI x0, mI x1, mI x2, mJ], [], σ) =
 (Option.bind (srun (lyT Ln) (d, 0, 0, [mI (mand x1 (mxor x0 (-1)))], [], σ)) (fun y1 =>
 (Option.bind (srun (lyT Ln) (d, 0, 0, [mI x0], [], y1.1)) (fun y2 =>
 (Option.bind (srun (lyT Ln) (d, 103, 0, [mI x2, mI y2.2, mJ, mJ, mJ], [], y2.1)) (fun y3 =>
 (Option.bind (srun (lyT Ln) (d, 103, 0, [mI (mwrap (10 - x2)), mI y1.2, mJ, mJ, mJ], [], y3.1)) (fun y4 =>
 some (y4.1, (mwrapL (y3.2 * y4.2))))))))))) := by
  exact (srun_unr _ [] 18 _).trans rfl
/-! GridQuarrels$Seer.isThereIfFilled(IIII)Z: method 102; stops [] -/
theorem b_Seer_isThereIfFilled (Ln d : Nat) (σ : mmSt) (x0 x1 x2 x3 : Int) : srun (lyT Ln) ((d + 1), 102, 0, [mR 47, mI x0, mI x1, mI x2, mI x3], [], σ) =
 (Option.bind (srun (lyT Ln) (d, 78, 0, [mR 47], [], σ)) (fun y1 =>
 (Option.bind (srun (lyT Ln) (d, 86, 0, [mR 47, mI x0, mI 0, mJ], [], y1.1)) (fun y2 =>
 (Option.bind (srun (lyT Ln) (d, 79, 0, [mR 47, mI x3, mJ], [], y2.1)) (fun y3 =>
 (Option.bind (srun (lyT Ln) (d, 38, 0, [mR 58, mI x1, mI x2], [], y3.1)) (fun y4 =>
 (bif decide (0 ≤ y4.2) && decide (y4.2 ≤ 1) then some (y4.1, y4.2) else none))))))))) := by
  exact (srun_unr _ [] 15 _).trans rfl
/-! GridQuarrels$Seer.power(II)J: method 103; stops [4] -/
theorem b_Seer_power (Ln d : Nat) (σ : mmSt) (x0 x1 : Int) : srun (lyT Ln) ((d + 1), 103, 0, [mI x0, mI x1, mJ, mJ, mJ], [], σ) =
 srun (lyT Ln) ((d + 1), 103, 4, [mI x0, mI x1, mL 1, mJ, mI 0], [], σ) := by
  exact (srun_unr _ [4] 4 _).trans rfl
theorem b_Seer_power_4 (Ln d : Nat) (σ : mmSt) (z0 z1 z2 z4 : Int) : srun (lyT Ln) ((d + 1), 103, 4, [mI z0, mI z1, mL z2, mJ, mI z4], [], σ) =
 (bif decide (z1 ≤ z4) then
  some (σ, z2)
 else
  srun (lyT Ln) ((d + 1), 103, 4, [mI z0, mI z1, mL (mwrapL (z2 * z0)), mJ, mI (mwrap (z4 + 1))], [], σ)) := by
  exact (srun_unr _ [4] 10 _).trans rfl
/-! GridQuarrels$Seer.draw(II)V: method 104; stops [18] -/
theorem b_Seer_draw (Ln d : Nat) (σ : mmSt) (x0 x1 : Int) : srun (lyT Ln) ((d + 1), 104, 0, [mR 47, mI x0, mI x1, mJ, mJ, mJ], [], σ) =
 (Option.bind (srun (lyT Ln) (d, 78, 0, [mR 47], [], σ)) (fun y1 =>
 (bif decide ((y1.1 58 0) < 1) then
  some (y1.1, 0)
 else
  (bif decide (1 ≤ (y1.1 58 1)) then
   srun (lyT Ln) ((d + 1), 104, 18, [mR 47, mI x0, mI x1, mL x1, mJ, mI 0], [], y1.1)
  else
   some (y1.1, 0))))) := by
  exact (srun_unr _ [18] 17 _).trans rfl
set_option maxRecDepth 100000 in
theorem b_Seer_draw_18 (Ln d : Nat) (σ : mmSt) (z1 z2 z3 z5 : Int) : srun (lyT Ln) ((d + 1), 104, 18, [mR 47, mI z1, mI z2, mL z3, mJ, mI z5], [], σ) =
 (bif decide (z1 ≤ z5) then
  some (σ, 0)
 else
  (bif decide (¬ 2147483647 = 0) then
  (bif decide (¬ (σ 58 0) = 0) then
  (bif decide (¬ 5 = 0) then
  (Option.bind (srun (lyT Ln) (d, 35, 0, [mR 58, mI (mwrap (Int.tmod (Int.tmod (mwrapL (z3 * 16807)) 2147483647) (σ 58 0))), mI (mwrap (Int.tmod (Int.tmod (mwrapL (z3 * 16807)) 2147483647) 5))], [], σ)) (fun y1 =>
  (bif decide (¬ 6 = 0) then
  (bif decide (¬ (mlcmp (Int.tmod (Int.tmod (mwrapL (z3 * 16807)) 2147483647) 6) 0) = 0) then
   (Option.bind (srun (lyT Ln) (d, 32, 0, [mR 58, mJ], [], y1.1)) (fun y2 =>
   srun (lyT Ln) ((d + 1), 104, 18, [mR 47, mI z1, mI z2, mL (Int.tmod (mwrapL (z3 * 16807)) 2147483647), mJ, mI (mwrap (z5 + 1))], [], y2.1)))
  else
   (bif decide (¬ (y1.1 58 1) = 0) then
   (bif minb (mwrap (Int.tmod (Int.tmod (mwrapL (z3 * 16807)) 2147483647) (y1.1 58 1))) 7 then
   (Option.bind (srun (lyT Ln) (d, 32, 0, [mR 58, mJ], [], (mup y1.1 62 (Int.toNat (mwrap (Int.tmod (Int.tmod (mwrapL (z3 * 16807)) 2147483647) (y1.1 58 1)))) 0))) (fun y3 =>
   srun (lyT Ln) ((d + 1), 104, 18, [mR 47, mI z1, mI z2, mL (Int.tmod (mwrapL (z3 * 16807)) 2147483647), mJ, mI (mwrap (z5 + 1))], [], y3.1)))
   else none)
   else none))
  else none)))
  else none)
  else none)
  else none)) := by
  exact (srun_unr _ [18] 46 _).trans rfl
/-! GridQuarrels.row(III)I: method 106; stops [] -/
theorem b_X_row (Ln d : Nat) (σ : mmSt) (x0 x1 x2 : Int) : srun (lyT Ln) ((d + 1), 106, 0, [mR 4, mI x0, mI x1, mI x2], [], σ) =
 (Option.bind (srun (lyT Ln) (d, 65, 0, [mR 5, mI x0], [], σ)) (fun y1 =>
 (bif decide (y1.2 = 0) then
  some (y1.1, (-1000001))
 else
  (Option.bind (srun (lyT Ln) (d, 150, 0, [mI x1, mI 0, mI 2], [], y1.1)) (fun y2 =>
  (bif decide (y2.2 = 0) then
   some (y2.1, (-1000001))
  else
   (bif decide (x2 ≤ 40) then
    (bif decide (0 ≤ x2) then
     (Option.bind (srun (lyT Ln) (d, 71, 0, [mR 5, mI x0, mI x1, mI x2, mJ], [], y2.1)) (fun y3 =>
     (Option.bind (srun (lyT Ln) (d, 149, 0, [mR 4, mI x2], [], y3.1)) (fun y4 =>
     some (y4.1, y4.2)))))
    else
     (Option.bind (srun (lyT Ln) (d, 148, 0, [mR 4, mI 4], [], y2.1)) (fun y5 =>
     some (y5.1, y5.2))))
   else
    some (y2.1, (-1000001))))))))) := by
  exact (srun_unr _ [] 25 _).trans rfl
/-! GridQuarrels.set(III)I: method 107; stops [] -/
theorem b_X_set (Ln d : Nat) (σ : mmSt) (x0 x1 x2 : Int) : srun (lyT Ln) ((d + 1), 107, 0, [mR 4, mI x0, mI x1, mI x2, mJ], [], σ) =
 (Option.bind (srun (lyT Ln) (d, 65, 0, [mR 5, mI x0], [], σ)) (fun y1 =>
 (bif decide (¬ y1.2 = 0) then
  (Option.bind (srun (lyT Ln) (d, 68, 0, [mR 5, mI x0, mI x1, mI 1], [], y1.1)) (fun y2 =>
  (bif decide (y2.2 = 0) then
   (Option.bind (srun (lyT Ln) (d, 73, 0, [mR 5, mI x0, mI x1, mI x2, mJ], [], y2.1)) (fun y3 =>
   (Option.bind (srun (lyT Ln) (d, 149, 0, [mR 4, mI y3.2], [], y3.1)) (fun y4 =>
   some (y4.1, y4.2)))))
  else
   (Option.bind (srun (lyT Ln) (d, 148, 0, [mR 4, mI y2.2], [], y2.1)) (fun y5 =>
   some (y5.1, y5.2))))))
 else
  some (y1.1, (-1000001))))) := by
  exact (srun_unr _ [] 23 _).trans rfl
/-! GridQuarrels.copy(IIIII)I: method 108; stops [] -/
theorem b_X_copy (Ln d : Nat) (σ : mmSt) (x0 x1 x2 x3 x4 : Int) : srun (lyT Ln) ((d + 1), 108, 0, [mR 4, mI x0, mI x1, mI x2, mI x3, mI x4, mJ], [], σ) =
 (Option.bind (srun (lyT Ln) (d, 65, 0, [mR 5, mI x0], [], σ)) (fun y1 =>
 (bif decide (y1.2 = 0) then
  some (y1.1, (-1000001))
 else
  (Option.bind (srun (lyT Ln) (d, 65, 0, [mR 5, mI x2], [], y1.1)) (fun y2 =>
  (bif decide (¬ y2.2 = 0) then
   (Option.bind (srun (lyT Ln) (d, 69, 0, [mR 5, mI x0, mI x1, mI x2, mI x3, mI x4], [], y2.1)) (fun y3 =>
   (bif decide (y3.2 = 0) then
    (Option.bind (srun (lyT Ln) (d, 75, 0, [mR 5, mI x0, mI x1, mI x2, mI x3, mI x4], [], y3.1)) (fun y4 =>
    (Option.bind (srun (lyT Ln) (d, 149, 0, [mR 4, mI x4], [], y4.1)) (fun y5 =>
    some (y5.1, y5.2)))))
   else
    (Option.bind (srun (lyT Ln) (d, 148, 0, [mR 4, mI y3.2], [], y3.1)) (fun y6 =>
    some (y6.1, y6.2))))))
  else
   some (y2.1, (-1000001)))))))) := by
  exact (srun_unr _ [] 33 _).trans rfl
/-! GridQuarrels.drop(I)I: method 109; stops [] -/
theorem b_X_drop (Ln d : Nat) (σ : mmSt) (x0 : Int) : srun (lyT Ln) ((d + 1), 109, 0, [mR 4, mI x0], [], σ) =
 (Option.bind (srun (lyT Ln) (d, 65, 0, [mR 5, mI x0], [], σ)) (fun y1 =>
 (bif decide (¬ y1.2 = 0) then
  (Option.bind (srun (lyT Ln) (d, 66, 0, [mR 5, mI x0], [], y1.1)) (fun y2 =>
  (bif decide (y2.2 = 0) then
   (Option.bind (srun (lyT Ln) (d, 72, 0, [mR 5, mI x0, mJ], [], y2.1)) (fun y3 =>
   (Option.bind (srun (lyT Ln) (d, 149, 0, [mR 4, mI y3.2], [], y3.1)) (fun y4 =>
   some (y4.1, y4.2)))))
  else
   (Option.bind (srun (lyT Ln) (d, 148, 0, [mR 4, mI 1], [], y2.1)) (fun y5 =>
   some (y5.1, y5.2))))))
 else
  some (y1.1, (-1000001))))) := by
  exact (srun_unr _ [] 17 _).trans rfl
/-! GridQuarrels.feed(I)I: method 110; stops [] -/
theorem b_X_feed (Ln d : Nat) (σ : mmSt) (x0 : Int) : srun (lyT Ln) ((d + 1), 110, 0, [mR 4, mI x0], [], σ) =
 (Option.bind (srun (lyT Ln) (d, 150, 0, [mI x0, mI 0, mI 255], [], σ)) (fun y1 =>
 (bif decide (¬ y1.2 = 0) then
  (Option.bind (srun (lyT Ln) (d, 48, 0, [mR 9], [], y1.1)) (fun y2 =>
  (bif decide (y2.2 = 0) then
   (Option.bind (srun (lyT Ln) (d, 49, 0, [mR 9, mI x0], [], y2.1)) (fun y3 =>
   some (y3.1, y3.2)))
  else
   some (y2.1, (-1000003)))))
 else
  some (y1.1, (-1000001))))) := by
  exact (srun_unr _ [] 14 _).trans rfl
/-! GridQuarrels.county()I: method 111; stops [] -/
theorem b_X_county (Ln d : Nat) (σ : mmSt) : srun (lyT Ln) ((d + 1), 111, 0, [mR 4, mJ], [], σ) =
 (Option.bind (srun (lyT Ln) (d, 50, 0, [mR 9], [], σ)) (fun y1 =>
 (bif decide (y1.2 = (-1000000)) then
  (Option.bind (srun (lyT Ln) (d, 24, 0, [mR 48, mR 10, mJ], [], y1.1)) (fun y2 =>
  (Option.bind (srun (lyT Ln) (d, 4, 0, [mR 21], [], y2.1)) (fun y3 =>
  some (y3.1, (y3.1 48 2))))))
 else
  some (y1.1, (mwrap ((-1000100) - y1.2)))))) := by
  exact (srun_unr _ [] 20 _).trans rfl
/-! GridQuarrels.fault()I: method 112; stops [] -/
theorem b_X_fault (Ln d : Nat) (σ : mmSt) : srun (lyT Ln) ((d + 1), 112, 0, [mR 4], [], σ) =
 some (σ, (σ 9 2)) := by
  exact (srun_unr _ [] 4 _).trans rfl
/-! GridQuarrels.undo()I: method 113; stops [] -/
theorem b_X_undo (Ln d : Nat) (σ : mmSt) : srun (lyT Ln) ((d + 1), 113, 0, [mR 4], [], σ) =
 (bif decide (¬ (σ 21 0) = 0) then
  (Option.bind (srun (lyT Ln) (d, 6, 0, [mR 21, mR 48], [], σ)) (fun y1 =>
  some (y1.1, (y1.1 21 0))))
 else
  some (σ, (-1000002))) := by
  exact (srun_unr _ [] 13 _).trans rfl
/-! GridQuarrels.years(I)I: method 114; stops [24] -/
theorem b_X_years (Ln d : Nat) (σ : mmSt) (x0 : Int) : srun (lyT Ln) ((d + 1), 114, 0, [mR 4, mI x0, mJ], [], σ) =
 (Option.bind (srun (lyT Ln) (d, 15, 0, [mR 48], [], σ)) (fun y1 =>
 (bif decide (¬ y1.2 = 0) then
  (Option.bind (srun (lyT Ln) (d, 150, 0, [mI x0, mI 1, mI 24], [], y1.1)) (fun y2 =>
  (bif decide (¬ y2.2 = 0) then
   (bif decide ((mwrap ((y2.1 48 3) + x0)) ≤ 999) then
    srun (lyT Ln) ((d + 1), 114, 24, [mR 4, mI x0, mI 0], [], y2.1)
   else
    some (y2.1, (-1000003)))
  else
   some (y2.1, (-1000001)))))
 else
  some (y1.1, (-1000002))))) := by
  exact (srun_unr _ [24] 18 _).trans rfl
theorem b_X_years_24 (Ln d : Nat) (σ : mmSt) (z1 z2 : Int) : srun (lyT Ln) ((d + 1), 114, 24, [mR 4, mI z1, mI z2], [], σ) =
 (bif decide (z1 ≤ z2) then
  (Option.bind (srun (lyT Ln) (d, 37, 0, [mR 48, mJ, mJ], [], σ)) (fun y1 =>
  some (y1.1, y1.2)))
 else
  (Option.bind (srun (lyT Ln) (d, 5, 0, [mR 21, mR 48], [], σ)) (fun y2 =>
  (Option.bind (srun (lyT Ln) (d, 32, 0, [mR 48, mJ], [], y2.1)) (fun y3 =>
  srun (lyT Ln) ((d + 1), 114, 24, [mR 4, mI z1, mI (mwrap (z2 + 1))], [], y3.1)))))) := by
  exact (srun_unr _ [24] 13 _).trans rfl
/-! GridQuarrels.hay(II)I: method 115; stops [] -/
theorem b_X_hay (Ln d : Nat) (σ : mmSt) (x0 x1 : Int) : srun (lyT Ln) ((d + 1), 115, 0, [mR 4, mI x0, mI x1], [], σ) =
 (Option.bind (srun (lyT Ln) (d, 16, 0, [mR 48, mI x0], [], σ)) (fun y1 =>
 (bif decide (y1.2 = 0) then
  some (y1.1, (-1000001))
 else
  (Option.bind (srun (lyT Ln) (d, 150, 0, [mI x1, mI 1, mI 9], [], y1.1)) (fun y2 =>
  (bif decide (¬ y2.2 = 0) then
   (Option.bind (srun (lyT Ln) (d, 5, 0, [mR 21, mR 48], [], y2.1)) (fun y3 =>
   (Option.bind (srun (lyT Ln) (d, 35, 0, [mR 48, mI x0, mI x1], [], y3.1)) (fun y4 =>
   (bif minb x0 7 then
   some (y4.1, (y4.1 49 (Int.toNat x0)))
   else none)))))
  else
   some (y2.1, (-1000001)))))))) := by
  exact (srun_unr _ [] 26 _).trans rfl
/-! GridQuarrels.grid(II)I: method 116; stops [] -/
theorem b_X_grid (Ln d : Nat) (σ : mmSt) (x0 x1 : Int) : srun (lyT Ln) ((d + 1), 116, 0, [mR 4, mI x0, mI x1, mJ], [], σ) =
 (Option.bind (srun (lyT Ln) (d, 17, 0, [mR 48, mI x0], [], σ)) (fun y1 =>
 (bif decide (y1.2 = 0) then
  some (y1.1, (-1000001))
 else
  (Option.bind (srun (lyT Ln) (d, 150, 0, [mI x1, mI 0, mI 9], [], y1.1)) (fun y2 =>
  (bif decide (¬ y2.2 = 0) then
   (bif minb x0 7 then
   (Option.bind (srun (lyT Ln) (d, 5, 0, [mR 21, mR 48], [], y2.1)) (fun y3 =>
   (bif minb x0 7 then
   some ((mup y3.1 52 (Int.toNat x0) x1), (y2.1 52 (Int.toNat x0)))
   else none)))
   else none)
  else
   some (y2.1, (-1000001)))))))) := by
  exact (srun_unr _ [] 29 _).trans rfl
/-! GridQuarrels.drive(II)I: method 117; stops [] -/
set_option maxRecDepth 100000 in
theorem b_X_drive (Ln d : Nat) (σ : mmSt) (x0 x1 : Int) : srun (lyT Ln) ((d + 1), 117, 0, [mR 4, mI x0, mI x1, mJ], [], σ) =
 (Option.bind (srun (lyT Ln) (d, 18, 0, [mR 48, mI x0], [], σ)) (fun y1 =>
 (bif decide (y1.2 = 0) then
  some (y1.1, (-1000001))
 else
  (Option.bind (srun (lyT Ln) (d, 17, 0, [mR 48, mI x1], [], y1.1)) (fun y2 =>
  (bif decide (¬ y2.2 = 0) then
   (bif minb x0 5 then
   (Option.bind (srun (lyT Ln) (d, 19, 0, [mR 48, mI x0], [], y2.1)) (fun y3 =>
   (bif decide (¬ y3.2 = 0) then
    some (y3.1, (-1000002))
   else
    (Option.bind (srun (lyT Ln) (d, 27, 0, [mR 48, mI x1, mI (y2.1 54 (Int.toNat x0))], [], y3.1)) (fun y4 =>
    (bif decide (¬ y4.2 = 0) then
     (Option.bind (srun (lyT Ln) (d, 5, 0, [mR 21, mR 48], [], y4.1)) (fun y5 =>
     (Option.bind (srun (lyT Ln) (d, 28, 0, [mR 48, mI x1, mI (y2.1 54 (Int.toNat x0))], [], y5.1)) (fun y6 =>
     (bif minb x0 5 then
     (bif minb x0 5 then
     some ((mup y6.1 54 (Int.toNat x0) y6.2), ((mup y6.1 54 (Int.toNat x0) y6.2) 54 (Int.toNat x0)))
     else none)
     else none)))))
    else
     some (y4.1, (-1000002))))))))
   else none)
  else
   some (y2.1, (-1000001)))))))) := by
  exact (srun_unr _ [] 48 _).trans rfl
/-! GridQuarrels.grow(II)I: method 118; stops [] -/
theorem b_X_grow (Ln d : Nat) (σ : mmSt) (x0 x1 : Int) : srun (lyT Ln) ((d + 1), 118, 0, [mR 4, mI x0, mI x1, mJ], [], σ) =
 (Option.bind (srun (lyT Ln) (d, 18, 0, [mR 48, mI x0], [], σ)) (fun y1 =>
 (bif decide (y1.2 = 0) then
  some (y1.1, (-1000001))
 else
  (Option.bind (srun (lyT Ln) (d, 150, 0, [mI x1, mI 1, mI 9], [], y1.1)) (fun y2 =>
  (bif decide (¬ y2.2 = 0) then
   (Option.bind (srun (lyT Ln) (d, 19, 0, [mR 48, mI x0], [], y2.1)) (fun y3 =>
   (bif decide (y3.2 = 0) then
    (bif minb x0 5 then
    (Option.bind (srun (lyT Ln) (d, 5, 0, [mR 21, mR 48], [], y3.1)) (fun y4 =>
    (bif minb x0 5 then
    some ((mup y4.1 55 (Int.toNat x0) x1), (y3.1 55 (Int.toNat x0)))
    else none)))
    else none)
   else
    some (y3.1, (-1000002)))))
  else
   some (y2.1, (-1000001)))))))) := by
  exact (srun_unr _ [] 34 _).trans rfl
/-! GridQuarrels.quarrel(II)I: method 119; stops [] -/
theorem b_X_quarrel (Ln d : Nat) (σ : mmSt) (x0 x1 : Int) : srun (lyT Ln) ((d + 1), 119, 0, [mR 4, mI x0, mI x1], [], σ) =
 (Option.bind (srun (lyT Ln) (d, 18, 0, [mR 48, mI x0], [], σ)) (fun y1 =>
 (bif decide (¬ y1.2 = 0) then
  (bif decide (x1 = 0) then
  (bif minb x0 5 then
   some (y1.1, (y1.1 54 (Int.toNat x0)))
   else none)
  else
  (bif decide (x1 = 1) then
  (bif minb x0 5 then
   some (y1.1, (y1.1 55 (Int.toNat x0)))
   else none)
  else
  (bif decide (x1 = 2) then
  (bif minb x0 5 then
   some (y1.1, (y1.1 56 (Int.toNat x0)))
   else none)
  else
  (bif decide (x1 = 3) then
  (Option.bind (srun (lyT Ln) (d, 42, 0, [mR 48, mI x0, mJ, mJ], [], y1.1)) (fun y3 =>
   some (y3.1, y3.2)))
  else
  (bif decide (x1 = 4) then
  (Option.bind (srun (lyT Ln) (d, 31, 0, [mR 48, mI x0, mJ, mJ, mJ], [], y1.1)) (fun y2 =>
   some (y2.1, y2.2)))
  else
  some (y1.1, (-1000001)))))))
 else
  some (y1.1, (-1000001))))) := by
  exact (srun_unr _ [] 13 _).trans rfl
/-! GridQuarrels.road(II)I: method 120; stops [] -/
theorem b_X_road (Ln d : Nat) (σ : mmSt) (x0 x1 : Int) : srun (lyT Ln) ((d + 1), 120, 0, [mR 4, mI x0, mI x1], [], σ) =
 (Option.bind (srun (lyT Ln) (d, 17, 0, [mR 48, mI x0], [], σ)) (fun y1 =>
 (bif decide (¬ y1.2 = 0) then
  (bif decide (x1 = 0) then
  (bif minb x0 7 then
   some (y1.1, (y1.1 50 (Int.toNat x0)))
   else none)
  else
  (bif decide (x1 = 1) then
  (bif minb x0 7 then
   some (y1.1, (y1.1 51 (Int.toNat x0)))
   else none)
  else
  (bif decide (x1 = 2) then
  (bif minb x0 7 then
   some (y1.1, (y1.1 52 (Int.toNat x0)))
   else none)
  else
  some (y1.1, (-1000001)))))
 else
  some (y1.1, (-1000001))))) := by
  exact (srun_unr _ [] 13 _).trans rfl
/-! GridQuarrels.parish(II)I: method 121; stops [] -/
theorem b_X_parish (Ln d : Nat) (σ : mmSt) (x0 x1 : Int) : srun (lyT Ln) ((d + 1), 121, 0, [mR 4, mI x0, mI x1], [], σ) =
 (Option.bind (srun (lyT Ln) (d, 16, 0, [mR 48, mI x0], [], σ)) (fun y1 =>
 (bif decide (¬ y1.2 = 0) then
  (bif decide (x1 = 0) then
  (bif minb x0 7 then
   some (y1.1, (y1.1 49 (Int.toNat x0)))
   else none)
  else
  (bif decide (x1 = 1) then
  (Option.bind (srun (lyT Ln) (d, 39, 0, [mR 48, mI x0, mJ, mJ], [], y1.1)) (fun y3 =>
   some (y3.1, y3.2)))
  else
  (bif decide (x1 = 2) then
  (Option.bind (srun (lyT Ln) (d, 41, 0, [mR 48, mI x0, mJ, mJ], [], y1.1)) (fun y2 =>
   some (y2.1, y2.2)))
  else
  some (y1.1, (-1000001)))))
 else
  some (y1.1, (-1000001))))) := by
  exact (srun_unr _ [] 13 _).trans rfl
/-! GridQuarrels.ahead(III)I: method 122; stops [] -/
theorem b_X_ahead (Ln d : Nat) (σ : mmSt) (x0 x1 x2 : Int) : srun (lyT Ln) ((d + 1), 122, 0, [mR 4, mI x0, mI x1, mI x2], [], σ) =
 (Option.bind (srun (lyT Ln) (d, 18, 0, [mR 48, mI x0], [], σ)) (fun y1 =>
 (bif decide (y1.2 = 0) then
  some (y1.1, (-1000001))
 else
  (Option.bind (srun (lyT Ln) (d, 150, 0, [mI x1, mI 0, mI 60], [], y1.1)) (fun y2 =>
  (bif decide (y2.2 = 0) then
   some (y2.1, (-1000001))
  else
   (Option.bind (srun (lyT Ln) (d, 150, 0, [mI x2, mI 0, mI 1], [], y2.1)) (fun y3 =>
   (bif decide (¬ y3.2 = 0) then
    (Option.bind (srun (lyT Ln) (d, 80, 0, [mR 47, mI x1], [], y3.1)) (fun y4 =>
    (bif decide (¬ x2 = 0) then
     (bif minb x0 5 then
     some (y4.1, (y4.1 65 (Int.toNat x0)))
     else none)
    else
     (bif minb x0 5 then
     some (y4.1, (y4.1 64 (Int.toNat x0)))
     else none))))
   else
    some (y3.1, (-1000001))))))))))) := by
  exact (srun_unr _ [] 29 _).trans rfl
/-! GridQuarrels.hayAhead(II)I: method 123; stops [] -/
theorem b_X_hayAhead (Ln d : Nat) (σ : mmSt) (x0 x1 : Int) : srun (lyT Ln) ((d + 1), 123, 0, [mR 4, mI x0, mI x1], [], σ) =
 (Option.bind (srun (lyT Ln) (d, 16, 0, [mR 48, mI x0], [], σ)) (fun y1 =>
 (bif decide (y1.2 = 0) then
  some (y1.1, (-1000001))
 else
  (Option.bind (srun (lyT Ln) (d, 150, 0, [mI x1, mI 0, mI 60], [], y1.1)) (fun y2 =>
  (bif decide (¬ y2.2 = 0) then
   (Option.bind (srun (lyT Ln) (d, 80, 0, [mR 47, mI x1], [], y2.1)) (fun y3 =>
   (bif minb x0 7 then
   some (y3.1, (y3.1 59 (Int.toNat x0)))
   else none)))
  else
   some (y2.1, (-1000001)))))))) := by
  exact (srun_unr _ [] 21 _).trans rfl
/-! GridQuarrels.dies(I)I: method 124; stops [] -/
theorem b_X_dies (Ln d : Nat) (σ : mmSt) (x0 : Int) : srun (lyT Ln) ((d + 1), 124, 0, [mR 4, mI x0], [], σ) =
 (Option.bind (srun (lyT Ln) (d, 18, 0, [mR 48, mI x0], [], σ)) (fun y1 =>
 (bif decide (¬ y1.2 = 0) then
  (Option.bind (srun (lyT Ln) (d, 78, 0, [mR 47], [], y1.1)) (fun y2 =>
  (Option.bind (srun (lyT Ln) (d, 81, 0, [mR 47, mI x0, mJ], [], y2.1)) (fun y3 =>
  some (y3.1, y3.2)))))
 else
  some (y1.1, (-1000001))))) := by
  exact (srun_unr _ [] 13 _).trans rfl
/-! GridQuarrels.comes(II)I: method 125; stops [] -/
theorem b_X_comes (Ln d : Nat) (σ : mmSt) (x0 x1 : Int) : srun (lyT Ln) ((d + 1), 125, 0, [mR 4, mI x0, mI x1], [], σ) =
 (Option.bind (srun (lyT Ln) (d, 18, 0, [mR 48, mI x0], [], σ)) (fun y1 =>
 (bif decide (y1.2 = 0) then
  some (y1.1, (-1000001))
 else
  (Option.bind (srun (lyT Ln) (d, 16, 0, [mR 48, mI x1], [], y1.1)) (fun y2 =>
  (bif decide (¬ y2.2 = 0) then
   (Option.bind (srun (lyT Ln) (d, 82, 0, [mR 47, mI x0, mI x1, mJ], [], y2.1)) (fun y3 =>
   some (y3.1, y3.2)))
  else
   some (y2.1, (-1000001)))))))) := by
  exact (srun_unr _ [] 16 _).trans rfl
/-! GridQuarrels.meet(II)I: method 126; stops [] -/
theorem b_X_meet (Ln d : Nat) (σ : mmSt) (x0 x1 : Int) : srun (lyT Ln) ((d + 1), 126, 0, [mR 4, mI x0, mI x1], [], σ) =
 (Option.bind (srun (lyT Ln) (d, 18, 0, [mR 48, mI x0], [], σ)) (fun y1 =>
 (bif decide (y1.2 = 0) then
  some (y1.1, (-1000001))
 else
  (Option.bind (srun (lyT Ln) (d, 18, 0, [mR 48, mI x1], [], y1.1)) (fun y2 =>
  (bif decide (y2.2 = 0) then
   some (y2.1, (-1000001))
  else
   (bif decide (¬ x0 = x1) then
    (Option.bind (srun (lyT Ln) (d, 83, 0, [mR 47, mI x0, mI x1, mJ], [], y2.1)) (fun y3 =>
    some (y3.1, y3.2)))
   else
    some (y2.1, (-1000001))))))))) := by
  exact (srun_unr _ [] 19 _).trans rfl
/-! GridQuarrels.grazed(I)I: method 127; stops [] -/
theorem b_X_grazed (Ln d : Nat) (σ : mmSt) (x0 : Int) : srun (lyT Ln) ((d + 1), 127, 0, [mR 4, mI x0], [], σ) =
 (Option.bind (srun (lyT Ln) (d, 15, 0, [mR 48], [], σ)) (fun y1 =>
 (bif decide (¬ y1.2 = 0) then
  (Option.bind (srun (lyT Ln) (d, 150, 0, [mI x0, mI 1, mI 60], [], y1.1)) (fun y2 =>
  (bif decide (¬ y2.2 = 0) then
   (Option.bind (srun (lyT Ln) (d, 80, 0, [mR 47, mI x0], [], y2.1)) (fun y3 =>
   some (y3.1, (y3.1 58 12))))
  else
   some (y2.1, (-1000001)))))
 else
  some (y1.1, (-1000002))))) := by
  exact (srun_unr _ [] 18 _).trans rfl
/-! GridQuarrels.shuts(III)I: method 128; stops [] -/
theorem b_X_shuts (Ln d : Nat) (σ : mmSt) (x0 x1 x2 : Int) : srun (lyT Ln) ((d + 1), 128, 0, [mR 4, mI x0, mI x1, mI x2], [], σ) =
 (Option.bind (srun (lyT Ln) (d, 16, 0, [mR 48, mI x0], [], σ)) (fun y1 =>
 (bif decide (y1.2 = 0) then
  some (y1.1, (-1000001))
 else
  (Option.bind (srun (lyT Ln) (d, 150, 0, [mI x1, mI 1, mI 30], [], y1.1)) (fun y2 =>
  (bif decide (y2.2 = 0) then
   some (y2.1, (-1000001))
  else
   (Option.bind (srun (lyT Ln) (d, 150, 0, [mI x2, mI 0, mI 1], [], y2.1)) (fun y3 =>
   (bif decide (¬ y3.2 = 0) then
    (Option.bind (srun (lyT Ln) (d, 84, 0, [mR 47, mI x0, mI x1, mJ, mJ, mJ], [], y3.1)) (fun y4 =>
    (Option.bind (srun (lyT Ln) (d, 152, 0, [mI y4.2, mI x2], [], y4.1)) (fun y5 =>
    some (y5.1, y5.2)))))
   else
    some (y3.1, (-1000001))))))))))) := by
  exact (srun_unr _ [] 23 _).trans rfl
/-! GridQuarrels.lures(IIII)I: method 129; stops [] -/
theorem b_X_lures (Ln d : Nat) (σ : mmSt) (x0 x1 x2 x3 : Int) : srun (lyT Ln) ((d + 1), 129, 0, [mR 4, mI x0, mI x1, mI x2, mI x3], [], σ) =
 (Option.bind (srun (lyT Ln) (d, 18, 0, [mR 48, mI x0], [], σ)) (fun y1 =>
 (bif decide (y1.2 = 0) then
  some (y1.1, (-1000001))
 else
  (Option.bind (srun (lyT Ln) (d, 16, 0, [mR 48, mI x1], [], y1.1)) (fun y2 =>
  (bif decide (¬ y2.2 = 0) then
   (Option.bind (srun (lyT Ln) (d, 150, 0, [mI x2, mI 1, mI 30], [], y2.1)) (fun y3 =>
   (bif decide (y3.2 = 0) then
    some (y3.1, (-1000001))
   else
    (Option.bind (srun (lyT Ln) (d, 150, 0, [mI x3, mI 0, mI 1], [], y3.1)) (fun y4 =>
    (bif decide (¬ y4.2 = 0) then
     (Option.bind (srun (lyT Ln) (d, 88, 0, [mR 47, mI x0, mI x1, mI x2, mJ, mJ, mJ], [], y4.1)) (fun y5 =>
     (Option.bind (srun (lyT Ln) (d, 152, 0, [mI y5.2, mI x3], [], y5.1)) (fun y6 =>
     some (y6.1, y6.2)))))
    else
     some (y4.1, (-1000001))))))))
  else
   some (y2.1, (-1000001)))))))) := by
  exact (srun_unr _ [] 29 _).trans rfl
/-! GridQuarrels.starve(II)I: method 130; stops [] -/
theorem b_X_starve (Ln d : Nat) (σ : mmSt) (x0 x1 : Int) : srun (lyT Ln) ((d + 1), 130, 0, [mR 4, mI x0, mI x1, mJ], [], σ) =
 (Option.bind (srun (lyT Ln) (d, 18, 0, [mR 48, mI x0], [], σ)) (fun y1 =>
 (bif decide (y1.2 = 0) then
  some (y1.1, (-1000001))
 else
  (Option.bind (srun (lyT Ln) (d, 150, 0, [mI x1, mI 0, mI 1], [], y1.1)) (fun y2 =>
  (bif decide (¬ y2.2 = 0) then
   (Option.bind (srun (lyT Ln) (d, 90, 0, [mR 47, mI x0, mJ, mJ, mJ, mJ], [], y2.1)) (fun y3 =>
   (bif decide (x1 = 0) then
    some (y3.1, y3.2)
   else
    (bif decide (¬ y3.2 = (-1000000)) then
     (Option.bind (srun (lyT Ln) (d, 91, 0, [mR 47, mI x0, mI y3.2], [], y3.1)) (fun y4 =>
     some (y4.1, y4.2)))
    else
     some (y3.1, y3.2)))))
  else
   some (y2.1, (-1000001)))))))) := by
  exact (srun_unr _ [] 26 _).trans rfl
/-! GridQuarrels.way(II)I: method 131; stops [] -/
theorem b_X_way (Ln d : Nat) (σ : mmSt) (x0 x1 : Int) : srun (lyT Ln) ((d + 1), 131, 0, [mR 4, mI x0, mI x1], [], σ) =
 (Option.bind (srun (lyT Ln) (d, 18, 0, [mR 48, mI x0], [], σ)) (fun y1 =>
 (bif decide (y1.2 = 0) then
  some (y1.1, (-1000001))
 else
  (Option.bind (srun (lyT Ln) (d, 16, 0, [mR 48, mI x1], [], y1.1)) (fun y2 =>
  (bif decide (¬ y2.2 = 0) then
   (Option.bind (srun (lyT Ln) (d, 19, 0, [mR 48, mI x0], [], y2.1)) (fun y3 =>
   (bif decide (y3.2 = 0) then
    (Option.bind (srun (lyT Ln) (d, 45, 0, [mR 48, mI x0, mI x1, mJ, mJ], [], y3.1)) (fun y4 =>
    some (y4.1, y4.2)))
   else
    some (y3.1, (-1000002)))))
  else
   some (y2.1, (-1000001)))))))) := by
  exact (srun_unr _ [] 21 _).trans rfl
/-! GridQuarrels.reach(I)I: method 132; stops [] -/
theorem b_X_reach (Ln d : Nat) (σ : mmSt) (x0 : Int) : srun (lyT Ln) ((d + 1), 132, 0, [mR 4, mI x0], [], σ) =
 (Option.bind (srun (lyT Ln) (d, 18, 0, [mR 48, mI x0], [], σ)) (fun y1 =>
 (bif decide (¬ y1.2 = 0) then
  (Option.bind (srun (lyT Ln) (d, 19, 0, [mR 48, mI x0], [], y1.1)) (fun y2 =>
  (bif decide (y2.2 = 0) then
   (Option.bind (srun (lyT Ln) (d, 46, 0, [mR 48, mI x0, mJ, mJ], [], y2.1)) (fun y3 =>
   some (y3.1, y3.2)))
  else
   some (y2.1, (-1000002)))))
 else
  some (y1.1, (-1000001))))) := by
  exact (srun_unr _ [] 15 _).trans rfl
/-! GridQuarrels.home()I: method 133; stops [] -/
theorem b_X_home (Ln d : Nat) (σ : mmSt) : srun (lyT Ln) ((d + 1), 133, 0, [mR 4], [], σ) =
 (Option.bind (srun (lyT Ln) (d, 15, 0, [mR 48], [], σ)) (fun y1 =>
 (bif decide (¬ y1.2 = 0) then
  (Option.bind (srun (lyT Ln) (d, 40, 0, [mR 48, mJ, mJ], [], y1.1)) (fun y2 =>
  some (y2.1, y2.2)))
 else
  some (y1.1, (-1000002))))) := by
  exact (srun_unr _ [] 8 _).trans rfl
/-! GridQuarrels.fed(II)I: method 134; stops [] -/
theorem b_X_fed (Ln d : Nat) (σ : mmSt) (x0 x1 : Int) : srun (lyT Ln) ((d + 1), 134, 0, [mR 4, mI x0, mI x1, mJ], [], σ) =
 (Option.bind (srun (lyT Ln) (d, 15, 0, [mR 48], [], σ)) (fun y1 =>
 (bif decide (¬ y1.2 = 0) then
  (Option.bind (srun (lyT Ln) (d, 150, 0, [mI x0, mI 1, mI 60], [], y1.1)) (fun y2 =>
  (bif decide (y2.2 = 0) then
   some (y2.1, (-1000001))
  else
   (Option.bind (srun (lyT Ln) (d, 150, 0, [mI x1, mI 0, mI 1], [], y2.1)) (fun y3 =>
   (bif decide (¬ y3.2 = 0) then
    (Option.bind (srun (lyT Ln) (d, 80, 0, [mR 47, mI x0], [], y3.1)) (fun y4 =>
    (Option.bind (srun (lyT Ln) (d, 43, 0, [mR 58, mJ, mJ], [], y4.1)) (fun y5 =>
    (bif decide (¬ x1 = 0) then
     (bif minb y5.2 5 then
     some (y5.1, (y5.1 67 (Int.toNat y5.2)))
     else none)
    else
     some (y5.1, y5.2))))))
   else
    some (y3.1, (-1000001))))))))
 else
  some (y1.1, (-1000002))))) := by
  exact (srun_unr _ [] 32 _).trans rfl
/-! GridQuarrels.who(IIIII)I: method 135; stops [] -/
set_option maxRecDepth 100000 in
theorem b_X_who (Ln d : Nat) (σ : mmSt) (x0 x1 x2 x3 x4 : Int) : srun (lyT Ln) ((d + 1), 135, 0, [mR 4, mI x0, mI x1, mI x2, mI x3, mI x4, mJ], [], σ) =
 (Option.bind (srun (lyT Ln) (d, 18, 0, [mR 48, mI x0], [], σ)) (fun y1 =>
 (bif decide (y1.2 = 0) then
  some (y1.1, (-1000001))
 else
  (Option.bind (srun (lyT Ln) (d, 150, 0, [mI x1, mI 0, mI 2], [], y1.1)) (fun y2 =>
  (bif decide (¬ y2.2 = 0) then
   (Option.bind (srun (lyT Ln) (d, 65, 0, [mR 5, mI x2], [], y2.1)) (fun y3 =>
   (bif decide (y3.2 = 0) then
    some (y3.1, (-1000001))
   else
    (Option.bind (srun (lyT Ln) (d, 150, 0, [mI x4, mI 1, mI 12], [], y3.1)) (fun y4 =>
    (bif decide (¬ y4.2 = 0) then
     (Option.bind (srun (lyT Ln) (d, 19, 0, [mR 48, mI x0], [], y4.1)) (fun y5 =>
     (bif decide (y5.2 = 0) then
      (Option.bind (srun (lyT Ln) (d, 68, 0, [mR 5, mI x2, mI x3, mI x4], [], y5.1)) (fun y6 =>
      (bif decide (y6.2 = 0) then
       (Option.bind (srun (lyT Ln) (d, 76, 0, [mR 5, mI x2, mI x3, mI x4, mR 68, mJ], [], y6.1)) (fun y7 =>
       (bif decide (x1 = 0) then
       (Option.bind (srun (lyT Ln) (d, 93, 0, [mR 47, mI x0, mI x4, mJ, mJ], [], y7.1)) (fun y12 =>
        (Option.bind (srun (lyT Ln) (d, 149, 0, [mR 4, mI y12.2], [], y12.1)) (fun y13 =>
        some (y13.1, y13.2)))))
       else
       (bif decide (x1 = 1) then
       (Option.bind (srun (lyT Ln) (d, 94, 0, [mR 47, mI x0, mI x4, mJ, mJ], [], y7.1)) (fun y10 =>
        (Option.bind (srun (lyT Ln) (d, 149, 0, [mR 4, mI y10.2], [], y10.1)) (fun y11 =>
        some (y11.1, y11.2)))))
       else
       (Option.bind (srun (lyT Ln) (d, 95, 0, [mR 47, mI x0, mI x4, mJ, mJ], [], y7.1)) (fun y8 =>
       (Option.bind (srun (lyT Ln) (d, 149, 0, [mR 4, mI y8.2], [], y8.1)) (fun y9 =>
       some (y9.1, y9.2)))))))))
      else
       (Option.bind (srun (lyT Ln) (d, 148, 0, [mR 4, mI y6.2], [], y6.1)) (fun y14 =>
       some (y14.1, y14.2))))))
     else
      some (y5.1, (-1000002)))))
    else
     some (y4.1, (-1000001))))))))
  else
   some (y2.1, (-1000001)))))))) := by
  exact (srun_unr _ [] 53 _).trans rfl
/-! GridQuarrels.grids(IIIII)I: method 136; stops [] -/
set_option maxRecDepth 100000 in
theorem b_X_grids (Ln d : Nat) (σ : mmSt) (x0 x1 x2 x3 x4 : Int) : srun (lyT Ln) ((d + 1), 136, 0, [mR 4, mI x0, mI x1, mI x2, mI x3, mI x4, mJ], [], σ) =
 (Option.bind (srun (lyT Ln) (d, 17, 0, [mR 48, mI x0], [], σ)) (fun y1 =>
 (bif decide (y1.2 = 0) then
  some (y1.1, (-1000001))
 else
  (Option.bind (srun (lyT Ln) (d, 18, 0, [mR 48, mI x1], [], y1.1)) (fun y2 =>
  (bif decide (¬ y2.2 = 0) then
   (Option.bind (srun (lyT Ln) (d, 65, 0, [mR 5, mI x2], [], y2.1)) (fun y3 =>
   (bif decide (y3.2 = 0) then
    some (y3.1, (-1000001))
   else
    (Option.bind (srun (lyT Ln) (d, 150, 0, [mI x4, mI 1, mI 12], [], y3.1)) (fun y4 =>
    (bif decide (¬ y4.2 = 0) then
     (Option.bind (srun (lyT Ln) (d, 68, 0, [mR 5, mI x2, mI x3, mI x4], [], y4.1)) (fun y5 =>
     (bif decide (y5.2 = 0) then
      (Option.bind (srun (lyT Ln) (d, 76, 0, [mR 5, mI x2, mI x3, mI x4, mR 68, mJ], [], y5.1)) (fun y6 =>
      (Option.bind (srun (lyT Ln) (d, 96, 0, [mR 47, mI x0, mI x1, mI x4, mJ, mJ], [], y6.1)) (fun y7 =>
      (Option.bind (srun (lyT Ln) (d, 149, 0, [mR 4, mI y7.2], [], y7.1)) (fun y8 =>
      some (y8.1, y8.2)))))))
     else
      (Option.bind (srun (lyT Ln) (d, 148, 0, [mR 4, mI y5.2], [], y5.1)) (fun y9 =>
      some (y9.1, y9.2))))))
    else
     some (y4.1, (-1000001))))))))
  else
   some (y2.1, (-1000001)))))))) := by
  exact (srun_unr _ [] 47 _).trans rfl
/-! GridQuarrels.which(III)I: method 137; stops [] -/
theorem b_X_which (Ln d : Nat) (σ : mmSt) (x0 x1 x2 : Int) : srun (lyT Ln) ((d + 1), 137, 0, [mR 4, mI x0, mI x1, mI x2, mJ], [], σ) =
 (Option.bind (srun (lyT Ln) (d, 15, 0, [mR 48], [], σ)) (fun y1 =>
 (bif decide (¬ y1.2 = 0) then
  (Option.bind (srun (lyT Ln) (d, 65, 0, [mR 5, mI x0], [], y1.1)) (fun y2 =>
  (bif decide (y2.2 = 0) then
   some (y2.1, (-1000001))
  else
   (Option.bind (srun (lyT Ln) (d, 150, 0, [mI x2, mI 1, mI 12], [], y2.1)) (fun y3 =>
   (bif decide (¬ y3.2 = 0) then
    (Option.bind (srun (lyT Ln) (d, 68, 0, [mR 5, mI x0, mI x1, mI x2], [], y3.1)) (fun y4 =>
    (bif decide (y4.2 = 0) then
     (Option.bind (srun (lyT Ln) (d, 76, 0, [mR 5, mI x0, mI x1, mI x2, mR 68, mJ], [], y4.1)) (fun y5 =>
     (Option.bind (srun (lyT Ln) (d, 97, 0, [mR 47, mI x2, mJ, mJ], [], y5.1)) (fun y6 =>
     (Option.bind (srun (lyT Ln) (d, 149, 0, [mR 4, mI y6.2], [], y6.1)) (fun y7 =>
     some (y7.1, y7.2)))))))
    else
     (Option.bind (srun (lyT Ln) (d, 148, 0, [mR 4, mI y4.2], [], y4.1)) (fun y8 =>
     some (y8.1, y8.2))))))
   else
    some (y3.1, (-1000001))))))))
 else
  some (y1.1, (-1000002))))) := by
  exact (srun_unr _ [] 39 _).trans rfl
/-! GridQuarrels.snow(IIIII)J: method 138; stops [] -/
set_option maxRecDepth 100000 in
theorem b_X_snow (Ln d : Nat) (σ : mmSt) (x0 x1 x2 x3 x4 : Int) : srun (lyT Ln) ((d + 1), 138, 0, [mR 4, mI x0, mI x1, mI x2, mI x3, mI x4, mJ, mJ, mJ, mJ, mJ, mJ], [], σ) =
 (Option.bind (srun (lyT Ln) (d, 18, 0, [mR 48, mI x0], [], σ)) (fun y1 =>
 (bif decide (y1.2 = 0) then
  some (y1.1, (-1000001))
 else
  (Option.bind (srun (lyT Ln) (d, 16, 0, [mR 48, mI x1], [], y1.1)) (fun y2 =>
  (bif decide (¬ y2.2 = 0) then
   (Option.bind (srun (lyT Ln) (d, 150, 0, [mI x2, mI 0, mI 30], [], y2.1)) (fun y3 =>
   (bif decide (y3.2 = 0) then
    some (y3.1, (-1000001))
   else
    (Option.bind (srun (lyT Ln) (d, 150, 0, [mI x3, mI 0, mI 10], [], y3.1)) (fun y4 =>
    (bif decide (y4.2 = 0) then
     some (y4.1, (-1000001))
    else
     (Option.bind (srun (lyT Ln) (d, 150, 0, [mI x4, mI 0, mI 1], [], y4.1)) (fun y5 =>
     (bif decide (¬ y5.2 = 0) then
      (Option.bind (srun (lyT Ln) (d, 100, 0, [mR 47, mI x0, mI x1, mI x2, mI x3, mJ, mJ, mJ, mJ, mJ, mJ], [], y5.1)) (fun y6 =>
      (Option.bind (srun (lyT Ln) (d, 99, 0, [mR 47], [], y6.1)) (fun y7 =>
      (Option.bind (srun (lyT Ln) (d, 154, 0, [mL y6.2, mJ, mL y7.2, mJ, mJ, mJ, mJ, mJ, mJ, mJ, mJ], [], y7.1)) (fun y8 =>
      (bif decide (¬ (mlcmp y8.2 0) = 0) then
       (bif decide (¬ x4 = 0) then
        (bif decide (¬ y8.2 = 0) then
        some (y8.1, (mwrapL (Int.tdiv y7.2 y8.2)))
        else none)
       else
        (bif decide (¬ y8.2 = 0) then
        some (y8.1, (mwrapL (Int.tdiv y6.2 y8.2)))
        else none))
      else
       some (y8.1, (-1000001)))))))))
     else
      some (y5.1, (-1000001)))))))))))
  else
   some (y2.1, (-1000001)))))))) := by
  exact (srun_unr _ [] 52 _).trans rfl
/-! GridQuarrels.drawn(III)I: method 139; stops [] -/
theorem b_X_drawn (Ln d : Nat) (σ : mmSt) (x0 x1 x2 : Int) : srun (lyT Ln) ((d + 1), 139, 0, [mR 4, mI x0, mI x1, mI x2], [], σ) =
 (Option.bind (srun (lyT Ln) (d, 15, 0, [mR 48], [], σ)) (fun y1 =>
 (bif decide (¬ y1.2 = 0) then
  (Option.bind (srun (lyT Ln) (d, 150, 0, [mI x0, mI 0, mI 60], [], y1.1)) (fun y2 =>
  (bif decide (y2.2 = 0) then
   some (y2.1, (-1000001))
  else
   (Option.bind (srun (lyT Ln) (d, 150, 0, [mI x1, mI 1, mI 999999], [], y2.1)) (fun y3 =>
   (bif decide (y3.2 = 0) then
    some (y3.1, (-1000001))
   else
    (Option.bind (srun (lyT Ln) (d, 150, 0, [mI x2, mI 0, mI 1], [], y3.1)) (fun y4 =>
    (bif decide (¬ y4.2 = 0) then
     (Option.bind (srun (lyT Ln) (d, 104, 0, [mR 47, mI x0, mI x1, mJ, mJ, mJ], [], y4.1)) (fun y5 =>
     (bif decide (¬ x2 = 0) then
      some (y5.1, (y5.1 58 13))
     else
      (Option.bind (srun (lyT Ln) (d, 37, 0, [mR 58, mJ, mJ], [], y5.1)) (fun y6 =>
      some (y6.1, y6.2))))))
    else
     some (y4.1, (-1000001)))))))))))
 else
  some (y1.1, (-1000002))))) := by
  exact (srun_unr _ [] 32 _).trans rfl
/-! GridQuarrels.image(I)I: method 140; stops [16, 17] -/
theorem b_X_image (Ln d : Nat) (σ : mmSt) (x0 : Int) : srun (lyT Ln) ((d + 1), 140, 0, [mR 4, mI x0], [], σ) =
 (Option.bind (srun (lyT Ln) (d, 150, 0, [mI x0, mI 0, mI 1], [], σ)) (fun y1 =>
 (bif decide (¬ y1.2 = 0) then
  (Option.bind (srun (lyT Ln) (d, 15, 0, [mR 48], [], y1.1)) (fun y2 =>
  (bif decide (¬ y2.2 = 0) then
   srun (lyT Ln) ((d + 1), 140, 16, [mR 4, mI x0], [mI x0, mR 71], y2.1)
  else
   some (y2.1, (-1000002)))))
 else
  some (y1.1, (-1000001))))) := by
  exact (srun_unr _ [16, 17] 12 _).trans rfl
theorem b_X_image_17 (Ln d : Nat) (σ : mmSt) (z1 : Int) (b : Nat) (hb : b = 72 ∨ b = 82) : srun (lyT Ln) ((d + 1), 140, 17, [mR 4, mI z1], [mR b], σ) =
 (Option.bind (srun (lyT Ln) (d, 24, 0, [mR b, mR 48, mJ], [], σ)) (fun y1 =>
 some (y1.1, 1))) := by
  rcases hb with rfl | rfl <;> exact (srun_unr _ [16, 17] 5 _).trans rfl
/-! GridQuarrels.restore(I)I: method 141; stops [10, 11, 20, 21] -/
theorem b_X_restore (Ln d : Nat) (σ : mmSt) (x0 : Int) : srun (lyT Ln) ((d + 1), 141, 0, [mR 4, mI x0], [], σ) =
 (Option.bind (srun (lyT Ln) (d, 150, 0, [mI x0, mI 0, mI 1], [], σ)) (fun y1 =>
 (bif decide (¬ y1.2 = 0) then
  srun (lyT Ln) ((d + 1), 141, 10, [mR 4, mI x0], [mI x0, mR 71], y1.1)
 else
  some (y1.1, (-1000001))))) := by
  exact (srun_unr _ [10, 11, 20, 21] 8 _).trans rfl
theorem b_X_restore_11 (Ln d : Nat) (σ : mmSt) (z1 : Int) (b : Nat) (hb : b = 72 ∨ b = 82) : srun (lyT Ln) ((d + 1), 141, 11, [mR 4, mI z1], [mR b], σ) =
 (Option.bind (srun (lyT Ln) (d, 15, 0, [mR b], [], σ)) (fun y1 =>
 (bif decide (¬ y1.2 = 0) then
  srun (lyT Ln) ((d + 1), 141, 20, [mR 4, mI z1], [mI z1, mR 71, mR 48], y1.1)
 else
  some (y1.1, (-1000002))))) := by
  rcases hb with rfl | rfl <;> exact (srun_unr _ [10, 11, 20, 21] 7 _).trans rfl
theorem b_X_restore_21 (Ln d : Nat) (σ : mmSt) (z1 : Int) (b : Nat) (hb : b = 72 ∨ b = 82) : srun (lyT Ln) ((d + 1), 141, 21, [mR 4, mI z1], [mR b, mR 48], σ) =
 (Option.bind (srun (lyT Ln) (d, 24, 0, [mR 48, mR b, mJ], [], σ)) (fun y1 =>
 (Option.bind (srun (lyT Ln) (d, 4, 0, [mR 21], [], y1.1)) (fun y2 =>
 some (y2.1, 1))))) := by
  rcases hb with rfl | rfl <;> exact (srun_unr _ [10, 11, 20, 21] 6 _).trans rfl
/-! GridQuarrels.kind(I)I: method 142; stops [] -/
theorem b_X_kind (Ln d : Nat) (σ : mmSt) (x0 : Int) : srun (lyT Ln) ((d + 1), 142, 0, [mR 4, mI x0], [], σ) =
 (Option.bind (srun (lyT Ln) (d, 18, 0, [mR 48, mI x0], [], σ)) (fun y1 =>
 (bif decide (y1.2 = 0) then
  some (y1.1, (-1000001))
 else
  (bif minb x0 5 then
  some (y1.1, (y1.1 53 (Int.toNat x0)))
  else none)))) := by
  exact (srun_unr _ [] 12 _).trans rfl
/-! GridQuarrels.as(II)I: method 143; stops [] -/
theorem b_X_as (Ln d : Nat) (σ : mmSt) (x0 x1 : Int) : srun (lyT Ln) ((d + 1), 143, 0, [mR 4, mI x0, mI x1], [], σ) =
 (Option.bind (srun (lyT Ln) (d, 18, 0, [mR 48, mI x0], [], σ)) (fun y1 =>
 (bif decide (y1.2 = 0) then
  some (y1.1, (-1000001))
 else
  (Option.bind (srun (lyT Ln) (d, 150, 0, [mI x1, mI 0, mI 5], [], y1.1)) (fun y2 =>
  (bif decide (¬ y2.2 = 0) then
   (bif minb x0 5 then
   (Option.bind (srun (lyT Ln) (d, 153, 0, [mI (y2.1 53 (Int.toNat x0)), mI x1, mJ, mJ], [], y2.1)) (fun y3 =>
   (bif decide (y3.2 = 0) then
    (Option.bind (srun (lyT Ln) (d, 148, 0, [mR 4, mI 3], [], y3.1)) (fun y4 =>
    some (y4.1, y4.2)))
   else
    (Option.bind (srun (lyT Ln) (d, 149, 0, [mR 4, mI x0], [], y3.1)) (fun y5 =>
    some (y5.1, y5.2))))))
   else none)
  else
   some (y2.1, (-1000001)))))))) := by
  exact (srun_unr _ [] 23 _).trans rfl
/-! GridQuarrels.ask(II)I: method 144; stops [] -/
theorem b_X_ask (Ln d : Nat) (σ : mmSt) (x0 x1 : Int) : srun (lyT Ln) ((d + 1), 144, 0, [mR 4, mI x0, mI x1], [], σ) =
 (Option.bind (srun (lyT Ln) (d, 18, 0, [mR 48, mI x0], [], σ)) (fun y1 =>
 (bif decide (y1.2 = 0) then
  some (y1.1, (-1000001))
 else
  (Option.bind (srun (lyT Ln) (d, 150, 0, [mI x1, mI 0, mI 1], [], y1.1)) (fun y2 =>
  (bif decide (¬ y2.2 = 0) then
   (Option.bind (srun (lyT Ln) (d, 8, 0, [mR 69, mR 48, mI x0, mI x1], [], y2.1)) (fun y3 =>
   some (y3.1, y3.2)))
  else
   some (y2.1, (-1000001)))))))) := by
  exact (srun_unr _ [] 18 _).trans rfl
/-! GridQuarrels.trace(I)I: method 145; stops [] -/
theorem b_X_trace (Ln d : Nat) (σ : mmSt) (x0 : Int) : srun (lyT Ln) ((d + 1), 145, 0, [mR 4, mI x0], [], σ) =
 (Option.bind (srun (lyT Ln) (d, 9, 0, [mR 69, mI x0], [], σ)) (fun y1 =>
 some (y1.1, y1.2))) := by
  exact (srun_unr _ [] 5 _).trans rfl
/-! GridQuarrels.count(I)I: method 146; stops [] -/
theorem b_X_count (Ln d : Nat) (σ : mmSt) (x0 : Int) : srun (lyT Ln) ((d + 1), 146, 0, [mR 4, mI x0], [], σ) =
 (bif decide (x0 = 0) then
 (Option.bind (srun (lyT Ln) (d, 67, 0, [mR 5, mJ, mJ], [], σ)) (fun y2 =>
  some (y2.1, y2.2)))
 else
 (bif decide (x0 = 1) then
 some (σ, (σ 48 0))
 else
 (bif decide (x0 = 2) then
 some (σ, (σ 48 1))
 else
 (bif decide (x0 = 3) then
 some (σ, (σ 48 2))
 else
 (bif decide (x0 = 4) then
 some (σ, (σ 48 3))
 else
 (bif decide (x0 = 5) then
 (Option.bind (srun (lyT Ln) (d, 36, 0, [mR 48, mJ, mJ], [], σ)) (fun y1 =>
  some (y1.1, y1.2)))
 else
 (bif decide (x0 = 6) then
 some (σ, (σ 21 0))
 else
 (bif decide (x0 = 7) then
 some (σ, (σ 9 1))
 else
 some (σ, (-1000001)))))))))) := by
  exact (srun_unr _ [] 6 _).trans rfl
/-! GridQuarrels.status()I: method 147; stops [] -/
theorem b_X_status (Ln d : Nat) (σ : mmSt) : srun (lyT Ln) ((d + 1), 147, 0, [mR 4], [], σ) =
 some (σ, (σ 4 7)) := by
  exact (srun_unr _ [] 3 _).trans rfl
/-! GridQuarrels.found(I)I: method 148; stops [] -/
theorem b_X_found (Ln d : Nat) (σ : mmSt) (x0 : Int) : srun (lyT Ln) ((d + 1), 148, 0, [mR 4, mI x0], [], σ) =
 some ((mup σ 4 7 x0), (mwrap ((-1000010) - x0))) := by
  exact (srun_unr _ [] 7 _).trans rfl
/-! GridQuarrels.fine(I)I: method 149; stops [] -/
theorem b_X_fine (Ln d : Nat) (σ : mmSt) (x0 : Int) : srun (lyT Ln) ((d + 1), 149, 0, [mR 4, mI x0], [], σ) =
 some ((mup σ 4 7 0), x0) := by
  exact (srun_unr _ [] 5 _).trans rfl
/-! GridQuarrels.within(III)Z: method 150; stops [] -/
theorem b_X_within (Ln d : Nat) (σ : mmSt) (x0 x1 x2 : Int) : srun (lyT Ln) ((d + 1), 150, 0, [mI x0, mI x1, mI x2], [], σ) =
 (bif decide (x0 < x1) then
  some (σ, 0)
 else
  (bif decide (x2 < x0) then
   some (σ, 0)
  else
   some (σ, 1))) := by
  exact (srun_unr _ [] 9 _).trans rfl
/-! GridQuarrels.has(II)Z: method 151; stops [] -/
theorem b_X_has (Ln d : Nat) (σ : mmSt) (x0 x1 : Int) : srun (lyT Ln) ((d + 1), 151, 0, [mI x0, mI x1], [], σ) =
 (bif decide (¬ (mand (mshr x0 x1) 1) = 1) then
  some (σ, 0)
 else
  some (σ, 1)) := by
  exact (srun_unr _ [] 10 _).trans rfl
/-! GridQuarrels.countOrBits(II)I: method 152; stops [] -/
theorem b_X_countOrBits (Ln d : Nat) (σ : mmSt) (x0 x1 : Int) : srun (lyT Ln) ((d + 1), 152, 0, [mI x0, mI x1], [], σ) =
 (bif decide (¬ x1 = 0) then
  some (σ, x0)
 else
  (bif decide (x0 = (-1000000)) then
   some (σ, x0)
  else
   (Option.bind (srun (lyT Ln) (d, 0, 0, [mI x0], [], σ)) (fun y1 =>
   some (y1.1, y1.2))))) := by
  exact (srun_unr _ [] 9 _).trans rfl
/-! GridQuarrels.isOneOf(II)Z: method 153; stops [4] -/
theorem b_X_isOneOf (Ln d : Nat) (σ : mmSt) (x0 x1 : Int) : srun (lyT Ln) ((d + 1), 153, 0, [mI x0, mI x1, mJ, mJ], [], σ) =
 srun (lyT Ln) ((d + 1), 153, 4, [mI x0, mI x1, mI x0, mI 0], [], σ) := by
  exact (srun_unr _ [4] 4 _).trans rfl
theorem b_X_isOneOf_4 (Ln d : Nat) (σ : mmSt) (z0 z1 z2 z3 : Int) : srun (lyT Ln) ((d + 1), 153, 4, [mI z0, mI z1, mI z2, mI z3], [], σ) =
 (bif decide (5 ≤ z3) then
  (bif decide (¬ z2 = z1) then
   some (σ, 0)
  else
   some (σ, 1))
 else
  (bif decide (z2 = z1) then
   (bif decide (¬ z2 = z1) then
    some (σ, 0)
   else
    some (σ, 1))
  else
   (bif minb z2 6 then
   srun (lyT Ln) ((d + 1), 153, 4, [mI z0, mI z1, mI (σ 1 (Int.toNat z2)), mI (mwrap (z3 + 1))], [], σ)
   else none))) := by
  exact (srun_unr _ [4] 12 _).trans rfl
/-! GridQuarrels.commonDivisor(JJ)J: method 154; stops [6] -/
theorem b_X_commonDivisor (Ln d : Nat) (σ : mmSt) (x0 x1 : Int) : srun (lyT Ln) ((d + 1), 154, 0, [mL x0, mJ, mL x1, mJ, mJ, mJ, mJ, mJ, mJ, mJ, mJ], [], σ) =
 srun (lyT Ln) ((d + 1), 154, 6, [mL x0, mJ, mL x1, mJ, mL x0, mJ, mL x1, mJ, mI 0, mJ, mJ], [], σ) := by
  exact (srun_unr _ [6] 6 _).trans rfl
theorem b_X_commonDivisor_6 (Ln d : Nat) (σ : mmSt) (z0 z2 z4 z6 z8 : Int) (v9 : mmV) : srun (lyT Ln) ((d + 1), 154, 6, [mL z0, mJ, mL z2, mJ, mL z4, mJ, mL z6, mJ, mI z8, v9, mJ], [], σ) =
 (bif decide (200 ≤ z8) then
  some (σ, z4)
 else
  (bif decide ((mlcmp z6 0) = 0) then
   some (σ, z4)
  else
   (bif decide (¬ z6 = 0) then
   srun (lyT Ln) ((d + 1), 154, 6, [mL z0, mJ, mL z2, mJ, mL z6, mJ, mL (Int.tmod z4 z6), mJ, mI (mwrap (z8 + 1)), mL (Int.tmod z4 z6), mJ], [], σ)
   else none))) := by
  exact (srun_unr _ [6] 17 _).trans rfl
end
section
/-! GridQuarrelsModel.in(JJJ)Z: method 156; stops [] -/
theorem b_M_in (Ln d : Nat) (σ : mmSt) (x0 x1 x2 : Int) : srun (lyT Ln) ((d + 1), 156, 0, [mL x0, mJ, mL x1, mJ, mL x2, mJ], [], σ) =
 (bif decide ((mlcmp x0 x1) < 0) then
  some (σ, 0)
 else
  (bif decide (0 < (mlcmp x0 x2)) then
   some (σ, 0)
  else
   some (σ, 1))) := by
  exact (srun_unr _ [] 11 _).trans rfl
/-! GridQuarrelsModel.finding(I)I: method 157; stops [] -/
theorem b_M_finding (Ln d : Nat) (σ : mmSt) (x0 : Int) : srun (lyT Ln) ((d + 1), 157, 0, [mR 92, mI x0], [], σ) =
 some ((mup σ 92 1 x0), (mwrap ((-1000010) - x0))) := by
  exact (srun_unr _ [] 7 _).trans rfl
/-! GridQuarrelsModel.isRow(I)Z: method 158; stops [] -/
theorem b_M_isRow (Ln d : Nat) (σ : mmSt) (x0 : Int) : srun (lyT Ln) ((d + 1), 158, 0, [mI x0], [], σ) =
 (Option.bind (srun (lyT Ln) (d, 156, 0, [mL x0, mJ, mL 0, mJ, mL 7, mJ], [], σ)) (fun y1 =>
 (bif decide (0 ≤ y1.2) && decide (y1.2 ≤ 1) then some (y1.1, y1.2) else none))) := by
  exact (srun_unr _ [] 6 _).trans rfl
/-! GridQuarrelsModel.row(III)I: method 159; stops [38] -/
theorem b_M_row (Ln d : Nat) (σ : mmSt) (x0 x1 x2 : Int) : srun (lyT Ln) ((d + 1), 159, 0, [mR 92, mI x0, mI x1, mI x2, mJ], [], σ) =
 (Option.bind (srun (lyT Ln) (d, 158, 0, [mI x0], [], (mup σ 92 0 0))) (fun y1 =>
 (bif decide (y1.2 = 0) then
  some (y1.1, (-1000001))
 else
  (Option.bind (srun (lyT Ln) (d, 156, 0, [mL x1, mJ, mL 0, mJ, mL 2, mJ], [], y1.1)) (fun y2 =>
  (bif decide (y2.2 = 0) then
   some (y2.1, (-1000001))
  else
   (bif decide (x2 ≤ 40) then
    (bif decide (0 ≤ x2) then
     (bif minb x0 8 then
     (bif minb x0 8 then
     srun (lyT Ln) ((d + 1), 159, 38, [mR 92, mI x0, mI x1, mI x2, mI 0], [], (mup (mup (mup y2.1 92 1 0) 93 (Int.toNat x0) x1) 94 (Int.toNat x0) x2))
     else none)
     else none)
    else
     (Option.bind (srun (lyT Ln) (d, 157, 0, [mR 92, mI 4], [], (mup y2.1 92 1 0))) (fun y3 =>
     some (y3.1, y3.2))))
   else
    some (y2.1, (-1000001))))))))) := by
  exact (srun_unr _ [38] 32 _).trans rfl
theorem b_M_row_38 (Ln d : Nat) (σ : mmSt) (z1 z2 z3 z4 : Int) : srun (lyT Ln) ((d + 1), 159, 38, [mR 92, mI z1, mI z2, mI z3, mI z4], [], σ) =
 (bif decide (40 ≤ z4) then
  some (σ, z3)
 else
  (bif minb (mwrap ((mwrap (40 * z1)) + z4)) 320 then
  srun (lyT Ln) ((d + 1), 159, 38, [mR 92, mI z1, mI z2, mI z3, mI (mwrap (z4 + 1))], [], (mup σ 95 (Int.toNat (mwrap ((mwrap (40 * z1)) + z4))) 0))
  else none)) := by
  exact (srun_unr _ [38] 14 _).trans rfl
/-! GridQuarrelsModel.set(III)I: method 160; stops [] -/
set_option maxRecDepth 100000 in
theorem b_M_set (Ln d : Nat) (σ : mmSt) (x0 x1 x2 : Int) : srun (lyT Ln) ((d + 1), 160, 0, [mR 92, mI x0, mI x1, mI x2], [], σ) =
 (Option.bind (srun (lyT Ln) (d, 158, 0, [mI x0], [], (mup σ 92 0 0))) (fun y1 =>
 (bif decide (¬ y1.2 = 0) then
  (bif minb x0 8 then
  (bif decide (0 ≤ ((mup y1.1 92 1 0) 93 (Int.toNat x0))) then
   (bif minb x0 8 then
   (Option.bind (srun (lyT Ln) (d, 156, 0, [mL x1, mJ, mL 0, mJ, mL (mwrap (((mup y1.1 92 1 0) 94 (Int.toNat x0)) - 1)), mJ], [], (mup y1.1 92 1 0))) (fun y2 =>
   (bif decide (¬ y2.2 = 0) then
    (bif minb x0 8 then
    (bif decide (¬ (y2.1 93 (Int.toNat x0)) = 0) then
     (bif minb x0 8 then
     (bif decide (¬ (y2.1 93 (Int.toNat x0)) = 1) then
      (bif minb (mwrap ((mwrap (40 * x0)) + x1)) 320 then
      (bif minb (mwrap ((mwrap (40 * x0)) + x1)) 320 then
      some ((mup y2.1 95 (Int.toNat (mwrap ((mwrap (40 * x0)) + x1))) x2), ((mup y2.1 95 (Int.toNat (mwrap ((mwrap (40 * x0)) + x1))) x2) 95 (Int.toNat (mwrap ((mwrap (40 * x0)) + x1)))))
      else none)
      else none)
     else
      (bif minb (mwrap ((mwrap (40 * x0)) + x1)) 320 then
      (bif minb (mwrap ((mwrap (40 * x0)) + x1)) 320 then
      some ((mup y2.1 95 (Int.toNat (mwrap ((mwrap (40 * x0)) + x1))) (mi2s x2)), ((mup y2.1 95 (Int.toNat (mwrap ((mwrap (40 * x0)) + x1))) (mi2s x2)) 95 (Int.toNat (mwrap ((mwrap (40 * x0)) + x1)))))
      else none)
      else none))
     else none)
    else
     (bif minb (mwrap ((mwrap (40 * x0)) + x1)) 320 then
     (bif minb (mwrap ((mwrap (40 * x0)) + x1)) 320 then
     some ((mup y2.1 95 (Int.toNat (mwrap ((mwrap (40 * x0)) + x1))) (mi2b x2)), ((mup y2.1 95 (Int.toNat (mwrap ((mwrap (40 * x0)) + x1))) (mi2b x2)) 95 (Int.toNat (mwrap ((mwrap (40 * x0)) + x1)))))
     else none)
     else none))
    else none)
   else
    (Option.bind (srun (lyT Ln) (d, 157, 0, [mR 92, mI 2], [], y2.1)) (fun y3 =>
    some (y3.1, y3.2))))))
   else none)
  else
   (Option.bind (srun (lyT Ln) (d, 157, 0, [mR 92, mI 1], [], (mup y1.1 92 1 0))) (fun y4 =>
   some (y4.1, y4.2))))
  else none)
 else
  some (y1.1, (-1000001))))) := by
  exact (srun_unr _ [] 57 _).trans rfl
/-! GridQuarrelsModel.copy(IIIII)I: method 161; stops [84] -/
set_option maxRecDepth 100000 in
theorem b_M_copy (Ln d : Nat) (σ : mmSt) (x0 x1 x2 x3 x4 : Int) : srun (lyT Ln) ((d + 1), 161, 0, [mR 92, mI x0, mI x1, mI x2, mI x3, mI x4, mJ, mJ, mJ], [], σ) =
 (Option.bind (srun (lyT Ln) (d, 158, 0, [mI x0], [], (mup σ 92 0 0))) (fun y1 =>
 (bif decide (y1.2 = 0) then
  some (y1.1, (-1000001))
 else
  (Option.bind (srun (lyT Ln) (d, 158, 0, [mI x2], [], y1.1)) (fun y2 =>
  (bif decide (¬ y2.2 = 0) then
   (bif minb x0 8 then
   (bif decide (((mup y2.1 92 1 0) 93 (Int.toNat x0)) < 0) then
    (Option.bind (srun (lyT Ln) (d, 157, 0, [mR 92, mI 1], [], (mup y2.1 92 1 0))) (fun y3 =>
    some (y3.1, y3.2)))
   else
    (bif minb x2 8 then
    (bif decide (0 ≤ ((mup y2.1 92 1 0) 93 (Int.toNat x2))) then
     (bif minb x0 8 then
     (bif minb x2 8 then
     (bif decide (((mup y2.1 92 1 0) 93 (Int.toNat x0)) = ((mup y2.1 92 1 0) 93 (Int.toNat x2))) then
      (bif decide (x1 < 0) then
       (Option.bind (srun (lyT Ln) (d, 157, 0, [mR 92, mI 2], [], (mup y2.1 92 1 0))) (fun y4 =>
       some (y4.1, y4.2)))
      else
       (bif decide (x3 < 0) then
        (Option.bind (srun (lyT Ln) (d, 157, 0, [mR 92, mI 2], [], (mup y2.1 92 1 0))) (fun y5 =>
        some (y5.1, y5.2)))
       else
        (bif decide (x4 < 0) then
         (Option.bind (srun (lyT Ln) (d, 157, 0, [mR 92, mI 2], [], (mup y2.1 92 1 0))) (fun y6 =>
         some (y6.1, y6.2)))
        else
         (bif minb x0 8 then
         (bif decide (0 < (mlcmp (mwrapL (x1 + x4)) ((mup y2.1 92 1 0) 94 (Int.toNat x0)))) then
          (Option.bind (srun (lyT Ln) (d, 157, 0, [mR 92, mI 2], [], (mup y2.1 92 1 0))) (fun y7 =>
          some (y7.1, y7.2)))
         else
          (bif minb x2 8 then
          (bif decide ((mlcmp (mwrapL (x3 + x4)) ((mup y2.1 92 1 0) 94 (Int.toNat x2))) ≤ 0) then
           (bif decide (x1 < x3) then
            srun (lyT Ln) ((d + 1), 161, 84, [mR 92, mI x0, mI x1, mI x2, mI x3, mI x4, mI 0, mI 0, mJ], [], (mup y2.1 92 1 0))
           else
            srun (lyT Ln) ((d + 1), 161, 84, [mR 92, mI x0, mI x1, mI x2, mI x3, mI x4, mI 1, mI 0, mJ], [], (mup y2.1 92 1 0)))
          else
           (Option.bind (srun (lyT Ln) (d, 157, 0, [mR 92, mI 2], [], (mup y2.1 92 1 0))) (fun y8 =>
           some (y8.1, y8.2))))
          else none))
         else none))))
     else
      (Option.bind (srun (lyT Ln) (d, 157, 0, [mR 92, mI 5], [], (mup y2.1 92 1 0))) (fun y9 =>
      some (y9.1, y9.2))))
     else none)
     else none)
    else
     (Option.bind (srun (lyT Ln) (d, 157, 0, [mR 92, mI 1], [], (mup y2.1 92 1 0))) (fun y10 =>
     some (y10.1, y10.2))))
    else none))
   else none)
  else
   some (y2.1, (-1000001)))))))) := by
  exact (srun_unr _ [84] 69 _).trans rfl
theorem b_M_copy_84 (Ln d : Nat) (σ : mmSt) (z1 z2 z3 z4 z5 z6 z7 : Int) (v8 : mmV) : srun (lyT Ln) ((d + 1), 161, 84, [mR 92, mI z1, mI z2, mI z3, mI z4, mI z5, mI z6, mI z7, v8], [], σ) =
 (bif decide (z5 ≤ z7) then
  some (σ, z5)
 else
  (bif decide (z6 = 0) then
   (bif minb (mwrap ((mwrap ((mwrap (40 * z1)) + z2)) + (mwrap ((mwrap (z5 - 1)) - z7)))) 320 then
   (bif minb (mwrap ((mwrap ((mwrap (40 * z3)) + z4)) + (mwrap ((mwrap (z5 - 1)) - z7)))) 320 then
   srun (lyT Ln) ((d + 1), 161, 84, [mR 92, mI z1, mI z2, mI z3, mI z4, mI z5, mI z6, mI (mwrap (z7 + 1)), mI (mwrap ((mwrap (z5 - 1)) - z7))], [], (mup σ 95 (Int.toNat (mwrap ((mwrap ((mwrap (40 * z3)) + z4)) + (mwrap ((mwrap (z5 - 1)) - z7))))) (σ 95 (Int.toNat (mwrap ((mwrap ((mwrap (40 * z1)) + z2)) + (mwrap ((mwrap (z5 - 1)) - z7))))))))
   else none)
   else none)
  else
   (bif minb (mwrap ((mwrap ((mwrap (40 * z1)) + z2)) + z7)) 320 then
   (bif minb (mwrap ((mwrap ((mwrap (40 * z3)) + z4)) + z7)) 320 then
   srun (lyT Ln) ((d + 1), 161, 84, [mR 92, mI z1, mI z2, mI z3, mI z4, mI z5, mI z6, mI (mwrap (z7 + 1)), mI z7], [], (mup σ 95 (Int.toNat (mwrap ((mwrap ((mwrap (40 * z3)) + z4)) + z7))) (σ 95 (Int.toNat (mwrap ((mwrap ((mwrap (40 * z1)) + z2)) + z7))))))
   else none)
   else none))) := by
  exact (srun_unr _ [84] 33 _).trans rfl
/-! GridQuarrelsModel.drop(I)I: method 162; stops [] -/
theorem b_M_drop (Ln d : Nat) (σ : mmSt) (x0 : Int) : srun (lyT Ln) ((d + 1), 162, 0, [mR 92, mI x0], [], σ) =
 (Option.bind (srun (lyT Ln) (d, 158, 0, [mI x0], [], (mup σ 92 0 0))) (fun y1 =>
 (bif decide (¬ y1.2 = 0) then
  (bif minb x0 8 then
  (bif decide (0 ≤ ((mup y1.1 92 1 0) 93 (Int.toNat x0))) then
   (bif minb x0 8 then
   (bif minb x0 8 then
   some ((mup (mup y1.1 92 1 0) 93 (Int.toNat x0) (-1)), ((mup (mup y1.1 92 1 0) 93 (Int.toNat x0) (-1)) 94 (Int.toNat x0)))
   else none)
   else none)
  else
   (Option.bind (srun (lyT Ln) (d, 157, 0, [mR 92, mI 1], [], (mup y1.1 92 1 0))) (fun y2 =>
   some (y2.1, y2.2))))
  else none)
 else
  some (y1.1, (-1000001))))) := by
  exact (srun_unr _ [] 24 _).trans rfl
/-! GridQuarrelsModel.feed(I)I: method 163; stops [] -/
theorem b_M_feed (Ln d : Nat) (σ : mmSt) (x0 : Int) : srun (lyT Ln) ((d + 1), 163, 0, [mR 92, mI x0], [], σ) =
 (Option.bind (srun (lyT Ln) (d, 156, 0, [mL x0, mJ, mL 0, mJ, mL 255, mJ], [], (mup σ 92 0 0))) (fun y1 =>
 (bif decide (¬ y1.2 = 0) then
  (bif decide (¬ (y1.1 92 11) = 120) then
   (bif minb (y1.1 92 11) 120 then
   some ((mup (mup y1.1 100 (Int.toNat (y1.1 92 11)) x0) 92 11 (mwrap (((mup y1.1 100 (Int.toNat (y1.1 92 11)) x0) 92 11) + 1))), ((mup (mup y1.1 100 (Int.toNat (y1.1 92 11)) x0) 92 11 (mwrap (((mup y1.1 100 (Int.toNat (y1.1 92 11)) x0) 92 11) + 1))) 92 11))
   else none)
  else
   some (y1.1, (-1000003)))
 else
  some (y1.1, (-1000001))))) := by
  exact (srun_unr _ [] 28 _).trans rfl
/-! GridQuarrelsModel.bad(I)V: method 164; stops [] -/
theorem b_M_bad (Ln d : Nat) (σ : mmSt) (x0 : Int) : srun (lyT Ln) ((d + 1), 164, 0, [mR 92, mI x0], [], σ) =
 (bif decide (¬ (σ 92 16) = 0) then
  some (σ, 0)
 else
  some ((mup (mup σ 92 16 x0) 92 17 ((mup σ 92 16 x0) 92 13)), 0)) := by
  exact (srun_unr _ [] 11 _).trans rfl
/-! GridQuarrelsModel.nextToken()V: method 165; stops [79] -/
set_option maxRecDepth 100000 in
theorem b_M_nextToken (Ln d : Nat) (σ : mmSt) : srun (lyT Ln) ((d + 1), 165, 0, [mR 92], [], σ) =
 (bif decide (((mup σ 92 13 (σ 92 12)) 92 11) ≤ ((mup σ 92 13 (σ 92 12)) 92 12)) then
  (bif decide (¬ ((mup (mup σ 92 13 (σ 92 12)) 92 15 (-1000000)) 92 12) = ((mup (mup σ 92 13 (σ 92 12)) 92 15 (-1000000)) 92 11)) then
   (Option.bind (srun (lyT Ln) (d, 156, 0, [mL ((mup (mup σ 92 13 (σ 92 12)) 92 15 (-1000000)) 92 15), mJ, mL 97, mJ, mL 122, mJ], [], (mup (mup σ 92 13 (σ 92 12)) 92 15 (-1000000)))) (fun y1 =>
   (bif decide (y1.2 = 0) then
    (Option.bind (srun (lyT Ln) (d, 156, 0, [mL (y1.1 92 15), mJ, mL 48, mJ, mL 57, mJ], [], y1.1)) (fun y2 =>
    (bif decide (y2.2 = 0) then
     (bif decide ((y2.1 92 15) = 44) then
      (bif decide (((mup y2.1 92 14 4) 92 11) ≤ ((mup y2.1 92 14 4) 92 12)) then
       (bif decide (¬ ((mup (mup y2.1 92 14 4) 92 12 (mwrap (((mup y2.1 92 14 4) 92 12) + 0))) 92 14) = 3) then
        some ((mup (mup y2.1 92 14 4) 92 12 (mwrap (((mup y2.1 92 14 4) 92 12) + 0))), 0)
       else
        srun (lyT Ln) ((d + 1), 165, 79, [mR 92], [], (mup (mup (mup y2.1 92 14 4) 92 12 (mwrap (((mup y2.1 92 14 4) 92 12) + 0))) 92 15 (mwrap (((mup (mup y2.1 92 14 4) 92 12 (mwrap (((mup y2.1 92 14 4) 92 12) + 0))) 92 15) - 48)))))
      else
       (bif decide (¬ ((mup (mup y2.1 92 14 4) 92 12 (mwrap (((mup y2.1 92 14 4) 92 12) + 1))) 92 14) = 3) then
        some ((mup (mup y2.1 92 14 4) 92 12 (mwrap (((mup y2.1 92 14 4) 92 12) + 1))), 0)
       else
        srun (lyT Ln) ((d + 1), 165, 79, [mR 92], [], (mup (mup (mup y2.1 92 14 4) 92 12 (mwrap (((mup y2.1 92 14 4) 92 12) + 1))) 92 15 (mwrap (((mup (mup y2.1 92 14 4) 92 12 (mwrap (((mup y2.1 92 14 4) 92 12) + 1))) 92 15) - 48))))))
     else
      (bif decide (¬ (y2.1 92 15) = 59) then
       (bif decide (((mup y2.1 92 14 0) 92 11) ≤ ((mup y2.1 92 14 0) 92 12)) then
        (bif decide (¬ ((mup (mup y2.1 92 14 0) 92 12 (mwrap (((mup y2.1 92 14 0) 92 12) + 0))) 92 14) = 3) then
         some ((mup (mup y2.1 92 14 0) 92 12 (mwrap (((mup y2.1 92 14 0) 92 12) + 0))), 0)
        else
         srun (lyT Ln) ((d + 1), 165, 79, [mR 92], [], (mup (mup (mup y2.1 92 14 0) 92 12 (mwrap (((mup y2.1 92 14 0) 92 12) + 0))) 92 15 (mwrap (((mup (mup y2.1 92 14 0) 92 12 (mwrap (((mup y2.1 92 14 0) 92 12) + 0))) 92 15) - 48)))))
       else
        (bif decide (¬ ((mup (mup y2.1 92 14 0) 92 12 (mwrap (((mup y2.1 92 14 0) 92 12) + 1))) 92 14) = 3) then
         some ((mup (mup y2.1 92 14 0) 92 12 (mwrap (((mup y2.1 92 14 0) 92 12) + 1))), 0)
        else
         srun (lyT Ln) ((d + 1), 165, 79, [mR 92], [], (mup (mup (mup y2.1 92 14 0) 92 12 (mwrap (((mup y2.1 92 14 0) 92 12) + 1))) 92 15 (mwrap (((mup (mup y2.1 92 14 0) 92 12 (mwrap (((mup y2.1 92 14 0) 92 12) + 1))) 92 15) - 48))))))
      else
       (bif decide (((mup y2.1 92 14 4) 92 11) ≤ ((mup y2.1 92 14 4) 92 12)) then
        (bif decide (¬ ((mup (mup y2.1 92 14 4) 92 12 (mwrap (((mup y2.1 92 14 4) 92 12) + 0))) 92 14) = 3) then
         some ((mup (mup y2.1 92 14 4) 92 12 (mwrap (((mup y2.1 92 14 4) 92 12) + 0))), 0)
        else
         srun (lyT Ln) ((d + 1), 165, 79, [mR 92], [], (mup (mup (mup y2.1 92 14 4) 92 12 (mwrap (((mup y2.1 92 14 4) 92 12) + 0))) 92 15 (mwrap (((mup (mup y2.1 92 14 4) 92 12 (mwrap (((mup y2.1 92 14 4) 92 12) + 0))) 92 15) - 48)))))
       else
        (bif decide (¬ ((mup (mup y2.1 92 14 4) 92 12 (mwrap (((mup y2.1 92 14 4) 92 12) + 1))) 92 14) = 3) then
         some ((mup (mup y2.1 92 14 4) 92 12 (mwrap (((mup y2.1 92 14 4) 92 12) + 1))), 0)
        else
         srun (lyT Ln) ((d + 1), 165, 79, [mR 92], [], (mup (mup (mup y2.1 92 14 4) 92 12 (mwrap (((mup y2.1 92 14 4) 92 12) + 1))) 92 15 (mwrap (((mup (mup y2.1 92 14 4) 92 12 (mwrap (((mup y2.1 92 14 4) 92 12) + 1))) 92 15) - 48))))))))
    else
     (bif decide (((mup y2.1 92 14 3) 92 11) ≤ ((mup y2.1 92 14 3) 92 12)) then
      (bif decide (¬ ((mup (mup y2.1 92 14 3) 92 12 (mwrap (((mup y2.1 92 14 3) 92 12) + 0))) 92 14) = 3) then
       some ((mup (mup y2.1 92 14 3) 92 12 (mwrap (((mup y2.1 92 14 3) 92 12) + 0))), 0)
      else
       srun (lyT Ln) ((d + 1), 165, 79, [mR 92], [], (mup (mup (mup y2.1 92 14 3) 92 12 (mwrap (((mup y2.1 92 14 3) 92 12) + 0))) 92 15 (mwrap (((mup (mup y2.1 92 14 3) 92 12 (mwrap (((mup y2.1 92 14 3) 92 12) + 0))) 92 15) - 48)))))
     else
      (bif decide (¬ ((mup (mup y2.1 92 14 3) 92 12 (mwrap (((mup y2.1 92 14 3) 92 12) + 1))) 92 14) = 3) then
       some ((mup (mup y2.1 92 14 3) 92 12 (mwrap (((mup y2.1 92 14 3) 92 12) + 1))), 0)
      else
       srun (lyT Ln) ((d + 1), 165, 79, [mR 92], [], (mup (mup (mup y2.1 92 14 3) 92 12 (mwrap (((mup y2.1 92 14 3) 92 12) + 1))) 92 15 (mwrap (((mup (mup y2.1 92 14 3) 92 12 (mwrap (((mup y2.1 92 14 3) 92 12) + 1))) 92 15) - 48)))))))))
   else
    (bif decide (((mup y1.1 92 14 2) 92 11) ≤ ((mup y1.1 92 14 2) 92 12)) then
     (bif decide (¬ ((mup (mup y1.1 92 14 2) 92 12 (mwrap (((mup y1.1 92 14 2) 92 12) + 0))) 92 14) = 3) then
      some ((mup (mup y1.1 92 14 2) 92 12 (mwrap (((mup y1.1 92 14 2) 92 12) + 0))), 0)
     else
      srun (lyT Ln) ((d + 1), 165, 79, [mR 92], [], (mup (mup (mup y1.1 92 14 2) 92 12 (mwrap (((mup y1.1 92 14 2) 92 12) + 0))) 92 15 (mwrap (((mup (mup y1.1 92 14 2) 92 12 (mwrap (((mup y1.1 92 14 2) 92 12) + 0))) 92 15) - 48)))))
    else
     (bif decide (¬ ((mup (mup y1.1 92 14 2) 92 12 (mwrap (((mup y1.1 92 14 2) 92 12) + 1))) 92 14) = 3) then
      some ((mup (mup y1.1 92 14 2) 92 12 (mwrap (((mup y1.1 92 14 2) 92 12) + 1))), 0)
     else
      srun (lyT Ln) ((d + 1), 165, 79, [mR 92], [], (mup (mup (mup y1.1 92 14 2) 92 12 (mwrap (((mup y1.1 92 14 2) 92 12) + 1))) 92 15 (mwrap (((mup (mup y1.1 92 14 2) 92 12 (mwrap (((mup y1.1 92 14 2) 92 12) + 1))) 92 15) - 48)))))))))
  else
   (bif decide (((mup (mup (mup σ 92 13 (σ 92 12)) 92 15 (-1000000)) 92 14 1) 92 11) ≤ ((mup (mup (mup σ 92 13 (σ 92 12)) 92 15 (-1000000)) 92 14 1) 92 12)) then
    (bif decide (¬ ((mup (mup (mup (mup σ 92 13 (σ 92 12)) 92 15 (-1000000)) 92 14 1) 92 12 (mwrap (((mup (mup (mup σ 92 13 (σ 92 12)) 92 15 (-1000000)) 92 14 1) 92 12) + 0))) 92 14) = 3) then
     some ((mup (mup (mup (mup σ 92 13 (σ 92 12)) 92 15 (-1000000)) 92 14 1) 92 12 (mwrap (((mup (mup (mup σ 92 13 (σ 92 12)) 92 15 (-1000000)) 92 14 1) 92 12) + 0))), 0)
    else
     srun (lyT Ln) ((d + 1), 165, 79, [mR 92], [], (mup (mup (mup (mup (mup σ 92 13 (σ 92 12)) 92 15 (-1000000)) 92 14 1) 92 12 (mwrap (((mup (mup (mup σ 92 13 (σ 92 12)) 92 15 (-1000000)) 92 14 1) 92 12) + 0))) 92 15 (mwrap (((mup (mup (mup (mup σ 92 13 (σ 92 12)) 92 15 (-1000000)) 92 14 1) 92 12 (mwrap (((mup (mup (mup σ 92 13 (σ 92 12)) 92 15 (-1000000)) 92 14 1) 92 12) + 0))) 92 15) - 48)))))
   else
    (bif decide (¬ ((mup (mup (mup (mup σ 92 13 (σ 92 12)) 92 15 (-1000000)) 92 14 1) 92 12 (mwrap (((mup (mup (mup σ 92 13 (σ 92 12)) 92 15 (-1000000)) 92 14 1) 92 12) + 1))) 92 14) = 3) then
     some ((mup (mup (mup (mup σ 92 13 (σ 92 12)) 92 15 (-1000000)) 92 14 1) 92 12 (mwrap (((mup (mup (mup σ 92 13 (σ 92 12)) 92 15 (-1000000)) 92 14 1) 92 12) + 1))), 0)
    else
     srun (lyT Ln) ((d + 1), 165, 79, [mR 92], [], (mup (mup (mup (mup (mup σ 92 13 (σ 92 12)) 92 15 (-1000000)) 92 14 1) 92 12 (mwrap (((mup (mup (mup σ 92 13 (σ 92 12)) 92 15 (-1000000)) 92 14 1) 92 12) + 1))) 92 15 (mwrap (((mup (mup (mup (mup σ 92 13 (σ 92 12)) 92 15 (-1000000)) 92 14 1) 92 12 (mwrap (((mup (mup (mup σ 92 13 (σ 92 12)) 92 15 (-1000000)) 92 14 1) 92 12) + 1))) 92 15) - 48)))))))
 else
  (bif minb ((mup σ 92 13 (σ 92 12)) 92 12) 120 then
  (bif decide (¬ ((mup (mup σ 92 13 (σ 92 12)) 92 15 ((mup σ 92 13 (σ 92 12)) 100 (Int.toNat ((mup σ 92 13 (σ 92 12)) 92 12)))) 92 12) = ((mup (mup σ 92 13 (σ 92 12)) 92 15 ((mup σ 92 13 (σ 92 12)) 100 (Int.toNat ((mup σ 92 13 (σ 92 12)) 92 12)))) 92 11)) then
   (Option.bind (srun (lyT Ln) (d, 156, 0, [mL ((mup (mup σ 92 13 (σ 92 12)) 92 15 ((mup σ 92 13 (σ 92 12)) 100 (Int.toNat ((mup σ 92 13 (σ 92 12)) 92 12)))) 92 15), mJ, mL 97, mJ, mL 122, mJ], [], (mup (mup σ 92 13 (σ 92 12)) 92 15 ((mup σ 92 13 (σ 92 12)) 100 (Int.toNat ((mup σ 92 13 (σ 92 12)) 92 12)))))) (fun y3 =>
   (bif decide (y3.2 = 0) then
    (Option.bind (srun (lyT Ln) (d, 156, 0, [mL (y3.1 92 15), mJ, mL 48, mJ, mL 57, mJ], [], y3.1)) (fun y4 =>
    (bif decide (y4.2 = 0) then
     (bif decide ((y4.1 92 15) = 44) then
      (bif decide (((mup y4.1 92 14 4) 92 11) ≤ ((mup y4.1 92 14 4) 92 12)) then
       (bif decide (¬ ((mup (mup y4.1 92 14 4) 92 12 (mwrap (((mup y4.1 92 14 4) 92 12) + 0))) 92 14) = 3) then
        some ((mup (mup y4.1 92 14 4) 92 12 (mwrap (((mup y4.1 92 14 4) 92 12) + 0))), 0)
       else
        srun (lyT Ln) ((d + 1), 165, 79, [mR 92], [], (mup (mup (mup y4.1 92 14 4) 92 12 (mwrap (((mup y4.1 92 14 4) 92 12) + 0))) 92 15 (mwrap (((mup (mup y4.1 92 14 4) 92 12 (mwrap (((mup y4.1 92 14 4) 92 12) + 0))) 92 15) - 48)))))
      else
       (bif decide (¬ ((mup (mup y4.1 92 14 4) 92 12 (mwrap (((mup y4.1 92 14 4) 92 12) + 1))) 92 14) = 3) then
        some ((mup (mup y4.1 92 14 4) 92 12 (mwrap (((mup y4.1 92 14 4) 92 12) + 1))), 0)
       else
        srun (lyT Ln) ((d + 1), 165, 79, [mR 92], [], (mup (mup (mup y4.1 92 14 4) 92 12 (mwrap (((mup y4.1 92 14 4) 92 12) + 1))) 92 15 (mwrap (((mup (mup y4.1 92 14 4) 92 12 (mwrap (((mup y4.1 92 14 4) 92 12) + 1))) 92 15) - 48))))))
     else
      (bif decide (¬ (y4.1 92 15) = 59) then
       (bif decide (((mup y4.1 92 14 0) 92 11) ≤ ((mup y4.1 92 14 0) 92 12)) then
        (bif decide (¬ ((mup (mup y4.1 92 14 0) 92 12 (mwrap (((mup y4.1 92 14 0) 92 12) + 0))) 92 14) = 3) then
         some ((mup (mup y4.1 92 14 0) 92 12 (mwrap (((mup y4.1 92 14 0) 92 12) + 0))), 0)
        else
         srun (lyT Ln) ((d + 1), 165, 79, [mR 92], [], (mup (mup (mup y4.1 92 14 0) 92 12 (mwrap (((mup y4.1 92 14 0) 92 12) + 0))) 92 15 (mwrap (((mup (mup y4.1 92 14 0) 92 12 (mwrap (((mup y4.1 92 14 0) 92 12) + 0))) 92 15) - 48)))))
       else
        (bif decide (¬ ((mup (mup y4.1 92 14 0) 92 12 (mwrap (((mup y4.1 92 14 0) 92 12) + 1))) 92 14) = 3) then
         some ((mup (mup y4.1 92 14 0) 92 12 (mwrap (((mup y4.1 92 14 0) 92 12) + 1))), 0)
        else
         srun (lyT Ln) ((d + 1), 165, 79, [mR 92], [], (mup (mup (mup y4.1 92 14 0) 92 12 (mwrap (((mup y4.1 92 14 0) 92 12) + 1))) 92 15 (mwrap (((mup (mup y4.1 92 14 0) 92 12 (mwrap (((mup y4.1 92 14 0) 92 12) + 1))) 92 15) - 48))))))
      else
       (bif decide (((mup y4.1 92 14 4) 92 11) ≤ ((mup y4.1 92 14 4) 92 12)) then
        (bif decide (¬ ((mup (mup y4.1 92 14 4) 92 12 (mwrap (((mup y4.1 92 14 4) 92 12) + 0))) 92 14) = 3) then
         some ((mup (mup y4.1 92 14 4) 92 12 (mwrap (((mup y4.1 92 14 4) 92 12) + 0))), 0)
        else
         srun (lyT Ln) ((d + 1), 165, 79, [mR 92], [], (mup (mup (mup y4.1 92 14 4) 92 12 (mwrap (((mup y4.1 92 14 4) 92 12) + 0))) 92 15 (mwrap (((mup (mup y4.1 92 14 4) 92 12 (mwrap (((mup y4.1 92 14 4) 92 12) + 0))) 92 15) - 48)))))
       else
        (bif decide (¬ ((mup (mup y4.1 92 14 4) 92 12 (mwrap (((mup y4.1 92 14 4) 92 12) + 1))) 92 14) = 3) then
         some ((mup (mup y4.1 92 14 4) 92 12 (mwrap (((mup y4.1 92 14 4) 92 12) + 1))), 0)
        else
         srun (lyT Ln) ((d + 1), 165, 79, [mR 92], [], (mup (mup (mup y4.1 92 14 4) 92 12 (mwrap (((mup y4.1 92 14 4) 92 12) + 1))) 92 15 (mwrap (((mup (mup y4.1 92 14 4) 92 12 (mwrap (((mup y4.1 92 14 4) 92 12) + 1))) 92 15) - 48))))))))
    else
     (bif decide (((mup y4.1 92 14 3) 92 11) ≤ ((mup y4.1 92 14 3) 92 12)) then
      (bif decide (¬ ((mup (mup y4.1 92 14 3) 92 12 (mwrap (((mup y4.1 92 14 3) 92 12) + 0))) 92 14) = 3) then
       some ((mup (mup y4.1 92 14 3) 92 12 (mwrap (((mup y4.1 92 14 3) 92 12) + 0))), 0)
      else
       srun (lyT Ln) ((d + 1), 165, 79, [mR 92], [], (mup (mup (mup y4.1 92 14 3) 92 12 (mwrap (((mup y4.1 92 14 3) 92 12) + 0))) 92 15 (mwrap (((mup (mup y4.1 92 14 3) 92 12 (mwrap (((mup y4.1 92 14 3) 92 12) + 0))) 92 15) - 48)))))
     else
      (bif decide (¬ ((mup (mup y4.1 92 14 3) 92 12 (mwrap (((mup y4.1 92 14 3) 92 12) + 1))) 92 14) = 3) then
       some ((mup (mup y4.1 92 14 3) 92 12 (mwrap (((mup y4.1 92 14 3) 92 12) + 1))), 0)
      else
       srun (lyT Ln) ((d + 1), 165, 79, [mR 92], [], (mup (mup (mup y4.1 92 14 3) 92 12 (mwrap (((mup y4.1 92 14 3) 92 12) + 1))) 92 15 (mwrap (((mup (mup y4.1 92 14 3) 92 12 (mwrap (((mup y4.1 92 14 3) 92 12) + 1))) 92 15) - 48)))))))))
   else
    (bif decide (((mup y3.1 92 14 2) 92 11) ≤ ((mup y3.1 92 14 2) 92 12)) then
     (bif decide (¬ ((mup (mup y3.1 92 14 2) 92 12 (mwrap (((mup y3.1 92 14 2) 92 12) + 0))) 92 14) = 3) then
      some ((mup (mup y3.1 92 14 2) 92 12 (mwrap (((mup y3.1 92 14 2) 92 12) + 0))), 0)
     else
      srun (lyT Ln) ((d + 1), 165, 79, [mR 92], [], (mup (mup (mup y3.1 92 14 2) 92 12 (mwrap (((mup y3.1 92 14 2) 92 12) + 0))) 92 15 (mwrap (((mup (mup y3.1 92 14 2) 92 12 (mwrap (((mup y3.1 92 14 2) 92 12) + 0))) 92 15) - 48)))))
    else
     (bif decide (¬ ((mup (mup y3.1 92 14 2) 92 12 (mwrap (((mup y3.1 92 14 2) 92 12) + 1))) 92 14) = 3) then
      some ((mup (mup y3.1 92 14 2) 92 12 (mwrap (((mup y3.1 92 14 2) 92 12) + 1))), 0)
     else
      srun (lyT Ln) ((d + 1), 165, 79, [mR 92], [], (mup (mup (mup y3.1 92 14 2) 92 12 (mwrap (((mup y3.1 92 14 2) 92 12) + 1))) 92 15 (mwrap (((mup (mup y3.1 92 14 2) 92 12 (mwrap (((mup y3.1 92 14 2) 92 12) + 1))) 92 15) - 48)))))))))
  else
   (bif decide (((mup (mup (mup σ 92 13 (σ 92 12)) 92 15 ((mup σ 92 13 (σ 92 12)) 100 (Int.toNat ((mup σ 92 13 (σ 92 12)) 92 12)))) 92 14 1) 92 11) ≤ ((mup (mup (mup σ 92 13 (σ 92 12)) 92 15 ((mup σ 92 13 (σ 92 12)) 100 (Int.toNat ((mup σ 92 13 (σ 92 12)) 92 12)))) 92 14 1) 92 12)) then
    (bif decide (¬ ((mup (mup (mup (mup σ 92 13 (σ 92 12)) 92 15 ((mup σ 92 13 (σ 92 12)) 100 (Int.toNat ((mup σ 92 13 (σ 92 12)) 92 12)))) 92 14 1) 92 12 (mwrap (((mup (mup (mup σ 92 13 (σ 92 12)) 92 15 ((mup σ 92 13 (σ 92 12)) 100 (Int.toNat ((mup σ 92 13 (σ 92 12)) 92 12)))) 92 14 1) 92 12) + 0))) 92 14) = 3) then
     some ((mup (mup (mup (mup σ 92 13 (σ 92 12)) 92 15 ((mup σ 92 13 (σ 92 12)) 100 (Int.toNat ((mup σ 92 13 (σ 92 12)) 92 12)))) 92 14 1) 92 12 (mwrap (((mup (mup (mup σ 92 13 (σ 92 12)) 92 15 ((mup σ 92 13 (σ 92 12)) 100 (Int.toNat ((mup σ 92 13 (σ 92 12)) 92 12)))) 92 14 1) 92 12) + 0))), 0)
    else
     srun (lyT Ln) ((d + 1), 165, 79, [mR 92], [], (mup (mup (mup (mup (mup σ 92 13 (σ 92 12)) 92 15 ((mup σ 92 13 (σ 92 12)) 100 (Int.toNat ((mup σ 92 13 (σ 92 12)) 92 12)))) 92 14 1) 92 12 (mwrap (((mup (mup (mup σ 92 13 (σ 92 12)) 92 15 ((mup σ 92 13 (σ 92 12)) 100 (Int.toNat ((mup σ 92 13 (σ 92 12)) 92 12)))) 92 14 1) 92 12) + 0))) 92 15 (mwrap (((mup (mup (mup (mup σ 92 13 (σ 92 12)) 92 15 ((mup σ 92 13 (σ 92 12)) 100 (Int.toNat ((mup σ 92 13 (σ 92 12)) 92 12)))) 92 14 1) 92 12 (mwrap (((mup (mup (mup σ 92 13 (σ 92 12)) 92 15 ((mup σ 92 13 (σ 92 12)) 100 (Int.toNat ((mup σ 92 13 (σ 92 12)) 92 12)))) 92 14 1) 92 12) + 0))) 92 15) - 48)))))
   else
    (bif decide (¬ ((mup (mup (mup (mup σ 92 13 (σ 92 12)) 92 15 ((mup σ 92 13 (σ 92 12)) 100 (Int.toNat ((mup σ 92 13 (σ 92 12)) 92 12)))) 92 14 1) 92 12 (mwrap (((mup (mup (mup σ 92 13 (σ 92 12)) 92 15 ((mup σ 92 13 (σ 92 12)) 100 (Int.toNat ((mup σ 92 13 (σ 92 12)) 92 12)))) 92 14 1) 92 12) + 1))) 92 14) = 3) then
     some ((mup (mup (mup (mup σ 92 13 (σ 92 12)) 92 15 ((mup σ 92 13 (σ 92 12)) 100 (Int.toNat ((mup σ 92 13 (σ 92 12)) 92 12)))) 92 14 1) 92 12 (mwrap (((mup (mup (mup σ 92 13 (σ 92 12)) 92 15 ((mup σ 92 13 (σ 92 12)) 100 (Int.toNat ((mup σ 92 13 (σ 92 12)) 92 12)))) 92 14 1) 92 12) + 1))), 0)
    else
     srun (lyT Ln) ((d + 1), 165, 79, [mR 92], [], (mup (mup (mup (mup (mup σ 92 13 (σ 92 12)) 92 15 ((mup σ 92 13 (σ 92 12)) 100 (Int.toNat ((mup σ 92 13 (σ 92 12)) 92 12)))) 92 14 1) 92 12 (mwrap (((mup (mup (mup σ 92 13 (σ 92 12)) 92 15 ((mup σ 92 13 (σ 92 12)) 100 (Int.toNat ((mup σ 92 13 (σ 92 12)) 92 12)))) 92 14 1) 92 12) + 1))) 92 15 (mwrap (((mup (mup (mup (mup σ 92 13 (σ 92 12)) 92 15 ((mup σ 92 13 (σ 92 12)) 100 (Int.toNat ((mup σ 92 13 (σ 92 12)) 92 12)))) 92 14 1) 92 12 (mwrap (((mup (mup (mup σ 92 13 (σ 92 12)) 92 15 ((mup σ 92 13 (σ 92 12)) 100 (Int.toNat ((mup σ 92 13 (σ 92 12)) 92 12)))) 92 14 1) 92 12) + 1))) 92 15) - 48)))))))
  else none)) := by
  exact (srun_unr _ [79] 70 _).trans rfl
theorem b_M_nextToken_79 (Ln d : Nat) (σ : mmSt) : srun (lyT Ln) ((d + 1), 165, 79, [mR 92], [], σ) =
 (bif decide ((σ 92 11) ≤ (σ 92 12)) then
  (bif decide ((mwrap ((σ 92 12) - (σ 92 13))) ≤ 2) then
   some ((mup σ 92 14 3), 0)
  else
   some ((mup σ 92 14 0), 0))
 else
  (bif minb (σ 92 12) 120 then
  (Option.bind (srun (lyT Ln) (d, 156, 0, [mL (σ 100 (Int.toNat (σ 92 12))), mJ, mL 48, mJ, mL 57, mJ], [], σ)) (fun y1 =>
  (bif decide (y1.2 = 0) then
   (bif decide ((mwrap ((y1.1 92 12) - (y1.1 92 13))) ≤ 2) then
    some ((mup y1.1 92 14 3), 0)
   else
    some ((mup y1.1 92 14 0), 0))
  else
   (bif decide (2 ≤ (mwrap ((y1.1 92 12) - (y1.1 92 13)))) then
    srun (lyT Ln) ((d + 1), 165, 79, [mR 92], [], (mup (mup y1.1 92 15 (y1.1 92 15)) 92 12 (mwrap (((mup y1.1 92 15 (y1.1 92 15)) 92 12) + 1))))
   else
    (bif minb (y1.1 92 12) 120 then
    srun (lyT Ln) ((d + 1), 165, 79, [mR 92], [], (mup (mup y1.1 92 15 (mwrap ((mwrap ((mwrap (10 * (y1.1 92 15))) + (y1.1 100 (Int.toNat (y1.1 92 12))))) - 48))) 92 12 (mwrap (((mup y1.1 92 15 (mwrap ((mwrap ((mwrap (10 * (y1.1 92 15))) + (y1.1 100 (Int.toNat (y1.1 92 12))))) - 48))) 92 12) + 1))))
    else none)))))
  else none)) := by
  exact (srun_unr _ [79] 44 _).trans rfl
/-! GridQuarrelsModel.must(Z)V: method 166; stops [] -/
theorem b_M_must (Ln d : Nat) (σ : mmSt) (x0 : Int) : srun (lyT Ln) ((d + 1), 166, 0, [mR 92, mI x0], [], σ) =
 (bif decide (¬ x0 = 0) then
  (bif decide (¬ (σ 92 16) = 0) then
   some (σ, 0)
  else
   (Option.bind (srun (lyT Ln) (d, 165, 0, [mR 92], [], σ)) (fun y1 =>
   some (y1.1, 0))))
 else
  (Option.bind (srun (lyT Ln) (d, 164, 0, [mR 92, mI 1], [], σ)) (fun y2 =>
  (bif decide (¬ (y2.1 92 16) = 0) then
   some (y2.1, 0)
  else
   (Option.bind (srun (lyT Ln) (d, 165, 0, [mR 92], [], y2.1)) (fun y3 =>
   some (y3.1, 0))))))) := by
  exact (srun_unr _ [] 11 _).trans rfl
/-! GridQuarrelsModel.isLetter(I)Z: method 167; stops [] -/
theorem b_M_isLetter (Ln d : Nat) (σ : mmSt) (x0 : Int) : srun (lyT Ln) ((d + 1), 167, 0, [mR 92, mI x0], [], σ) =
 (bif decide (¬ (σ 92 16) = 0) then
  some (σ, 0)
 else
  (bif decide (¬ (σ 92 14) = 2) then
   some (σ, 0)
  else
   (bif decide (¬ (σ 92 15) = x0) then
    some (σ, 0)
   else
    some (σ, 1)))) := by
  exact (srun_unr _ [] 14 _).trans rfl
/-! GridQuarrelsModel.number(II)I: method 168; stops [] -/
theorem b_M_number (Ln d : Nat) (σ : mmSt) (x0 x1 : Int) : srun (lyT Ln) ((d + 1), 168, 0, [mR 92, mI x0, mI x1, mJ], [], σ) =
 (bif decide (¬ (σ 92 16) = 0) then
  (bif decide (¬ (σ 92 16) = 0) then
   (bif decide (¬ (σ 92 16) = 0) then
    (Option.bind (srun (lyT Ln) (d, 166, 0, [mR 92, mI 1], [], σ)) (fun y1 =>
    some (y1.1, x0)))
   else
    (Option.bind (srun (lyT Ln) (d, 166, 0, [mR 92, mI 1], [], σ)) (fun y2 =>
    some (y2.1, (σ 92 15)))))
  else
   (Option.bind (srun (lyT Ln) (d, 156, 0, [mL (σ 92 15), mJ, mL x0, mJ, mL x1, mJ], [], σ)) (fun y3 =>
   (bif decide (¬ y3.2 = 0) then
    (bif decide (¬ (y3.1 92 16) = 0) then
     (Option.bind (srun (lyT Ln) (d, 166, 0, [mR 92, mI 1], [], y3.1)) (fun y4 =>
     some (y4.1, x0)))
    else
     (Option.bind (srun (lyT Ln) (d, 166, 0, [mR 92, mI 1], [], y3.1)) (fun y5 =>
     some (y5.1, (y3.1 92 15)))))
   else
    (Option.bind (srun (lyT Ln) (d, 164, 0, [mR 92, mI 2], [], y3.1)) (fun y6 =>
    (bif decide (¬ (y6.1 92 16) = 0) then
     (Option.bind (srun (lyT Ln) (d, 166, 0, [mR 92, mI 1], [], y6.1)) (fun y7 =>
     some (y7.1, x0)))
    else
     (Option.bind (srun (lyT Ln) (d, 166, 0, [mR 92, mI 1], [], y6.1)) (fun y8 =>
     some (y8.1, (y6.1 92 15)))))))))))
 else
  (bif decide ((σ 92 14) = 3) then
   (bif decide (¬ (σ 92 16) = 0) then
    (bif decide (¬ (σ 92 16) = 0) then
     (Option.bind (srun (lyT Ln) (d, 166, 0, [mR 92, mI 1], [], σ)) (fun y9 =>
     some (y9.1, x0)))
    else
     (Option.bind (srun (lyT Ln) (d, 166, 0, [mR 92, mI 1], [], σ)) (fun y10 =>
     some (y10.1, (σ 92 15)))))
   else
    (Option.bind (srun (lyT Ln) (d, 156, 0, [mL (σ 92 15), mJ, mL x0, mJ, mL x1, mJ], [], σ)) (fun y11 =>
    (bif decide (¬ y11.2 = 0) then
     (bif decide (¬ (y11.1 92 16) = 0) then
      (Option.bind (srun (lyT Ln) (d, 166, 0, [mR 92, mI 1], [], y11.1)) (fun y12 =>
      some (y12.1, x0)))
     else
      (Option.bind (srun (lyT Ln) (d, 166, 0, [mR 92, mI 1], [], y11.1)) (fun y13 =>
      some (y13.1, (y11.1 92 15)))))
    else
     (Option.bind (srun (lyT Ln) (d, 164, 0, [mR 92, mI 2], [], y11.1)) (fun y14 =>
     (bif decide (¬ (y14.1 92 16) = 0) then
      (Option.bind (srun (lyT Ln) (d, 166, 0, [mR 92, mI 1], [], y14.1)) (fun y15 =>
      some (y15.1, x0)))
     else
      (Option.bind (srun (lyT Ln) (d, 166, 0, [mR 92, mI 1], [], y14.1)) (fun y16 =>
      some (y16.1, (y14.1 92 15)))))))))))
  else
   (Option.bind (srun (lyT Ln) (d, 164, 0, [mR 92, mI 1], [], σ)) (fun y17 =>
   (bif decide (¬ (y17.1 92 16) = 0) then
    (bif decide (¬ (y17.1 92 16) = 0) then
     (Option.bind (srun (lyT Ln) (d, 166, 0, [mR 92, mI 1], [], y17.1)) (fun y18 =>
     some (y18.1, x0)))
    else
     (Option.bind (srun (lyT Ln) (d, 166, 0, [mR 92, mI 1], [], y17.1)) (fun y19 =>
     some (y19.1, (y17.1 92 15)))))
   else
    (Option.bind (srun (lyT Ln) (d, 156, 0, [mL (y17.1 92 15), mJ, mL x0, mJ, mL x1, mJ], [], y17.1)) (fun y20 =>
    (bif decide (¬ y20.2 = 0) then
     (bif decide (¬ (y20.1 92 16) = 0) then
      (Option.bind (srun (lyT Ln) (d, 166, 0, [mR 92, mI 1], [], y20.1)) (fun y21 =>
      some (y21.1, x0)))
     else
      (Option.bind (srun (lyT Ln) (d, 166, 0, [mR 92, mI 1], [], y20.1)) (fun y22 =>
      some (y22.1, (y20.1 92 15)))))
    else
     (Option.bind (srun (lyT Ln) (d, 164, 0, [mR 92, mI 2], [], y20.1)) (fun y23 =>
     (bif decide (¬ (y23.1 92 16) = 0) then
      (Option.bind (srun (lyT Ln) (d, 166, 0, [mR 92, mI 1], [], y23.1)) (fun y24 =>
      some (y24.1, x0)))
     else
      (Option.bind (srun (lyT Ln) (d, 166, 0, [mR 92, mI 1], [], y23.1)) (fun y25 =>
      some (y25.1, (y23.1 92 15))))))))))))))) := by
  exact (srun_unr _ [] 37 _).trans rfl
/-! GridQuarrelsModel.mustSign(I)V: method 169; stops [] -/
theorem b_M_mustSign (Ln d : Nat) (σ : mmSt) (x0 : Int) : srun (lyT Ln) ((d + 1), 169, 0, [mR 92, mI x0], [], σ) =
 (bif decide (¬ (σ 92 14) = 4) then
  (Option.bind (srun (lyT Ln) (d, 166, 0, [mR 92, mI 0], [], σ)) (fun y1 =>
  some (y1.1, 0)))
 else
  (bif decide (¬ (σ 92 15) = x0) then
   (Option.bind (srun (lyT Ln) (d, 166, 0, [mR 92, mI 0], [], σ)) (fun y2 =>
   some (y2.1, 0)))
  else
   (Option.bind (srun (lyT Ln) (d, 166, 0, [mR 92, mI 1], [], σ)) (fun y3 =>
   some (y3.1, 0))))) := by
  exact (srun_unr _ [] 13 _).trans rfl
/-! GridQuarrelsModel.begin()V: method 170; stops [] -/
theorem b_M_begin (Ln d : Nat) (σ : mmSt) : srun (lyT Ln) ((d + 1), 170, 0, [mR 92], [], σ) =
 (Option.bind (srun (lyT Ln) (d, 165, 0, [mR 92], [], (mup (mup σ 92 12 0) 92 16 0))) (fun y1 =>
 some (y1.1, 0))) := by
  exact (srun_unr _ [] 9 _).trans rfl
/-! GridQuarrelsModel.failed()Z: method 171; stops [] -/
theorem b_M_failed (Ln d : Nat) (σ : mmSt) : srun (lyT Ln) ((d + 1), 171, 0, [mR 92], [], σ) =
 (bif decide (¬ (σ 92 16) = 0) then
  (bif decide (((mup σ 92 11 0) 92 16) ≤ 0) then
   (bif decide (((mup (mup σ 92 11 0) 92 18 ((mup σ 92 11 0) 92 18)) 92 16) ≤ 0) then
    some ((mup (mup σ 92 11 0) 92 18 ((mup σ 92 11 0) 92 18)), 0)
   else
    some ((mup (mup σ 92 11 0) 92 18 ((mup σ 92 11 0) 92 18)), 1))
  else
   (bif decide (((mup (mup σ 92 11 0) 92 18 ((mup σ 92 11 0) 92 16)) 92 16) ≤ 0) then
    some ((mup (mup σ 92 11 0) 92 18 ((mup σ 92 11 0) 92 16)), 0)
   else
    some ((mup (mup σ 92 11 0) 92 18 ((mup σ 92 11 0) 92 16)), 1)))
 else
  (bif decide ((σ 92 14) = 1) then
   (bif decide (((mup σ 92 11 0) 92 16) ≤ 0) then
    (bif decide (((mup (mup σ 92 11 0) 92 18 ((mup σ 92 11 0) 92 18)) 92 16) ≤ 0) then
     some ((mup (mup σ 92 11 0) 92 18 ((mup σ 92 11 0) 92 18)), 0)
    else
     some ((mup (mup σ 92 11 0) 92 18 ((mup σ 92 11 0) 92 18)), 1))
   else
    (bif decide (((mup (mup σ 92 11 0) 92 18 ((mup σ 92 11 0) 92 16)) 92 16) ≤ 0) then
     some ((mup (mup σ 92 11 0) 92 18 ((mup σ 92 11 0) 92 16)), 0)
    else
     some ((mup (mup σ 92 11 0) 92 18 ((mup σ 92 11 0) 92 16)), 1)))
  else
   (Option.bind (srun (lyT Ln) (d, 164, 0, [mR 92, mI 1], [], σ)) (fun y1 =>
   (bif decide (((mup y1.1 92 11 0) 92 16) ≤ 0) then
    (bif decide (((mup (mup y1.1 92 11 0) 92 18 ((mup y1.1 92 11 0) 92 18)) 92 16) ≤ 0) then
     some ((mup (mup y1.1 92 11 0) 92 18 ((mup y1.1 92 11 0) 92 18)), 0)
    else
     some ((mup (mup y1.1 92 11 0) 92 18 ((mup y1.1 92 11 0) 92 18)), 1))
   else
    (bif decide (((mup (mup y1.1 92 11 0) 92 18 ((mup y1.1 92 11 0) 92 16)) 92 16) ≤ 0) then
     some ((mup (mup y1.1 92 11 0) 92 18 ((mup y1.1 92 11 0) 92 16)), 0)
    else
     some ((mup (mup y1.1 92 11 0) 92 18 ((mup y1.1 92 11 0) 92 16)), 1))))))) := by
  exact (srun_unr _ [] 27 _).trans rfl
/-! GridQuarrelsModel.fault()I: method 172; stops [] -/
theorem b_M_fault (Ln d : Nat) (σ : mmSt) : srun (lyT Ln) ((d + 1), 172, 0, [mR 92], [], σ) =
 some ((mup σ 92 0 0), ((mup σ 92 0 0) 92 18)) := by
  exact (srun_unr _ [] 6 _).trans rfl
/-! GridQuarrelsModel.kindBy(I)I: method 173; stops [] -/
theorem b_M_kindBy (Ln d : Nat) (σ : mmSt) (x0 : Int) : srun (lyT Ln) ((d + 1), 173, 0, [mI x0], [], σ) =
 (bif decide (¬ x0 = 112) then
  (bif decide (¬ x0 = 116) then
   (bif decide (¬ x0 = 107) then
    (bif decide (¬ x0 = 98) then
     (bif decide (¬ x0 = 109) then
      some (σ, (-1000000))
     else
      some (σ, 5))
    else
     some (σ, 4))
   else
    some (σ, 3))
  else
   some (σ, 2))
 else
  some (σ, 1)) := by
  exact (srun_unr _ [] 18 _).trans rfl
/-! GridQuarrelsModel.isSort()Z: method 174; stops [] -/
theorem b_M_isSort (Ln d : Nat) (σ : mmSt) : srun (lyT Ln) ((d + 1), 174, 0, [mR 92], [], σ) =
 (bif decide (¬ (σ 92 16) = 0) then
  some (σ, 0)
 else
  (bif decide (¬ (σ 92 14) = 2) then
   some (σ, 0)
  else
   (Option.bind (srun (lyT Ln) (d, 173, 0, [mI (σ 92 15)], [], σ)) (fun y1 =>
   (bif decide (y1.2 = (-1000000)) then
    some (y1.1, 0)
   else
    some (y1.1, 1)))))) := by
  exact (srun_unr _ [] 15 _).trans rfl
/-! GridQuarrelsModel.readRoad()V: method 175; stops [] -/
set_option maxRecDepth 100000 in
theorem b_M_readRoad (Ln d : Nat) (σ : mmSt) : srun (lyT Ln) ((d + 1), 175, 0, [mR 92, mJ, mJ, mJ, mJ], [], σ) =
 (bif decide (¬ (σ 97 1) = 7) then
  (Option.bind (srun (lyT Ln) (d, 167, 0, [mR 92, mI 114], [], σ)) (fun y1 =>
  (Option.bind (srun (lyT Ln) (d, 166, 0, [mR 92, mI y1.2], [], y1.1)) (fun y2 =>
  (Option.bind (srun (lyT Ln) (d, 168, 0, [mR 92, mI 0, mI (mwrap ((y2.1 97 0) - 1)), mJ], [], y2.1)) (fun y3 =>
  (Option.bind (srun (lyT Ln) (d, 169, 0, [mR 92, mI 44], [], y3.1)) (fun y4 =>
  (bif decide (¬ (y4.1 92 16) = 0) then
   (Option.bind (srun (lyT Ln) (d, 168, 0, [mR 92, mI 0, mI (mwrap ((y4.1 97 0) - 1)), mJ], [], y4.1)) (fun y5 =>
   (Option.bind (srun (lyT Ln) (d, 169, 0, [mR 92, mI 44], [], y5.1)) (fun y6 =>
   (Option.bind (srun (lyT Ln) (d, 168, 0, [mR 92, mI 0, mI 9, mJ], [], y6.1)) (fun y7 =>
   (Option.bind (srun (lyT Ln) (d, 169, 0, [mR 92, mI 59], [], y7.1)) (fun y8 =>
   (bif decide (¬ (y8.1 92 16) = 0) then
    some (y8.1, 0)
   else
    (bif minb (mwrap (11 + (mwrap (3 * (y8.1 97 1))))) 52 then
    (bif minb (mwrap ((mwrap (11 + (mwrap (3 * (y8.1 97 1))))) + 1)) 52 then
    (bif minb (mwrap ((mwrap (11 + (mwrap (3 * (y8.1 97 1))))) + 2)) 52 then
    some ((mup (mup (mup (mup y8.1 97 (Int.toNat (mwrap (11 + (mwrap (3 * (y8.1 97 1)))))) y3.2) 97 (Int.toNat (mwrap ((mwrap (11 + (mwrap (3 * (y8.1 97 1))))) + 1))) y5.2) 97 (Int.toNat (mwrap ((mwrap (11 + (mwrap (3 * (y8.1 97 1))))) + 2))) y7.2) 97 1 (mwrap (((mup (mup (mup y8.1 97 (Int.toNat (mwrap (11 + (mwrap (3 * (y8.1 97 1)))))) y3.2) 97 (Int.toNat (mwrap ((mwrap (11 + (mwrap (3 * (y8.1 97 1))))) + 1))) y5.2) 97 (Int.toNat (mwrap ((mwrap (11 + (mwrap (3 * (y8.1 97 1))))) + 2))) y7.2) 97 1) + 1))), 0)
    else none)
    else none)
    else none))))))))))
  else
   (bif decide (¬ (y4.1 92 14) = 3) then
    (Option.bind (srun (lyT Ln) (d, 168, 0, [mR 92, mI 0, mI (mwrap ((y4.1 97 0) - 1)), mJ], [], y4.1)) (fun y9 =>
    (Option.bind (srun (lyT Ln) (d, 169, 0, [mR 92, mI 44], [], y9.1)) (fun y10 =>
    (Option.bind (srun (lyT Ln) (d, 168, 0, [mR 92, mI 0, mI 9, mJ], [], y10.1)) (fun y11 =>
    (Option.bind (srun (lyT Ln) (d, 169, 0, [mR 92, mI 59], [], y11.1)) (fun y12 =>
    (bif decide (¬ (y12.1 92 16) = 0) then
     some (y12.1, 0)
    else
     (bif minb (mwrap (11 + (mwrap (3 * (y12.1 97 1))))) 52 then
     (bif minb (mwrap ((mwrap (11 + (mwrap (3 * (y12.1 97 1))))) + 1)) 52 then
     (bif minb (mwrap ((mwrap (11 + (mwrap (3 * (y12.1 97 1))))) + 2)) 52 then
     some ((mup (mup (mup (mup y12.1 97 (Int.toNat (mwrap (11 + (mwrap (3 * (y12.1 97 1)))))) y3.2) 97 (Int.toNat (mwrap ((mwrap (11 + (mwrap (3 * (y12.1 97 1))))) + 1))) y9.2) 97 (Int.toNat (mwrap ((mwrap (11 + (mwrap (3 * (y12.1 97 1))))) + 2))) y11.2) 97 1 (mwrap (((mup (mup (mup y12.1 97 (Int.toNat (mwrap (11 + (mwrap (3 * (y12.1 97 1)))))) y3.2) 97 (Int.toNat (mwrap ((mwrap (11 + (mwrap (3 * (y12.1 97 1))))) + 1))) y9.2) 97 (Int.toNat (mwrap ((mwrap (11 + (mwrap (3 * (y12.1 97 1))))) + 2))) y11.2) 97 1) + 1))), 0)
     else none)
     else none)
     else none))))))))))
   else
    (bif decide (¬ (y4.1 92 15) = y3.2) then
     (Option.bind (srun (lyT Ln) (d, 168, 0, [mR 92, mI 0, mI (mwrap ((y4.1 97 0) - 1)), mJ], [], y4.1)) (fun y13 =>
     (Option.bind (srun (lyT Ln) (d, 169, 0, [mR 92, mI 44], [], y13.1)) (fun y14 =>
     (Option.bind (srun (lyT Ln) (d, 168, 0, [mR 92, mI 0, mI 9, mJ], [], y14.1)) (fun y15 =>
     (Option.bind (srun (lyT Ln) (d, 169, 0, [mR 92, mI 59], [], y15.1)) (fun y16 =>
     (bif decide (¬ (y16.1 92 16) = 0) then
      some (y16.1, 0)
     else
      (bif minb (mwrap (11 + (mwrap (3 * (y16.1 97 1))))) 52 then
      (bif minb (mwrap ((mwrap (11 + (mwrap (3 * (y16.1 97 1))))) + 1)) 52 then
      (bif minb (mwrap ((mwrap (11 + (mwrap (3 * (y16.1 97 1))))) + 2)) 52 then
      some ((mup (mup (mup (mup y16.1 97 (Int.toNat (mwrap (11 + (mwrap (3 * (y16.1 97 1)))))) y3.2) 97 (Int.toNat (mwrap ((mwrap (11 + (mwrap (3 * (y16.1 97 1))))) + 1))) y13.2) 97 (Int.toNat (mwrap ((mwrap (11 + (mwrap (3 * (y16.1 97 1))))) + 2))) y15.2) 97 1 (mwrap (((mup (mup (mup y16.1 97 (Int.toNat (mwrap (11 + (mwrap (3 * (y16.1 97 1)))))) y3.2) 97 (Int.toNat (mwrap ((mwrap (11 + (mwrap (3 * (y16.1 97 1))))) + 1))) y13.2) 97 (Int.toNat (mwrap ((mwrap (11 + (mwrap (3 * (y16.1 97 1))))) + 2))) y15.2) 97 1) + 1))), 0)
      else none)
      else none)
      else none))))))))))
    else
     (Option.bind (srun (lyT Ln) (d, 164, 0, [mR 92, mI 2], [], y4.1)) (fun y17 =>
     (Option.bind (srun (lyT Ln) (d, 168, 0, [mR 92, mI 0, mI (mwrap ((y17.1 97 0) - 1)), mJ], [], y17.1)) (fun y18 =>
     (Option.bind (srun (lyT Ln) (d, 169, 0, [mR 92, mI 44], [], y18.1)) (fun y19 =>
     (Option.bind (srun (lyT Ln) (d, 168, 0, [mR 92, mI 0, mI 9, mJ], [], y19.1)) (fun y20 =>
     (Option.bind (srun (lyT Ln) (d, 169, 0, [mR 92, mI 59], [], y20.1)) (fun y21 =>
     (bif decide (¬ (y21.1 92 16) = 0) then
      some (y21.1, 0)
     else
      (bif minb (mwrap (11 + (mwrap (3 * (y21.1 97 1))))) 52 then
      (bif minb (mwrap ((mwrap (11 + (mwrap (3 * (y21.1 97 1))))) + 1)) 52 then
      (bif minb (mwrap ((mwrap (11 + (mwrap (3 * (y21.1 97 1))))) + 2)) 52 then
      some ((mup (mup (mup (mup y21.1 97 (Int.toNat (mwrap (11 + (mwrap (3 * (y21.1 97 1)))))) y3.2) 97 (Int.toNat (mwrap ((mwrap (11 + (mwrap (3 * (y21.1 97 1))))) + 1))) y18.2) 97 (Int.toNat (mwrap ((mwrap (11 + (mwrap (3 * (y21.1 97 1))))) + 2))) y20.2) 97 1 (mwrap (((mup (mup (mup y21.1 97 (Int.toNat (mwrap (11 + (mwrap (3 * (y21.1 97 1)))))) y3.2) 97 (Int.toNat (mwrap ((mwrap (11 + (mwrap (3 * (y21.1 97 1))))) + 1))) y18.2) 97 (Int.toNat (mwrap ((mwrap (11 + (mwrap (3 * (y21.1 97 1))))) + 2))) y20.2) 97 1) + 1))), 0)
      else none)
      else none)
      else none)))))))))))))))))))))))
 else
  (Option.bind (srun (lyT Ln) (d, 164, 0, [mR 92, mI 3], [], σ)) (fun y22 =>
  (Option.bind (srun (lyT Ln) (d, 167, 0, [mR 92, mI 114], [], y22.1)) (fun y23 =>
  (Option.bind (srun (lyT Ln) (d, 166, 0, [mR 92, mI y23.2], [], y23.1)) (fun y24 =>
  (Option.bind (srun (lyT Ln) (d, 168, 0, [mR 92, mI 0, mI (mwrap ((y24.1 97 0) - 1)), mJ], [], y24.1)) (fun y25 =>
  (Option.bind (srun (lyT Ln) (d, 169, 0, [mR 92, mI 44], [], y25.1)) (fun y26 =>
  (bif decide (¬ (y26.1 92 16) = 0) then
   (Option.bind (srun (lyT Ln) (d, 168, 0, [mR 92, mI 0, mI (mwrap ((y26.1 97 0) - 1)), mJ], [], y26.1)) (fun y27 =>
   (Option.bind (srun (lyT Ln) (d, 169, 0, [mR 92, mI 44], [], y27.1)) (fun y28 =>
   (Option.bind (srun (lyT Ln) (d, 168, 0, [mR 92, mI 0, mI 9, mJ], [], y28.1)) (fun y29 =>
   (Option.bind (srun (lyT Ln) (d, 169, 0, [mR 92, mI 59], [], y29.1)) (fun y30 =>
   (bif decide (¬ (y30.1 92 16) = 0) then
    some (y30.1, 0)
   else
    (bif minb (mwrap (11 + (mwrap (3 * (y30.1 97 1))))) 52 then
    (bif minb (mwrap ((mwrap (11 + (mwrap (3 * (y30.1 97 1))))) + 1)) 52 then
    (bif minb (mwrap ((mwrap (11 + (mwrap (3 * (y30.1 97 1))))) + 2)) 52 then
    some ((mup (mup (mup (mup y30.1 97 (Int.toNat (mwrap (11 + (mwrap (3 * (y30.1 97 1)))))) y25.2) 97 (Int.toNat (mwrap ((mwrap (11 + (mwrap (3 * (y30.1 97 1))))) + 1))) y27.2) 97 (Int.toNat (mwrap ((mwrap (11 + (mwrap (3 * (y30.1 97 1))))) + 2))) y29.2) 97 1 (mwrap (((mup (mup (mup y30.1 97 (Int.toNat (mwrap (11 + (mwrap (3 * (y30.1 97 1)))))) y25.2) 97 (Int.toNat (mwrap ((mwrap (11 + (mwrap (3 * (y30.1 97 1))))) + 1))) y27.2) 97 (Int.toNat (mwrap ((mwrap (11 + (mwrap (3 * (y30.1 97 1))))) + 2))) y29.2) 97 1) + 1))), 0)
    else none)
    else none)
    else none))))))))))
  else
   (bif decide (¬ (y26.1 92 14) = 3) then
    (Option.bind (srun (lyT Ln) (d, 168, 0, [mR 92, mI 0, mI (mwrap ((y26.1 97 0) - 1)), mJ], [], y26.1)) (fun y31 =>
    (Option.bind (srun (lyT Ln) (d, 169, 0, [mR 92, mI 44], [], y31.1)) (fun y32 =>
    (Option.bind (srun (lyT Ln) (d, 168, 0, [mR 92, mI 0, mI 9, mJ], [], y32.1)) (fun y33 =>
    (Option.bind (srun (lyT Ln) (d, 169, 0, [mR 92, mI 59], [], y33.1)) (fun y34 =>
    (bif decide (¬ (y34.1 92 16) = 0) then
     some (y34.1, 0)
    else
     (bif minb (mwrap (11 + (mwrap (3 * (y34.1 97 1))))) 52 then
     (bif minb (mwrap ((mwrap (11 + (mwrap (3 * (y34.1 97 1))))) + 1)) 52 then
     (bif minb (mwrap ((mwrap (11 + (mwrap (3 * (y34.1 97 1))))) + 2)) 52 then
     some ((mup (mup (mup (mup y34.1 97 (Int.toNat (mwrap (11 + (mwrap (3 * (y34.1 97 1)))))) y25.2) 97 (Int.toNat (mwrap ((mwrap (11 + (mwrap (3 * (y34.1 97 1))))) + 1))) y31.2) 97 (Int.toNat (mwrap ((mwrap (11 + (mwrap (3 * (y34.1 97 1))))) + 2))) y33.2) 97 1 (mwrap (((mup (mup (mup y34.1 97 (Int.toNat (mwrap (11 + (mwrap (3 * (y34.1 97 1)))))) y25.2) 97 (Int.toNat (mwrap ((mwrap (11 + (mwrap (3 * (y34.1 97 1))))) + 1))) y31.2) 97 (Int.toNat (mwrap ((mwrap (11 + (mwrap (3 * (y34.1 97 1))))) + 2))) y33.2) 97 1) + 1))), 0)
     else none)
     else none)
     else none))))))))))
   else
    (bif decide (¬ (y26.1 92 15) = y25.2) then
     (Option.bind (srun (lyT Ln) (d, 168, 0, [mR 92, mI 0, mI (mwrap ((y26.1 97 0) - 1)), mJ], [], y26.1)) (fun y35 =>
     (Option.bind (srun (lyT Ln) (d, 169, 0, [mR 92, mI 44], [], y35.1)) (fun y36 =>
     (Option.bind (srun (lyT Ln) (d, 168, 0, [mR 92, mI 0, mI 9, mJ], [], y36.1)) (fun y37 =>
     (Option.bind (srun (lyT Ln) (d, 169, 0, [mR 92, mI 59], [], y37.1)) (fun y38 =>
     (bif decide (¬ (y38.1 92 16) = 0) then
      some (y38.1, 0)
     else
      (bif minb (mwrap (11 + (mwrap (3 * (y38.1 97 1))))) 52 then
      (bif minb (mwrap ((mwrap (11 + (mwrap (3 * (y38.1 97 1))))) + 1)) 52 then
      (bif minb (mwrap ((mwrap (11 + (mwrap (3 * (y38.1 97 1))))) + 2)) 52 then
      some ((mup (mup (mup (mup y38.1 97 (Int.toNat (mwrap (11 + (mwrap (3 * (y38.1 97 1)))))) y25.2) 97 (Int.toNat (mwrap ((mwrap (11 + (mwrap (3 * (y38.1 97 1))))) + 1))) y35.2) 97 (Int.toNat (mwrap ((mwrap (11 + (mwrap (3 * (y38.1 97 1))))) + 2))) y37.2) 97 1 (mwrap (((mup (mup (mup y38.1 97 (Int.toNat (mwrap (11 + (mwrap (3 * (y38.1 97 1)))))) y25.2) 97 (Int.toNat (mwrap ((mwrap (11 + (mwrap (3 * (y38.1 97 1))))) + 1))) y35.2) 97 (Int.toNat (mwrap ((mwrap (11 + (mwrap (3 * (y38.1 97 1))))) + 2))) y37.2) 97 1) + 1))), 0)
      else none)
      else none)
      else none))))))))))
    else
     (Option.bind (srun (lyT Ln) (d, 164, 0, [mR 92, mI 2], [], y26.1)) (fun y39 =>
     (Option.bind (srun (lyT Ln) (d, 168, 0, [mR 92, mI 0, mI (mwrap ((y39.1 97 0) - 1)), mJ], [], y39.1)) (fun y40 =>
     (Option.bind (srun (lyT Ln) (d, 169, 0, [mR 92, mI 44], [], y40.1)) (fun y41 =>
     (Option.bind (srun (lyT Ln) (d, 168, 0, [mR 92, mI 0, mI 9, mJ], [], y41.1)) (fun y42 =>
     (Option.bind (srun (lyT Ln) (d, 169, 0, [mR 92, mI 59], [], y42.1)) (fun y43 =>
     (bif decide (¬ (y43.1 92 16) = 0) then
      some (y43.1, 0)
     else
      (bif minb (mwrap (11 + (mwrap (3 * (y43.1 97 1))))) 52 then
      (bif minb (mwrap ((mwrap (11 + (mwrap (3 * (y43.1 97 1))))) + 1)) 52 then
      (bif minb (mwrap ((mwrap (11 + (mwrap (3 * (y43.1 97 1))))) + 2)) 52 then
      some ((mup (mup (mup (mup y43.1 97 (Int.toNat (mwrap (11 + (mwrap (3 * (y43.1 97 1)))))) y25.2) 97 (Int.toNat (mwrap ((mwrap (11 + (mwrap (3 * (y43.1 97 1))))) + 1))) y40.2) 97 (Int.toNat (mwrap ((mwrap (11 + (mwrap (3 * (y43.1 97 1))))) + 2))) y42.2) 97 1 (mwrap (((mup (mup (mup y43.1 97 (Int.toNat (mwrap (11 + (mwrap (3 * (y43.1 97 1)))))) y25.2) 97 (Int.toNat (mwrap ((mwrap (11 + (mwrap (3 * (y43.1 97 1))))) + 1))) y40.2) 97 (Int.toNat (mwrap ((mwrap (11 + (mwrap (3 * (y43.1 97 1))))) + 2))) y42.2) 97 1) + 1))), 0)
      else none)
      else none)
      else none)))))))))))))))))))))))))) := by
  exact (srun_unr _ [] 102 _).trans rfl
/-! GridQuarrelsModel.readQuarrel()V: method 176; stops [] -/
set_option maxRecDepth 100000 in
theorem b_M_readQuarrel (Ln d : Nat) (σ : mmSt) : srun (lyT Ln) ((d + 1), 176, 0, [mR 92, mJ, mJ, mJ, mJ, mJ], [], σ) =
 (Option.bind (srun (lyT Ln) (d, 173, 0, [mI (σ 92 15)], [], σ)) (fun y1 =>
 (bif decide (¬ (y1.1 97 2) = 5) then
  (Option.bind (srun (lyT Ln) (d, 166, 0, [mR 92, mI 1], [], y1.1)) (fun y2 =>
  (Option.bind (srun (lyT Ln) (d, 168, 0, [mR 92, mI 0, mI (mwrap ((y2.1 97 0) - 1)), mJ], [], y2.1)) (fun y3 =>
  (Option.bind (srun (lyT Ln) (d, 169, 0, [mR 92, mI 44], [], y3.1)) (fun y4 =>
  (Option.bind (srun (lyT Ln) (d, 168, 0, [mR 92, mI 1, mI 9, mJ], [], y4.1)) (fun y5 =>
  (Option.bind (srun (lyT Ln) (d, 169, 0, [mR 92, mI 44], [], y5.1)) (fun y6 =>
  (Option.bind (srun (lyT Ln) (d, 168, 0, [mR 92, mI 0, mI (mwrap ((y6.1 97 0) - 1)), mJ], [], y6.1)) (fun y7 =>
  (Option.bind (srun (lyT Ln) (d, 169, 0, [mR 92, mI 59], [], y7.1)) (fun y8 =>
  (bif decide (¬ (y8.1 92 16) = 0) then
   some (y8.1, 0)
  else
   (bif minb (mwrap (32 + (mwrap (4 * (y8.1 97 2))))) 52 then
   (bif minb (mwrap ((mwrap (32 + (mwrap (4 * (y8.1 97 2))))) + 1)) 52 then
   (bif minb (mwrap ((mwrap (32 + (mwrap (4 * (y8.1 97 2))))) + 2)) 52 then
   (bif minb (mwrap ((mwrap (32 + (mwrap (4 * (y8.1 97 2))))) + 3)) 52 then
   some ((mup (mup (mup (mup (mup y8.1 97 (Int.toNat (mwrap (32 + (mwrap (4 * (y8.1 97 2)))))) y1.2) 97 (Int.toNat (mwrap ((mwrap (32 + (mwrap (4 * (y8.1 97 2))))) + 1))) y3.2) 97 (Int.toNat (mwrap ((mwrap (32 + (mwrap (4 * (y8.1 97 2))))) + 2))) y5.2) 97 (Int.toNat (mwrap ((mwrap (32 + (mwrap (4 * (y8.1 97 2))))) + 3))) y7.2) 97 2 (mwrap (((mup (mup (mup (mup y8.1 97 (Int.toNat (mwrap (32 + (mwrap (4 * (y8.1 97 2)))))) y1.2) 97 (Int.toNat (mwrap ((mwrap (32 + (mwrap (4 * (y8.1 97 2))))) + 1))) y3.2) 97 (Int.toNat (mwrap ((mwrap (32 + (mwrap (4 * (y8.1 97 2))))) + 2))) y5.2) 97 (Int.toNat (mwrap ((mwrap (32 + (mwrap (4 * (y8.1 97 2))))) + 3))) y7.2) 97 2) + 1))), 0)
   else none)
   else none)
   else none)
   else none))))))))))))))))
 else
  (Option.bind (srun (lyT Ln) (d, 164, 0, [mR 92, mI 3], [], y1.1)) (fun y9 =>
  (Option.bind (srun (lyT Ln) (d, 166, 0, [mR 92, mI 1], [], y9.1)) (fun y10 =>
  (Option.bind (srun (lyT Ln) (d, 168, 0, [mR 92, mI 0, mI (mwrap ((y10.1 97 0) - 1)), mJ], [], y10.1)) (fun y11 =>
  (Option.bind (srun (lyT Ln) (d, 169, 0, [mR 92, mI 44], [], y11.1)) (fun y12 =>
  (Option.bind (srun (lyT Ln) (d, 168, 0, [mR 92, mI 1, mI 9, mJ], [], y12.1)) (fun y13 =>
  (Option.bind (srun (lyT Ln) (d, 169, 0, [mR 92, mI 44], [], y13.1)) (fun y14 =>
  (Option.bind (srun (lyT Ln) (d, 168, 0, [mR 92, mI 0, mI (mwrap ((y14.1 97 0) - 1)), mJ], [], y14.1)) (fun y15 =>
  (Option.bind (srun (lyT Ln) (d, 169, 0, [mR 92, mI 59], [], y15.1)) (fun y16 =>
  (bif decide (¬ (y16.1 92 16) = 0) then
   some (y16.1, 0)
  else
   (bif minb (mwrap (32 + (mwrap (4 * (y16.1 97 2))))) 52 then
   (bif minb (mwrap ((mwrap (32 + (mwrap (4 * (y16.1 97 2))))) + 1)) 52 then
   (bif minb (mwrap ((mwrap (32 + (mwrap (4 * (y16.1 97 2))))) + 2)) 52 then
   (bif minb (mwrap ((mwrap (32 + (mwrap (4 * (y16.1 97 2))))) + 3)) 52 then
   some ((mup (mup (mup (mup (mup y16.1 97 (Int.toNat (mwrap (32 + (mwrap (4 * (y16.1 97 2)))))) y1.2) 97 (Int.toNat (mwrap ((mwrap (32 + (mwrap (4 * (y16.1 97 2))))) + 1))) y11.2) 97 (Int.toNat (mwrap ((mwrap (32 + (mwrap (4 * (y16.1 97 2))))) + 2))) y13.2) 97 (Int.toNat (mwrap ((mwrap (32 + (mwrap (4 * (y16.1 97 2))))) + 3))) y15.2) 97 2 (mwrap (((mup (mup (mup (mup y16.1 97 (Int.toNat (mwrap (32 + (mwrap (4 * (y16.1 97 2)))))) y1.2) 97 (Int.toNat (mwrap ((mwrap (32 + (mwrap (4 * (y16.1 97 2))))) + 1))) y11.2) 97 (Int.toNat (mwrap ((mwrap (32 + (mwrap (4 * (y16.1 97 2))))) + 2))) y13.2) 97 (Int.toNat (mwrap ((mwrap (32 + (mwrap (4 * (y16.1 97 2))))) + 3))) y15.2) 97 2) + 1))), 0)
   else none)
   else none)
   else none)
   else none))))))))))))))))))))) := by
  exact (srun_unr _ [] 97 _).trans rfl
/-! GridQuarrelsModel.county()I: method 177; stops [7, 43, 70, 83, 102] -/
theorem b_M_county (Ln d : Nat) (σ : mmSt) : srun (lyT Ln) ((d + 1), 177, 0, [mR 92, mJ, mJ], [], σ) =
 (Option.bind (srun (lyT Ln) (d, 170, 0, [mR 92], [], (mup σ 92 0 0))) (fun y1 =>
 srun (lyT Ln) ((d + 1), 177, 7, [mR 92, mI 0, mJ], [], y1.1))) := by
  exact (srun_unr _ [7, 43, 70, 83, 102] 7 _).trans rfl
theorem b_M_county_7 (Ln d : Nat) (σ : mmSt) (z1 : Int) : srun (lyT Ln) ((d + 1), 177, 7, [mR 92, mI z1, mJ], [], σ) =
 (bif decide (52 ≤ z1) then
  (Option.bind (srun (lyT Ln) (d, 167, 0, [mR 92, mI 99], [], σ)) (fun y1 =>
  (Option.bind (srun (lyT Ln) (d, 166, 0, [mR 92, mI y1.2], [], y1.1)) (fun y2 =>
  (Option.bind (srun (lyT Ln) (d, 168, 0, [mR 92, mI 2, mI 7, mJ], [], y2.1)) (fun y3 =>
  (Option.bind (srun (lyT Ln) (d, 169, 0, [mR 92, mI 44], [], (mup y3.1 97 0 y3.2))) (fun y4 =>
  (Option.bind (srun (lyT Ln) (d, 168, 0, [mR 92, mI 0, mI 9, mJ], [], y4.1)) (fun y5 =>
  (Option.bind (srun (lyT Ln) (d, 169, 0, [mR 92, mI 59], [], y5.1)) (fun y6 =>
  srun (lyT Ln) ((d + 1), 177, 43, [mR 92, mI y5.2, mI 0], [], y6.1)))))))))))))
 else
  (bif minb z1 52 then
  srun (lyT Ln) ((d + 1), 177, 7, [mR 92, mI (mwrap (z1 + 1)), mJ], [], (mup σ 97 (Int.toNat z1) 0))
  else none)) := by
  exact (srun_unr _ [7, 43, 70, 83, 102] 29 _).trans rfl
theorem b_M_county_43 (Ln d : Nat) (σ : mmSt) (z1 z2 : Int) : srun (lyT Ln) ((d + 1), 177, 43, [mR 92, mI z1, mI z2], [], σ) =
 (bif decide (7 ≤ z2) then
  (Option.bind (srun (lyT Ln) (d, 167, 0, [mR 92, mI 114], [], σ)) (fun y1 =>
  (bif decide (¬ y1.2 = 0) then
   srun (lyT Ln) ((d + 1), 177, 70, [mR 92, mI z1, mI z2], [], y1.1)
  else
   (Option.bind (srun (lyT Ln) (d, 164, 0, [mR 92, mI 1], [], y1.1)) (fun y2 =>
   srun (lyT Ln) ((d + 1), 177, 70, [mR 92, mI z1, mI z2], [], y2.1))))))
 else
  (bif decide ((σ 97 0) ≤ z2) then
   (bif minb (mwrap (4 + z2)) 52 then
   srun (lyT Ln) ((d + 1), 177, 43, [mR 92, mI z1, mI (mwrap (z2 + 1))], [], (mup σ 97 (Int.toNat (mwrap (4 + z2))) 0))
   else none)
  else
   (bif minb (mwrap (4 + z2)) 52 then
   srun (lyT Ln) ((d + 1), 177, 43, [mR 92, mI z1, mI (mwrap (z2 + 1))], [], (mup σ 97 (Int.toNat (mwrap (4 + z2))) z1))
   else none))) := by
  exact (srun_unr _ [7, 43, 70, 83, 102] 19 _).trans rfl
theorem b_M_county_70 (Ln d : Nat) (σ : mmSt) (z1 z2 : Int) : srun (lyT Ln) ((d + 1), 177, 70, [mR 92, mI z1, mI z2], [], σ) =
 (Option.bind (srun (lyT Ln) (d, 167, 0, [mR 92, mI 114], [], σ)) (fun y1 =>
 (bif decide (y1.2 = 0) then
  (Option.bind (srun (lyT Ln) (d, 174, 0, [mR 92], [], y1.1)) (fun y2 =>
  (bif decide (¬ y2.2 = 0) then
   srun (lyT Ln) ((d + 1), 177, 83, [mR 92, mI z1, mI z2], [], y2.1)
  else
   (Option.bind (srun (lyT Ln) (d, 164, 0, [mR 92, mI 1], [], y2.1)) (fun y3 =>
   srun (lyT Ln) ((d + 1), 177, 83, [mR 92, mI z1, mI z2], [], y3.1))))))
 else
  (Option.bind (srun (lyT Ln) (d, 175, 0, [mR 92, mJ, mJ, mJ, mJ], [], y1.1)) (fun y4 =>
  srun (lyT Ln) ((d + 1), 177, 70, [mR 92, mI z1, mI z2], [], y4.1)))))) := by
  exact (srun_unr _ [7, 43, 70, 83, 102] 10 _).trans rfl
theorem b_M_county_83 (Ln d : Nat) (σ : mmSt) (z1 z2 : Int) : srun (lyT Ln) ((d + 1), 177, 83, [mR 92, mI z1, mI z2], [], σ) =
 (Option.bind (srun (lyT Ln) (d, 174, 0, [mR 92], [], σ)) (fun y1 =>
 (bif decide (y1.2 = 0) then
  (Option.bind (srun (lyT Ln) (d, 171, 0, [mR 92], [], y1.1)) (fun y2 =>
  (bif decide (y2.2 = 0) then
   srun (lyT Ln) ((d + 1), 177, 102, [mR 92, mI z1, mI 0], [], (mup y2.1 92 9 0))
  else
   some (y2.1, (mwrap ((-1000100) - (y2.1 92 17)))))))
 else
  (Option.bind (srun (lyT Ln) (d, 176, 0, [mR 92, mJ, mJ, mJ, mJ, mJ], [], y1.1)) (fun y3 =>
  srun (lyT Ln) ((d + 1), 177, 83, [mR 92, mI z1, mI z2], [], y3.1)))))) := by
  exact (srun_unr _ [7, 43, 70, 83, 102] 11 _).trans rfl
theorem b_M_county_102 (Ln d : Nat) (σ : mmSt) (z1 z2 : Int) : srun (lyT Ln) ((d + 1), 177, 102, [mR 92, mI z1, mI z2], [], σ) =
 (bif decide (52 ≤ z2) then
  some (σ, (σ 96 2))
 else
  (bif minb z2 52 then
  (bif minb z2 52 then
  srun (lyT Ln) ((d + 1), 177, 102, [mR 92, mI z1, mI (mwrap (z2 + 1))], [], (mup σ 96 (Int.toNat z2) (σ 97 (Int.toNat z2))))
  else none)
  else none)) := by
  exact (srun_unr _ [7, 43, 70, 83, 102] 13 _).trans rfl
/-! GridQuarrelsModel.isThere()Z: method 178; stops [] -/
theorem b_M_isThere (Ln d : Nat) (σ : mmSt) : srun (lyT Ln) ((d + 1), 178, 0, [mR 92], [], σ) =
 (bif decide ((σ 96 0) ≤ 0) then
  some (σ, 0)
 else
  some (σ, 1)) := by
  exact (srun_unr _ [] 8 _).trans rfl
/-! GridQuarrelsModel.isParish(I)Z: method 179; stops [] -/
theorem b_M_isParish (Ln d : Nat) (σ : mmSt) (x0 : Int) : srun (lyT Ln) ((d + 1), 179, 0, [mR 92, mI x0], [], σ) =
 (Option.bind (srun (lyT Ln) (d, 156, 0, [mL x0, mJ, mL 0, mJ, mL (mwrap ((σ 96 0) - 1)), mJ], [], σ)) (fun y1 =>
 (bif decide (0 ≤ y1.2) && decide (y1.2 ≤ 1) then some (y1.1, y1.2) else none))) := by
  exact (srun_unr _ [] 12 _).trans rfl
/-! GridQuarrelsModel.isRoad(I)Z: method 180; stops [] -/
theorem b_M_isRoad (Ln d : Nat) (σ : mmSt) (x0 : Int) : srun (lyT Ln) ((d + 1), 180, 0, [mR 92, mI x0], [], σ) =
 (Option.bind (srun (lyT Ln) (d, 156, 0, [mL x0, mJ, mL 0, mJ, mL (mwrap ((σ 96 1) - 1)), mJ], [], σ)) (fun y1 =>
 (bif decide (0 ≤ y1.2) && decide (y1.2 ≤ 1) then some (y1.1, y1.2) else none))) := by
  exact (srun_unr _ [] 12 _).trans rfl
/-! GridQuarrelsModel.isQuarrel(I)Z: method 181; stops [] -/
theorem b_M_isQuarrel (Ln d : Nat) (σ : mmSt) (x0 : Int) : srun (lyT Ln) ((d + 1), 181, 0, [mR 92, mI x0], [], σ) =
 (Option.bind (srun (lyT Ln) (d, 156, 0, [mL x0, mJ, mL 0, mJ, mL (mwrap ((σ 96 2) - 1)), mJ], [], σ)) (fun y1 =>
 (bif decide (0 ≤ y1.2) && decide (y1.2 ≤ 1) then some (y1.1, y1.2) else none))) := by
  exact (srun_unr _ [] 12 _).trans rfl
/-! GridQuarrelsModel.bits(I)I: method 182; stops [4] -/
theorem b_M_bits (Ln d : Nat) (σ : mmSt) (x0 : Int) : srun (lyT Ln) ((d + 1), 182, 0, [mI x0, mJ, mJ], [], σ) =
 srun (lyT Ln) ((d + 1), 182, 4, [mI x0, mI 0, mI 0], [], σ) := by
  exact (srun_unr _ [4] 4 _).trans rfl
theorem b_M_bits_4 (Ln d : Nat) (σ : mmSt) (z0 z1 z2 : Int) : srun (lyT Ln) ((d + 1), 182, 4, [mI z0, mI z1, mI z2], [], σ) =
 (bif decide (7 ≤ z2) then
  some (σ, z1)
 else
  srun (lyT Ln) ((d + 1), 182, 4, [mI z0, mI (mwrap (z1 + (mand (mshr z0 z2) 1))), mI (mwrap (z2 + 1))], [], σ)) := by
  exact (srun_unr _ [4] 13 _).trans rfl
/-! GridQuarrelsModel.has(II)Z: method 183; stops [] -/
theorem b_M_has (Ln d : Nat) (σ : mmSt) (x0 x1 : Int) : srun (lyT Ln) ((d + 1), 183, 0, [mI x0, mI x1], [], σ) =
 (bif decide (¬ (mand (mshr x0 x1) 1) = 1) then
  some (σ, 0)
 else
  some (σ, 1)) := by
  exact (srun_unr _ [] 10 _).trans rfl
/-! GridQuarrelsModel.of([III)I: method 184; stops [] -/
theorem b_M_of (Ln d : Nat) (σ : mmSt) (x1 x2 : Int) (r : Nat) (hr : mrow r) : srun (lyT Ln) ((d + 1), 184, 0, [mR r, mI x1, mI x2], [], σ) =
 (bif minb (mwrap ((mwrap (32 + (mwrap (4 * x1)))) + x2)) 52 then
 some (σ, (σ r (Int.toNat (mwrap ((mwrap (32 + (mwrap (4 * x1)))) + x2)))))
 else none) := by
  rcases hr with rfl | rfl <;> exact (srun_unr _ [] 10 _).trans rfl
/-! GridQuarrelsModel.its([III)I: method 185; stops [] -/
theorem b_M_its (Ln d : Nat) (σ : mmSt) (x1 x2 : Int) (r : Nat) (hr : mrow r) : srun (lyT Ln) ((d + 1), 185, 0, [mR r, mI x1, mI x2], [], σ) =
 (bif minb (mwrap ((mwrap (11 + (mwrap (3 * x1)))) + x2)) 52 then
 some (σ, (σ r (Int.toNat (mwrap ((mwrap (11 + (mwrap (3 * x1)))) + x2)))))
 else none) := by
  rcases hr with rfl | rfl <;> exact (srun_unr _ [] 10 _).trans rfl
/-! GridQuarrelsModel.isAlive([II)Z: method 186; stops [] -/
theorem b_M_isAlive (Ln d : Nat) (σ : mmSt) (x1 : Int) (r : Nat) (hr : mrow r) : srun (lyT Ln) ((d + 1), 186, 0, [mR r, mI x1], [], σ) =
 (Option.bind (srun (lyT Ln) (d, 184, 0, [mR r, mI x1, mI 2], [], σ)) (fun y1 =>
 (bif decide (y1.2 ≤ 0) then
  some (y1.1, 0)
 else
  some (y1.1, 1)))) := by
  rcases hr with rfl | rfl <;> exact (srun_unr _ [] 8 _).trans rfl
/-! GridQuarrelsModel.isIn([III)Z: method 187; stops [] -/
theorem b_M_isIn (Ln d : Nat) (σ : mmSt) (x1 x2 : Int) (r : Nat) (hr : mrow r) : srun (lyT Ln) ((d + 1), 187, 0, [mR r, mI x1, mI x2], [], σ) =
 (Option.bind (srun (lyT Ln) (d, 186, 0, [mR r, mI x1], [], σ)) (fun y1 =>
 (bif decide (y1.2 = 0) then
  some (y1.1, 0)
 else
  (Option.bind (srun (lyT Ln) (d, 184, 0, [mR r, mI x1, mI 1], [], y1.1)) (fun y2 =>
  (bif decide (¬ y2.2 = x2) then
   some (y2.1, 0)
  else
   some (y2.1, 1))))))) := by
  rcases hr with rfl | rfl <;> exact (srun_unr _ [] 13 _).trans rfl
/-! GridQuarrelsModel.crosses([III)Z: method 188; stops [] -/
theorem b_M_crosses (Ln d : Nat) (σ : mmSt) (x1 x2 : Int) (r : Nat) (hr : mrow r) : srun (lyT Ln) ((d + 1), 188, 0, [mR r, mI x1, mI x2, mJ, mJ], [], σ) =
 (Option.bind (srun (lyT Ln) (d, 185, 0, [mR r, mI x2, mI 2], [], σ)) (fun y1 =>
 (Option.bind (srun (lyT Ln) (d, 184, 0, [mR r, mI x1, mI 2], [], y1.1)) (fun y2 =>
 (Option.bind (srun (lyT Ln) (d, 184, 0, [mR r, mI x1, mI 0], [], y2.1)) (fun y3 =>
 (bif decide (y3.2 = 2) then
 (bif decide ((mwrap (y2.2 + 3)) ≤ y1.2) then
   some (y3.1, 0)
  else
   some (y3.1, 1))
 else
 (bif decide (y3.2 = 3) then
 (bif decide (¬ y1.2 = 0) then
   some (y3.1, 0)
  else
   some (y3.1, 1))
 else
 (bif decide (y2.2 ≤ y1.2) then
  some (y3.1, 0)
 else
  some (y3.1, 1)))))))))) := by
  rcases hr with rfl | rfl <;> exact (srun_unr _ [] 23 _).trans rfl
/-! GridQuarrelsModel.beyond([III)I: method 189; stops [] -/
theorem b_M_beyond (Ln d : Nat) (σ : mmSt) (x1 x2 : Int) (r : Nat) (hr : mrow r) : srun (lyT Ln) ((d + 1), 189, 0, [mR r, mI x1, mI x2], [], σ) =
 (Option.bind (srun (lyT Ln) (d, 185, 0, [mR r, mI x1, mI 0], [], σ)) (fun y1 =>
 (bif decide (¬ y1.2 = x2) then
  (Option.bind (srun (lyT Ln) (d, 185, 0, [mR r, mI x1, mI 1], [], y1.1)) (fun y2 =>
  (bif decide (¬ y2.2 = x2) then
   some (y2.1, (-1000000))
  else
   (Option.bind (srun (lyT Ln) (d, 185, 0, [mR r, mI x1, mI 0], [], y2.1)) (fun y3 =>
   some (y3.1, y3.2))))))
 else
  (Option.bind (srun (lyT Ln) (d, 185, 0, [mR r, mI x1, mI 1], [], y1.1)) (fun y4 =>
  some (y4.1, y4.2)))))) := by
  rcases hr with rfl | rfl <;> exact (srun_unr _ [] 18 _).trans rfl
/-! GridQuarrelsModel.goes([II)I: method 190; stops [27] -/
theorem b_M_goes (Ln d : Nat) (σ : mmSt) (x1 : Int) (r : Nat) (hr : mrow r) : srun (lyT Ln) ((d + 1), 190, 0, [mR r, mI x1, mJ, mJ, mJ, mJ], [], σ) =
 (Option.bind (srun (lyT Ln) (d, 184, 0, [mR r, mI x1, mI 1], [], σ)) (fun y1 =>
 (Option.bind (srun (lyT Ln) (d, 186, 0, [mR r, mI x1], [], y1.1)) (fun y2 =>
 (bif decide (y2.2 = 0) then
  some (y2.1, y1.2)
 else
  (Option.bind (srun (lyT Ln) (d, 184, 0, [mR r, mI x1, mI 0], [], y2.1)) (fun y3 =>
  (bif decide (y3.2 < 4) then
   srun (lyT Ln) ((d + 1), 190, 27, [mR r, mI x1, mI y1.2, mI y1.2, mI 0, mJ], [], y3.1)
  else
   (bif minb (mwrap (4 + y1.2)) 52 then
   (bif decide ((y3.1 r (Int.toNat (mwrap (4 + y1.2)))) ≤ 0) then
    srun (lyT Ln) ((d + 1), 190, 27, [mR r, mI x1, mI y1.2, mI y1.2, mI 0, mJ], [], y3.1)
   else
    some (y3.1, y1.2))
   else none))))))))) := by
  rcases hr with rfl | rfl <;> exact (srun_unr _ [27] 25 _).trans rfl
theorem b_M_goes_27 (Ln d : Nat) (σ : mmSt) (z1 z2 z3 z4 : Int) (v5 : mmV) (r : Nat) (hr : mrow r) : srun (lyT Ln) ((d + 1), 190, 27, [mR r, mI z1, mI z2, mI z3, mI z4, v5], [], σ) =
 (bif decide ((σ r 1) ≤ z4) then
  some (σ, z3)
 else
  (Option.bind (srun (lyT Ln) (d, 189, 0, [mR r, mI z4, mI z2], [], σ)) (fun y1 =>
  (bif decide (y1.2 = (-1000000)) then
   srun (lyT Ln) ((d + 1), 190, 27, [mR r, mI z1, mI z2, mI z3, mI (mwrap (z4 + 1)), mI y1.2], [], y1.1)
  else
   (Option.bind (srun (lyT Ln) (d, 188, 0, [mR r, mI z1, mI z4, mJ, mJ], [], y1.1)) (fun y2 =>
   (bif decide (y2.2 = 0) then
    srun (lyT Ln) ((d + 1), 190, 27, [mR r, mI z1, mI z2, mI z3, mI (mwrap (z4 + 1)), mI y1.2], [], y2.1)
   else
    (bif minb (mwrap (4 + y1.2)) 52 then
    (bif minb (mwrap (4 + z3)) 52 then
    (bif decide ((y2.1 r (Int.toNat (mwrap (4 + y1.2)))) ≤ (y2.1 r (Int.toNat (mwrap (4 + z3))))) then
     srun (lyT Ln) ((d + 1), 190, 27, [mR r, mI z1, mI z2, mI z3, mI (mwrap (z4 + 1)), mI y1.2], [], y2.1)
    else
     srun (lyT Ln) ((d + 1), 190, 27, [mR r, mI z1, mI z2, mI y1.2, mI (mwrap (z4 + 1)), mI y1.2], [], y2.1))
    else none)
    else none)))))))) := by
  rcases hr with rfl | rfl <;> exact (srun_unr _ [27] 34 _).trans rfl
/-! GridQuarrelsModel.year([I)V: method 191; stops [11] -/
theorem b_M_year (Ln d : Nat) (σ : mmSt) (r : Nat) (hr : mrow r) : srun (lyT Ln) ((d + 1), 191, 0, [mR 92, mR r, mJ, mJ, mJ], [], σ) =
 srun (lyT Ln) ((d + 1), 191, 11, [mR 92, mR r, mI 0, mJ, mJ], [], (mup (mup (mup σ 92 19 0) 92 20 0) 92 21 0)) := by
  rcases hr with rfl | rfl <;> exact (srun_unr _ [11] 11 _).trans rfl
set_option maxRecDepth 100000 in
theorem b_M_year_11 (Ln d : Nat) (σ : mmSt) (z2 : Int) (v3 v4 : mmV) (r : Nat) (hr : mrow r) : srun (lyT Ln) ((d + 1), 191, 11, [mR 92, mR r, mI z2, v3, v4], [], σ) =
 (bif decide ((σ r 2) ≤ z2) then
  some ((mup σ r 3 (mwrap ((σ r 3) + 1))), 0)
 else
  (Option.bind (srun (lyT Ln) (d, 186, 0, [mR r, mI z2], [], σ)) (fun y1 =>
  (bif decide (y1.2 = 0) then
   srun (lyT Ln) ((d + 1), 191, 11, [mR 92, mR r, mI (mwrap (z2 + 1)), v3, v4], [], y1.1)
  else
   (Option.bind (srun (lyT Ln) (d, 190, 0, [mR r, mI z2, mJ, mJ, mJ, mJ], [], y1.1)) (fun y2 =>
   (Option.bind (srun (lyT Ln) (d, 184, 0, [mR r, mI z2, mI 1], [], y2.1)) (fun y3 =>
   (bif decide (y2.2 = y3.2) then
    (bif minb (mwrap ((mwrap (32 + (mwrap (4 * z2)))) + 1)) 52 then
    (Option.bind (srun (lyT Ln) (d, 184, 0, [mR r, mI z2, mI 2], [], (mup (mup y3.1 92 21 (mwrap ((y2.1 92 21) + 0))) r (Int.toNat (mwrap ((mwrap (32 + (mwrap (4 * z2)))) + 1))) y2.2))) (fun y4 =>
    (bif minb (mwrap (4 + y2.2)) 52 then
    (bif decide ((y4.1 r (Int.toNat (mwrap (4 + y2.2)))) ≤ 0) then
     (Option.bind (srun (lyT Ln) (d, 184, 0, [mR r, mI z2, mI 0], [], y4.1)) (fun y5 =>
     (bif decide (¬ y5.2 = 5) then
      (bif minb (mwrap ((mwrap (32 + (mwrap (4 * z2)))) + 2)) 52 then
      srun (lyT Ln) ((d + 1), 191, 11, [mR 92, mR r, mI (mwrap (z2 + 1)), mI y2.2, mI (mwrap (y4.2 - 1))], [], (mup y5.1 r (Int.toNat (mwrap ((mwrap (32 + (mwrap (4 * z2)))) + 2))) (mwrap (y4.2 - 1))))
      else none)
     else
      (bif decide (¬ y4.2 = 1) then
       (bif minb (mwrap ((mwrap (32 + (mwrap (4 * z2)))) + 2)) 52 then
       srun (lyT Ln) ((d + 1), 191, 11, [mR 92, mR r, mI (mwrap (z2 + 1)), mI y2.2, mI (mwrap (y4.2 - 1))], [], (mup y5.1 r (Int.toNat (mwrap ((mwrap (32 + (mwrap (4 * z2)))) + 2))) (mwrap (y4.2 - 1))))
       else none)
      else
       (bif minb (mwrap ((mwrap (32 + (mwrap (4 * z2)))) + 2)) 52 then
       srun (lyT Ln) ((d + 1), 191, 11, [mR 92, mR r, mI (mwrap (z2 + 1)), mI y2.2, mI (mwrap (y4.2 - 0))], [], (mup y5.1 r (Int.toNat (mwrap ((mwrap (32 + (mwrap (4 * z2)))) + 2))) (mwrap (y4.2 - 0))))
       else none)))))
    else
     (bif minb (mwrap (4 + y2.2)) 52 then
     (bif minb (mwrap (4 + y2.2)) 52 then
     (Option.bind (srun (lyT Ln) (d, 184, 0, [mR r, mI z2, mI 0], [], (mup (mup (mup y4.1 r (Int.toNat (mwrap (4 + y2.2))) (mwrap ((y4.1 r (Int.toNat (mwrap (4 + y2.2)))) - 1))) 92 19 (mor ((mup y4.1 r (Int.toNat (mwrap (4 + y2.2))) (mwrap ((y4.1 r (Int.toNat (mwrap (4 + y2.2)))) - 1))) 92 19) (mshl 1 z2))) 92 20 (mor ((mup (mup y4.1 r (Int.toNat (mwrap (4 + y2.2))) (mwrap ((y4.1 r (Int.toNat (mwrap (4 + y2.2)))) - 1))) 92 19 (mor ((mup y4.1 r (Int.toNat (mwrap (4 + y2.2))) (mwrap ((y4.1 r (Int.toNat (mwrap (4 + y2.2)))) - 1))) 92 19) (mshl 1 z2))) 92 20) (mshl 1 y2.2))))) (fun y6 =>
     (bif decide (¬ y6.2 = 3) then
      (bif decide ((mwrap (y4.2 + 1)) ≤ 9) then
       (bif minb (mwrap ((mwrap (32 + (mwrap (4 * z2)))) + 2)) 52 then
       srun (lyT Ln) ((d + 1), 191, 11, [mR 92, mR r, mI (mwrap (z2 + 1)), mI y2.2, mI (mwrap (y4.2 + 1))], [], (mup y6.1 r (Int.toNat (mwrap ((mwrap (32 + (mwrap (4 * z2)))) + 2))) (mwrap (y4.2 + 1))))
       else none)
      else
       (bif minb (mwrap ((mwrap (32 + (mwrap (4 * z2)))) + 2)) 52 then
       srun (lyT Ln) ((d + 1), 191, 11, [mR 92, mR r, mI (mwrap (z2 + 1)), mI y2.2, mI 9], [], (mup y6.1 r (Int.toNat (mwrap ((mwrap (32 + (mwrap (4 * z2)))) + 2))) 9))
       else none))
     else
      (bif decide ((mwrap (y4.2 + 2)) ≤ 9) then
       (bif minb (mwrap ((mwrap (32 + (mwrap (4 * z2)))) + 2)) 52 then
       srun (lyT Ln) ((d + 1), 191, 11, [mR 92, mR r, mI (mwrap (z2 + 1)), mI y2.2, mI (mwrap (y4.2 + 2))], [], (mup y6.1 r (Int.toNat (mwrap ((mwrap (32 + (mwrap (4 * z2)))) + 2))) (mwrap (y4.2 + 2))))
       else none)
      else
       (bif minb (mwrap ((mwrap (32 + (mwrap (4 * z2)))) + 2)) 52 then
       srun (lyT Ln) ((d + 1), 191, 11, [mR 92, mR r, mI (mwrap (z2 + 1)), mI y2.2, mI 9], [], (mup y6.1 r (Int.toNat (mwrap ((mwrap (32 + (mwrap (4 * z2)))) + 2))) 9))
       else none)))))
     else none)
     else none))
    else none)))
    else none)
   else
    (bif minb (mwrap ((mwrap (32 + (mwrap (4 * z2)))) + 1)) 52 then
    (Option.bind (srun (lyT Ln) (d, 184, 0, [mR r, mI z2, mI 2], [], (mup (mup y3.1 92 21 (mwrap ((y2.1 92 21) + 1))) r (Int.toNat (mwrap ((mwrap (32 + (mwrap (4 * z2)))) + 1))) y2.2))) (fun y7 =>
    (bif minb (mwrap (4 + y2.2)) 52 then
    (bif decide ((y7.1 r (Int.toNat (mwrap (4 + y2.2)))) ≤ 0) then
     (Option.bind (srun (lyT Ln) (d, 184, 0, [mR r, mI z2, mI 0], [], y7.1)) (fun y8 =>
     (bif decide (¬ y8.2 = 5) then
      (bif minb (mwrap ((mwrap (32 + (mwrap (4 * z2)))) + 2)) 52 then
      srun (lyT Ln) ((d + 1), 191, 11, [mR 92, mR r, mI (mwrap (z2 + 1)), mI y2.2, mI (mwrap (y7.2 - 1))], [], (mup y8.1 r (Int.toNat (mwrap ((mwrap (32 + (mwrap (4 * z2)))) + 2))) (mwrap (y7.2 - 1))))
      else none)
     else
      (bif decide (¬ y7.2 = 1) then
       (bif minb (mwrap ((mwrap (32 + (mwrap (4 * z2)))) + 2)) 52 then
       srun (lyT Ln) ((d + 1), 191, 11, [mR 92, mR r, mI (mwrap (z2 + 1)), mI y2.2, mI (mwrap (y7.2 - 1))], [], (mup y8.1 r (Int.toNat (mwrap ((mwrap (32 + (mwrap (4 * z2)))) + 2))) (mwrap (y7.2 - 1))))
       else none)
      else
       (bif minb (mwrap ((mwrap (32 + (mwrap (4 * z2)))) + 2)) 52 then
       srun (lyT Ln) ((d + 1), 191, 11, [mR 92, mR r, mI (mwrap (z2 + 1)), mI y2.2, mI (mwrap (y7.2 - 0))], [], (mup y8.1 r (Int.toNat (mwrap ((mwrap (32 + (mwrap (4 * z2)))) + 2))) (mwrap (y7.2 - 0))))
       else none)))))
    else
     (bif minb (mwrap (4 + y2.2)) 52 then
     (bif minb (mwrap (4 + y2.2)) 52 then
     (Option.bind (srun (lyT Ln) (d, 184, 0, [mR r, mI z2, mI 0], [], (mup (mup (mup y7.1 r (Int.toNat (mwrap (4 + y2.2))) (mwrap ((y7.1 r (Int.toNat (mwrap (4 + y2.2)))) - 1))) 92 19 (mor ((mup y7.1 r (Int.toNat (mwrap (4 + y2.2))) (mwrap ((y7.1 r (Int.toNat (mwrap (4 + y2.2)))) - 1))) 92 19) (mshl 1 z2))) 92 20 (mor ((mup (mup y7.1 r (Int.toNat (mwrap (4 + y2.2))) (mwrap ((y7.1 r (Int.toNat (mwrap (4 + y2.2)))) - 1))) 92 19 (mor ((mup y7.1 r (Int.toNat (mwrap (4 + y2.2))) (mwrap ((y7.1 r (Int.toNat (mwrap (4 + y2.2)))) - 1))) 92 19) (mshl 1 z2))) 92 20) (mshl 1 y2.2))))) (fun y9 =>
     (bif decide (¬ y9.2 = 3) then
      (bif decide ((mwrap (y7.2 + 1)) ≤ 9) then
       (bif minb (mwrap ((mwrap (32 + (mwrap (4 * z2)))) + 2)) 52 then
       srun (lyT Ln) ((d + 1), 191, 11, [mR 92, mR r, mI (mwrap (z2 + 1)), mI y2.2, mI (mwrap (y7.2 + 1))], [], (mup y9.1 r (Int.toNat (mwrap ((mwrap (32 + (mwrap (4 * z2)))) + 2))) (mwrap (y7.2 + 1))))
       else none)
      else
       (bif minb (mwrap ((mwrap (32 + (mwrap (4 * z2)))) + 2)) 52 then
       srun (lyT Ln) ((d + 1), 191, 11, [mR 92, mR r, mI (mwrap (z2 + 1)), mI y2.2, mI 9], [], (mup y9.1 r (Int.toNat (mwrap ((mwrap (32 + (mwrap (4 * z2)))) + 2))) 9))
       else none))
     else
      (bif decide ((mwrap (y7.2 + 2)) ≤ 9) then
       (bif minb (mwrap ((mwrap (32 + (mwrap (4 * z2)))) + 2)) 52 then
       srun (lyT Ln) ((d + 1), 191, 11, [mR 92, mR r, mI (mwrap (z2 + 1)), mI y2.2, mI (mwrap (y7.2 + 2))], [], (mup y9.1 r (Int.toNat (mwrap ((mwrap (32 + (mwrap (4 * z2)))) + 2))) (mwrap (y7.2 + 2))))
       else none)
      else
       (bif minb (mwrap ((mwrap (32 + (mwrap (4 * z2)))) + 2)) 52 then
       srun (lyT Ln) ((d + 1), 191, 11, [mR 92, mR r, mI (mwrap (z2 + 1)), mI y2.2, mI 9], [], (mup y9.1 r (Int.toNat (mwrap ((mwrap (32 + (mwrap (4 * z2)))) + 2))) 9))
       else none)))))
     else none)
     else none))
    else none)))
    else none)))))))))) := by
  rcases hr with rfl | rfl <;> exact (srun_unr _ [11] 102 _).trans rfl
/-! GridQuarrelsModel.yearsOf([II)V: method 192; stops [2] -/
theorem b_M_yearsOf (Ln d : Nat) (σ : mmSt) (x1 : Int) (r : Nat) (hr : mrow r) : srun (lyT Ln) ((d + 1), 192, 0, [mR 92, mR r, mI x1, mJ], [], σ) =
 srun (lyT Ln) ((d + 1), 192, 2, [mR 92, mR r, mI x1, mI 0], [], σ) := by
  rcases hr with rfl | rfl <;> exact (srun_unr _ [2] 2 _).trans rfl
theorem b_M_yearsOf_2 (Ln d : Nat) (σ : mmSt) (z2 z3 : Int) (r : Nat) (hr : mrow r) : srun (lyT Ln) ((d + 1), 192, 2, [mR 92, mR r, mI z2, mI z3], [], σ) =
 (bif decide (z2 ≤ z3) then
  some (σ, 0)
 else
  (Option.bind (srun (lyT Ln) (d, 191, 0, [mR 92, mR r, mJ, mJ, mJ], [], σ)) (fun y1 =>
  srun (lyT Ln) ((d + 1), 192, 2, [mR 92, mR r, mI z2, mI (mwrap (z3 + 1))], [], y1.1)))) := by
  rcases hr with rfl | rfl <;> exact (srun_unr _ [2] 8 _).trans rfl
/-! GridQuarrelsModel.layThen()V: method 193; stops [2] -/
theorem b_M_layThen (Ln d : Nat) (σ : mmSt) : srun (lyT Ln) ((d + 1), 193, 0, [mR 92, mJ], [], σ) =
 srun (lyT Ln) ((d + 1), 193, 2, [mR 92, mI 0], [], σ) := by
  exact (srun_unr _ [2] 2 _).trans rfl
theorem b_M_layThen_2 (Ln d : Nat) (σ : mmSt) (z1 : Int) : srun (lyT Ln) ((d + 1), 193, 2, [mR 92, mI z1], [], σ) =
 (bif decide (52 ≤ z1) then
  some (σ, 0)
 else
  (bif minb z1 52 then
  (bif minb z1 52 then
  srun (lyT Ln) ((d + 1), 193, 2, [mR 92, mI (mwrap (z1 + 1))], [], (mup σ 98 (Int.toNat z1) (σ 96 (Int.toNat z1))))
  else none)
  else none)) := by
  exact (srun_unr _ [2] 13 _).trans rfl
/-! GridQuarrelsModel.alive([I)I: method 194; stops [4] -/
theorem b_M_alive (Ln d : Nat) (σ : mmSt) (r : Nat) (hr : mrow r) : srun (lyT Ln) ((d + 1), 194, 0, [mR r, mJ, mJ], [], σ) =
 srun (lyT Ln) ((d + 1), 194, 4, [mR r, mI 0, mI 0], [], σ) := by
  rcases hr with rfl | rfl <;> exact (srun_unr _ [4] 4 _).trans rfl
theorem b_M_alive_4 (Ln d : Nat) (σ : mmSt) (z1 z2 : Int) (r : Nat) (hr : mrow r) : srun (lyT Ln) ((d + 1), 194, 4, [mR r, mI z1, mI z2], [], σ) =
 (bif decide ((σ r 2) ≤ z2) then
  some (σ, z1)
 else
  (Option.bind (srun (lyT Ln) (d, 186, 0, [mR r, mI z2], [], σ)) (fun y1 =>
  (bif decide (y1.2 = 0) then
   srun (lyT Ln) ((d + 1), 194, 4, [mR r, mI (mwrap (z1 + 0)), mI (mwrap (z2 + 1))], [], y1.1)
  else
   srun (lyT Ln) ((d + 1), 194, 4, [mR r, mI (mwrap (z1 + 1)), mI (mwrap (z2 + 1))], [], y1.1))))) := by
  rcases hr with rfl | rfl <;> exact (srun_unr _ [4] 16 _).trans rfl
/-! GridQuarrelsModel.puts([III)V: method 195; stops [] -/
theorem b_M_puts (Ln d : Nat) (σ : mmSt) (x1 x2 : Int) (r : Nat) (hr : mrow r) : srun (lyT Ln) ((d + 1), 195, 0, [mR r, mI x1, mI x2, mJ], [], σ) =
 (bif minb (mwrap (4 + x1)) 52 then
 (bif decide ((mwrap ((σ r (Int.toNat (mwrap (4 + x1)))) + x2)) ≤ 99) then
  (bif minb (mwrap (4 + x1)) 52 then
  some ((mup σ r (Int.toNat (mwrap (4 + x1))) (mwrap ((σ r (Int.toNat (mwrap (4 + x1)))) + x2))), 0)
  else none)
 else
  (bif minb (mwrap (4 + x1)) 52 then
  some ((mup σ r (Int.toNat (mwrap (4 + x1))) 99), 0)
  else none))
 else none) := by
  rcases hr with rfl | rfl <;> exact (srun_unr _ [] 19 _).trans rfl
/-! GridQuarrelsModel.keep()V: method 196; stops [6, 29] -/
theorem b_M_keep (Ln d : Nat) (σ : mmSt) : srun (lyT Ln) ((d + 1), 196, 0, [mR 92, mJ], [], σ) =
 (bif decide (¬ (σ 92 9) = 24) then
  srun (lyT Ln) ((d + 1), 196, 29, [mR 92, mI 0], [], σ)
 else
  srun (lyT Ln) ((d + 1), 196, 6, [mR 92, mI 0], [], σ)) := by
  exact (srun_unr _ [6, 29] 6 _).trans rfl
theorem b_M_keep_6 (Ln d : Nat) (σ : mmSt) (z1 : Int) : srun (lyT Ln) ((d + 1), 196, 6, [mR 92, mI z1], [], σ) =
 (bif decide (1196 ≤ z1) then
  srun (lyT Ln) ((d + 1), 196, 29, [mR 92, mI 0], [], (mup σ 92 9 (mwrap ((σ 92 9) - 1))))
 else
  (bif minb (mwrap (z1 + 52)) 1248 then
  (bif minb z1 1248 then
  srun (lyT Ln) ((d + 1), 196, 6, [mR 92, mI (mwrap (z1 + 1))], [], (mup σ 99 (Int.toNat z1) (σ 99 (Int.toNat (mwrap (z1 + 52))))))
  else none)
  else none)) := by
  exact (srun_unr _ [6, 29] 15 _).trans rfl
theorem b_M_keep_29 (Ln d : Nat) (σ : mmSt) (z1 : Int) : srun (lyT Ln) ((d + 1), 196, 29, [mR 92, mI z1], [], σ) =
 (bif decide (52 ≤ z1) then
  some ((mup σ 92 9 (mwrap ((σ 92 9) + 1))), 0)
 else
  (bif minb z1 52 then
  (bif minb (mwrap ((mwrap (52 * (σ 92 9))) + z1)) 1248 then
  srun (lyT Ln) ((d + 1), 196, 29, [mR 92, mI (mwrap (z1 + 1))], [], (mup σ 99 (Int.toNat (mwrap ((mwrap (52 * (σ 92 9))) + z1))) (σ 96 (Int.toNat z1))))
  else none)
  else none)) := by
  exact (srun_unr _ [6, 29] 18 _).trans rfl
/-! GridQuarrelsModel.years(I)I: method 197; stops [28] -/
theorem b_M_years (Ln d : Nat) (σ : mmSt) (x0 : Int) : srun (lyT Ln) ((d + 1), 197, 0, [mR 92, mI x0, mJ], [], σ) =
 (Option.bind (srun (lyT Ln) (d, 178, 0, [mR 92], [], (mup σ 92 0 0))) (fun y1 =>
 (bif decide (¬ y1.2 = 0) then
  (Option.bind (srun (lyT Ln) (d, 156, 0, [mL x0, mJ, mL 1, mJ, mL 24, mJ], [], y1.1)) (fun y2 =>
  (bif decide (¬ y2.2 = 0) then
   (bif decide ((mwrap ((y2.1 96 3) + x0)) ≤ 999) then
    srun (lyT Ln) ((d + 1), 197, 28, [mR 92, mI x0, mI 0], [], y2.1)
   else
    some (y2.1, (-1000003)))
  else
   some (y2.1, (-1000001)))))
 else
  some (y1.1, (-1000002))))) := by
  exact (srun_unr _ [28] 22 _).trans rfl
theorem b_M_years_28 (Ln d : Nat) (σ : mmSt) (z1 z2 : Int) : srun (lyT Ln) ((d + 1), 197, 28, [mR 92, mI z1, mI z2], [], σ) =
 (bif decide (z1 ≤ z2) then
  (Option.bind (srun (lyT Ln) (d, 194, 0, [mR 96, mJ, mJ], [], σ)) (fun y1 =>
  some (y1.1, y1.2)))
 else
  (Option.bind (srun (lyT Ln) (d, 196, 0, [mR 92, mJ], [], σ)) (fun y2 =>
  (Option.bind (srun (lyT Ln) (d, 191, 0, [mR 92, mR 96, mJ, mJ, mJ], [], y2.1)) (fun y3 =>
  srun (lyT Ln) ((d + 1), 197, 28, [mR 92, mI z1, mI (mwrap (z2 + 1))], [], y3.1)))))) := by
  exact (srun_unr _ [28] 11 _).trans rfl
/-! GridQuarrelsModel.hay(II)I: method 198; stops [] -/
theorem b_M_hay (Ln d : Nat) (σ : mmSt) (x0 x1 : Int) : srun (lyT Ln) ((d + 1), 198, 0, [mR 92, mI x0, mI x1], [], σ) =
 (Option.bind (srun (lyT Ln) (d, 179, 0, [mR 92, mI x0], [], (mup σ 92 0 0))) (fun y1 =>
 (bif decide (y1.2 = 0) then
  some (y1.1, (-1000001))
 else
  (Option.bind (srun (lyT Ln) (d, 156, 0, [mL x1, mJ, mL 1, mJ, mL 9, mJ], [], y1.1)) (fun y2 =>
  (bif decide (¬ y2.2 = 0) then
   (Option.bind (srun (lyT Ln) (d, 196, 0, [mR 92, mJ], [], y2.1)) (fun y3 =>
   (Option.bind (srun (lyT Ln) (d, 195, 0, [mR 96, mI x0, mI x1, mJ], [], y3.1)) (fun y4 =>
   (bif minb (mwrap (4 + x0)) 52 then
   some (y4.1, (y4.1 96 (Int.toNat (mwrap (4 + x0)))))
   else none)))))
  else
   some (y2.1, (-1000001)))))))) := by
  exact (srun_unr _ [] 27 _).trans rfl
/-! GridQuarrelsModel.grid(II)I: method 199; stops [] -/
theorem b_M_grid (Ln d : Nat) (σ : mmSt) (x0 x1 : Int) : srun (lyT Ln) ((d + 1), 199, 0, [mR 92, mI x0, mI x1, mJ], [], σ) =
 (Option.bind (srun (lyT Ln) (d, 180, 0, [mR 92, mI x0], [], (mup σ 92 0 0))) (fun y1 =>
 (bif decide (y1.2 = 0) then
  some (y1.1, (-1000001))
 else
  (Option.bind (srun (lyT Ln) (d, 156, 0, [mL x1, mJ, mL 0, mJ, mL 9, mJ], [], y1.1)) (fun y2 =>
  (bif decide (¬ y2.2 = 0) then
   (Option.bind (srun (lyT Ln) (d, 196, 0, [mR 92, mJ], [], y2.1)) (fun y3 =>
   (Option.bind (srun (lyT Ln) (d, 185, 0, [mR 96, mI x0, mI 2], [], y3.1)) (fun y4 =>
   (bif minb (mwrap ((mwrap (11 + (mwrap (3 * x0)))) + 2)) 52 then
   some ((mup y4.1 96 (Int.toNat (mwrap ((mwrap (11 + (mwrap (3 * x0)))) + 2))) x1), y4.2)
   else none)))))
  else
   some (y2.1, (-1000001)))))))) := by
  exact (srun_unr _ [] 34 _).trans rfl
/-! GridQuarrelsModel.drive(II)I: method 200; stops [] -/
theorem b_M_drive (Ln d : Nat) (σ : mmSt) (x0 x1 : Int) : srun (lyT Ln) ((d + 1), 200, 0, [mR 92, mI x0, mI x1, mJ], [], σ) =
 (Option.bind (srun (lyT Ln) (d, 181, 0, [mR 92, mI x0], [], (mup σ 92 0 0))) (fun y1 =>
 (bif decide (y1.2 = 0) then
  some (y1.1, (-1000001))
 else
  (Option.bind (srun (lyT Ln) (d, 180, 0, [mR 92, mI x1], [], y1.1)) (fun y2 =>
  (bif decide (¬ y2.2 = 0) then
   (Option.bind (srun (lyT Ln) (d, 184, 0, [mR 96, mI x0, mI 1], [], y2.1)) (fun y3 =>
   (Option.bind (srun (lyT Ln) (d, 189, 0, [mR 96, mI x1, mI y3.2], [], y3.1)) (fun y4 =>
   (Option.bind (srun (lyT Ln) (d, 186, 0, [mR 96, mI x0], [], y4.1)) (fun y5 =>
   (bif decide (y5.2 = 0) then
    some (y5.1, (-1000002))
   else
    (bif decide (¬ y4.2 = (-1000000)) then
     (Option.bind (srun (lyT Ln) (d, 196, 0, [mR 92, mJ], [], y5.1)) (fun y6 =>
     (bif minb (mwrap ((mwrap (32 + (mwrap (4 * x0)))) + 1)) 52 then
     some ((mup y6.1 96 (Int.toNat (mwrap ((mwrap (32 + (mwrap (4 * x0)))) + 1))) y4.2), y4.2)
     else none)))
    else
     some (y5.1, (-1000002))))))))))
  else
   some (y2.1, (-1000001)))))))) := by
  exact (srun_unr _ [] 44 _).trans rfl
/-! GridQuarrelsModel.grow(II)I: method 201; stops [] -/
theorem b_M_grow (Ln d : Nat) (σ : mmSt) (x0 x1 : Int) : srun (lyT Ln) ((d + 1), 201, 0, [mR 92, mI x0, mI x1, mJ], [], σ) =
 (Option.bind (srun (lyT Ln) (d, 181, 0, [mR 92, mI x0], [], (mup σ 92 0 0))) (fun y1 =>
 (bif decide (y1.2 = 0) then
  some (y1.1, (-1000001))
 else
  (Option.bind (srun (lyT Ln) (d, 156, 0, [mL x1, mJ, mL 1, mJ, mL 9, mJ], [], y1.1)) (fun y2 =>
  (bif decide (¬ y2.2 = 0) then
   (Option.bind (srun (lyT Ln) (d, 186, 0, [mR 96, mI x0], [], y2.1)) (fun y3 =>
   (bif decide (¬ y3.2 = 0) then
    (Option.bind (srun (lyT Ln) (d, 196, 0, [mR 92, mJ], [], y3.1)) (fun y4 =>
    (Option.bind (srun (lyT Ln) (d, 184, 0, [mR 96, mI x0, mI 2], [], y4.1)) (fun y5 =>
    (bif minb (mwrap ((mwrap (32 + (mwrap (4 * x0)))) + 2)) 52 then
    some ((mup y5.1 96 (Int.toNat (mwrap ((mwrap (32 + (mwrap (4 * x0)))) + 2))) x1), y5.2)
    else none)))))
   else
    some (y3.1, (-1000002)))))
  else
   some (y2.1, (-1000001)))))))) := by
  exact (srun_unr _ [] 39 _).trans rfl
/-! GridQuarrelsModel.undo()I: method 202; stops [16] -/
theorem b_M_undo (Ln d : Nat) (σ : mmSt) : srun (lyT Ln) ((d + 1), 202, 0, [mR 92, mJ], [], σ) =
 (bif decide (¬ ((mup σ 92 0 0) 92 9) = 0) then
  srun (lyT Ln) ((d + 1), 202, 16, [mR 92, mI 0], [], (mup (mup σ 92 0 0) 92 9 (mwrap (((mup σ 92 0 0) 92 9) - 1))))
 else
  some ((mup σ 92 0 0), (-1000002))) := by
  exact (srun_unr _ [16] 14 _).trans rfl
theorem b_M_undo_16 (Ln d : Nat) (σ : mmSt) (z1 : Int) : srun (lyT Ln) ((d + 1), 202, 16, [mR 92, mI z1], [], σ) =
 (bif decide (52 ≤ z1) then
  some (σ, (σ 92 9))
 else
  (bif minb (mwrap ((mwrap (52 * (σ 92 9))) + z1)) 1248 then
  (bif minb z1 52 then
  srun (lyT Ln) ((d + 1), 202, 16, [mR 92, mI (mwrap (z1 + 1))], [], (mup σ 96 (Int.toNat z1) (σ 99 (Int.toNat (mwrap ((mwrap (52 * (σ 92 9))) + z1))))))
  else none)
  else none)) := by
  exact (srun_unr _ [16] 18 _).trans rfl
/-! GridQuarrelsModel.quarrel(II)I: method 203; stops [19] -/
theorem b_M_quarrel (Ln d : Nat) (σ : mmSt) (x0 x1 : Int) : srun (lyT Ln) ((d + 1), 203, 0, [mR 92, mI x0, mI x1, mJ, mJ], [], σ) =
 (Option.bind (srun (lyT Ln) (d, 181, 0, [mR 92, mI x0], [], (mup σ 92 0 0))) (fun y1 =>
 (bif decide (y1.2 = 0) then
  some (y1.1, (-1000001))
 else
  (Option.bind (srun (lyT Ln) (d, 156, 0, [mL x1, mJ, mL 0, mJ, mL 4, mJ], [], y1.1)) (fun y2 =>
  (bif decide (¬ y2.2 = 0) then
   srun (lyT Ln) ((d + 1), 203, 19, [mR 92, mI x0, mI x1, mI 0, mI 0], [], y2.1)
  else
   some (y2.1, (-1000001)))))))) := by
  exact (srun_unr _ [19] 17 _).trans rfl
theorem b_M_quarrel_19 (Ln d : Nat) (σ : mmSt) (z1 z2 z3 z4 : Int) : srun (lyT Ln) ((d + 1), 203, 19, [mR 92, mI z1, mI z2, mI z3, mI z4], [], σ) =
 (bif decide ((σ 96 1) ≤ z4) then
  (bif decide (3 ≤ z2) then
   (bif decide (¬ z2 = 3) then
    (Option.bind (srun (lyT Ln) (d, 190, 0, [mR 96, mI z1, mJ, mJ, mJ, mJ], [], σ)) (fun y1 =>
    some (y1.1, y1.2)))
   else
    some (σ, z3))
  else
   (Option.bind (srun (lyT Ln) (d, 184, 0, [mR 96, mI z1, mI (mwrap (1 + z2))], [], σ)) (fun y2 =>
   some (y2.1, y2.2))))
 else
  (Option.bind (srun (lyT Ln) (d, 186, 0, [mR 96, mI z1], [], σ)) (fun y3 =>
  (bif decide (y3.2 = 0) then
   srun (lyT Ln) ((d + 1), 203, 19, [mR 92, mI z1, mI z2, mI (mor z3 0), mI (mwrap (z4 + 1))], [], y3.1)
  else
   (Option.bind (srun (lyT Ln) (d, 184, 0, [mR 96, mI z1, mI 1], [], y3.1)) (fun y4 =>
   (Option.bind (srun (lyT Ln) (d, 189, 0, [mR 96, mI z4, mI y4.2], [], y4.1)) (fun y5 =>
   (bif decide (y5.2 = (-1000000)) then
    srun (lyT Ln) ((d + 1), 203, 19, [mR 92, mI z1, mI z2, mI (mor z3 0), mI (mwrap (z4 + 1))], [], y5.1)
   else
    (Option.bind (srun (lyT Ln) (d, 188, 0, [mR 96, mI z1, mI z4, mJ, mJ], [], y5.1)) (fun y6 =>
    (bif decide (y6.2 = 0) then
     srun (lyT Ln) ((d + 1), 203, 19, [mR 92, mI z1, mI z2, mI (mor z3 0), mI (mwrap (z4 + 1))], [], y6.1)
    else
     srun (lyT Ln) ((d + 1), 203, 19, [mR 92, mI z1, mI z2, mI (mor z3 (mshl 1 z4)), mI (mwrap (z4 + 1))], [], y6.1))))))))))))) := by
  exact (srun_unr _ [19] 37 _).trans rfl
/-! GridQuarrelsModel.road(II)I: method 204; stops [] -/
theorem b_M_road (Ln d : Nat) (σ : mmSt) (x0 x1 : Int) : srun (lyT Ln) ((d + 1), 204, 0, [mR 92, mI x0, mI x1], [], σ) =
 (Option.bind (srun (lyT Ln) (d, 180, 0, [mR 92, mI x0], [], (mup σ 92 0 0))) (fun y1 =>
 (bif decide (y1.2 = 0) then
  some (y1.1, (-1000001))
 else
  (Option.bind (srun (lyT Ln) (d, 156, 0, [mL x1, mJ, mL 0, mJ, mL 2, mJ], [], y1.1)) (fun y2 =>
  (bif decide (y2.2 = 0) then
   some (y2.1, (-1000001))
  else
   (Option.bind (srun (lyT Ln) (d, 185, 0, [mR 96, mI x0, mI x1], [], y2.1)) (fun y3 =>
   some (y3.1, y3.2))))))))) := by
  exact (srun_unr _ [] 20 _).trans rfl
/-! GridQuarrelsModel.parish(II)I: method 205; stops [19] -/
theorem b_M_parish (Ln d : Nat) (σ : mmSt) (x0 x1 : Int) : srun (lyT Ln) ((d + 1), 205, 0, [mR 92, mI x0, mI x1, mJ, mJ, mJ], [], σ) =
 (Option.bind (srun (lyT Ln) (d, 179, 0, [mR 92, mI x0], [], (mup σ 92 0 0))) (fun y1 =>
 (bif decide (y1.2 = 0) then
  some (y1.1, (-1000001))
 else
  (Option.bind (srun (lyT Ln) (d, 156, 0, [mL x1, mJ, mL 0, mJ, mL 2, mJ], [], y1.1)) (fun y2 =>
  (bif decide (¬ y2.2 = 0) then
   srun (lyT Ln) ((d + 1), 205, 19, [mR 92, mI x0, mI x1, mI 0, mI 0, mJ], [], y2.1)
  else
   some (y2.1, (-1000001)))))))) := by
  exact (srun_unr _ [19] 17 _).trans rfl
theorem b_M_parish_19 (Ln d : Nat) (σ : mmSt) (z1 z2 z3 z4 : Int) (v5 : mmV) : srun (lyT Ln) ((d + 1), 205, 19, [mR 92, mI z1, mI z2, mI z3, mI z4, v5], [], σ) =
 (bif decide (7 ≤ z4) then
  (bif decide (¬ z2 = 0) then
   some (σ, z3)
  else
   (bif minb (mwrap (4 + z1)) 52 then
   some (σ, (σ 96 (Int.toNat (mwrap (4 + z1)))))
   else none))
 else
  (bif decide (¬ z2 = 1) then
   (bif decide ((σ 96 1) ≤ z4) then
    srun (lyT Ln) ((d + 1), 205, 19, [mR 92, mI z1, mI z2, mI (mor z3 0), mI (mwrap (z4 + 1)), mI 0], [], σ)
   else
    (Option.bind (srun (lyT Ln) (d, 189, 0, [mR 96, mI z4, mI z1], [], σ)) (fun y1 =>
    (bif decide (y1.2 = (-1000000)) then
     srun (lyT Ln) ((d + 1), 205, 19, [mR 92, mI z1, mI z2, mI (mor z3 0), mI (mwrap (z4 + 1)), mI 0], [], y1.1)
    else
     srun (lyT Ln) ((d + 1), 205, 19, [mR 92, mI z1, mI z2, mI (mor z3 (mshl 1 z4)), mI (mwrap (z4 + 1)), mI 1], [], y1.1)))))
  else
   (bif decide ((σ 96 2) ≤ z4) then
    srun (lyT Ln) ((d + 1), 205, 19, [mR 92, mI z1, mI z2, mI (mor z3 0), mI (mwrap (z4 + 1)), mI 0], [], σ)
   else
    (Option.bind (srun (lyT Ln) (d, 187, 0, [mR 96, mI z4, mI z1], [], σ)) (fun y2 =>
    (bif decide (y2.2 = 0) then
     srun (lyT Ln) ((d + 1), 205, 19, [mR 92, mI z1, mI z2, mI (mor z3 0), mI (mwrap (z4 + 1)), mI 0], [], y2.1)
    else
     srun (lyT Ln) ((d + 1), 205, 19, [mR 92, mI z1, mI z2, mI (mor z3 (mshl 1 z4)), mI (mwrap (z4 + 1)), mI 1], [], y2.1))))))) := by
  exact (srun_unr _ [19] 33 _).trans rfl
/-! GridQuarrelsModel.ahead(III)I: method 206; stops [] -/
theorem b_M_ahead (Ln d : Nat) (σ : mmSt) (x0 x1 x2 : Int) : srun (lyT Ln) ((d + 1), 206, 0, [mR 92, mI x0, mI x1, mI x2], [], σ) =
 (Option.bind (srun (lyT Ln) (d, 181, 0, [mR 92, mI x0], [], (mup σ 92 0 0))) (fun y1 =>
 (bif decide (y1.2 = 0) then
  some (y1.1, (-1000001))
 else
  (Option.bind (srun (lyT Ln) (d, 156, 0, [mL x1, mJ, mL 0, mJ, mL 60, mJ], [], y1.1)) (fun y2 =>
  (bif decide (y2.2 = 0) then
   some (y2.1, (-1000001))
  else
   (Option.bind (srun (lyT Ln) (d, 156, 0, [mL x2, mJ, mL 0, mJ, mL 1, mJ], [], y2.1)) (fun y3 =>
   (bif decide (¬ y3.2 = 0) then
    (Option.bind (srun (lyT Ln) (d, 193, 0, [mR 92, mJ], [], y3.1)) (fun y4 =>
    (Option.bind (srun (lyT Ln) (d, 192, 0, [mR 92, mR 98, mI x1, mJ], [], y4.1)) (fun y5 =>
    (Option.bind (srun (lyT Ln) (d, 184, 0, [mR 98, mI x0, mI (mwrap (1 + x2))], [], y5.1)) (fun y6 =>
    some (y6.1, y6.2)))))))
   else
    some (y3.1, (-1000001))))))))))) := by
  exact (srun_unr _ [] 34 _).trans rfl
/-! GridQuarrelsModel.hayAhead(II)I: method 207; stops [] -/
theorem b_M_hayAhead (Ln d : Nat) (σ : mmSt) (x0 x1 : Int) : srun (lyT Ln) ((d + 1), 207, 0, [mR 92, mI x0, mI x1], [], σ) =
 (Option.bind (srun (lyT Ln) (d, 179, 0, [mR 92, mI x0], [], (mup σ 92 0 0))) (fun y1 =>
 (bif decide (y1.2 = 0) then
  some (y1.1, (-1000001))
 else
  (Option.bind (srun (lyT Ln) (d, 156, 0, [mL x1, mJ, mL 0, mJ, mL 60, mJ], [], y1.1)) (fun y2 =>
  (bif decide (¬ y2.2 = 0) then
   (Option.bind (srun (lyT Ln) (d, 193, 0, [mR 92, mJ], [], y2.1)) (fun y3 =>
   (Option.bind (srun (lyT Ln) (d, 192, 0, [mR 92, mR 98, mI x1, mJ], [], y3.1)) (fun y4 =>
   (bif minb (mwrap (4 + x0)) 52 then
   some (y4.1, (y4.1 98 (Int.toNat (mwrap (4 + x0)))))
   else none)))))
  else
   some (y2.1, (-1000001)))))))) := by
  exact (srun_unr _ [] 27 _).trans rfl
/-! GridQuarrelsModel.diesBy(I)I: method 208; stops [2] -/
theorem b_M_diesBy (Ln d : Nat) (σ : mmSt) (x0 : Int) : srun (lyT Ln) ((d + 1), 208, 0, [mR 92, mI x0, mJ], [], σ) =
 srun (lyT Ln) ((d + 1), 208, 2, [mR 92, mI x0, mI 0], [], σ) := by
  exact (srun_unr _ [2] 2 _).trans rfl
theorem b_M_diesBy_2 (Ln d : Nat) (σ : mmSt) (z1 z2 : Int) : srun (lyT Ln) ((d + 1), 208, 2, [mR 92, mI z1, mI z2], [], σ) =
 (bif decide (60 < z2) then
  some (σ, (-1000000))
 else
  (Option.bind (srun (lyT Ln) (d, 186, 0, [mR 98, mI z1], [], σ)) (fun y1 =>
  (bif decide (¬ y1.2 = 0) then
   (Option.bind (srun (lyT Ln) (d, 191, 0, [mR 92, mR 98, mJ, mJ, mJ], [], y1.1)) (fun y2 =>
   srun (lyT Ln) ((d + 1), 208, 2, [mR 92, mI z1, mI (mwrap (z2 + 1))], [], y2.1)))
  else
   some (y1.1, z2))))) := by
  exact (srun_unr _ [2] 14 _).trans rfl
/-! GridQuarrelsModel.dies(I)I: method 209; stops [] -/
theorem b_M_dies (Ln d : Nat) (σ : mmSt) (x0 : Int) : srun (lyT Ln) ((d + 1), 209, 0, [mR 92, mI x0], [], σ) =
 (Option.bind (srun (lyT Ln) (d, 181, 0, [mR 92, mI x0], [], (mup σ 92 0 0))) (fun y1 =>
 (bif decide (¬ y1.2 = 0) then
  (Option.bind (srun (lyT Ln) (d, 193, 0, [mR 92, mJ], [], y1.1)) (fun y2 =>
  (Option.bind (srun (lyT Ln) (d, 208, 0, [mR 92, mI x0, mJ], [], y2.1)) (fun y3 =>
  some (y3.1, y3.2)))))
 else
  some (y1.1, (-1000001))))) := by
  exact (srun_unr _ [] 13 _).trans rfl
/-! GridQuarrelsModel.comes(II)I: method 210; stops [17] -/
theorem b_M_comes (Ln d : Nat) (σ : mmSt) (x0 x1 : Int) : srun (lyT Ln) ((d + 1), 210, 0, [mR 92, mI x0, mI x1, mJ], [], σ) =
 (Option.bind (srun (lyT Ln) (d, 181, 0, [mR 92, mI x0], [], (mup σ 92 0 0))) (fun y1 =>
 (bif decide (y1.2 = 0) then
  some (y1.1, (-1000001))
 else
  (Option.bind (srun (lyT Ln) (d, 179, 0, [mR 92, mI x1], [], y1.1)) (fun y2 =>
  (bif decide (¬ y2.2 = 0) then
   (Option.bind (srun (lyT Ln) (d, 193, 0, [mR 92, mJ], [], y2.1)) (fun y3 =>
   srun (lyT Ln) ((d + 1), 210, 17, [mR 92, mI x0, mI x1, mI 0], [], y3.1)))
  else
   some (y2.1, (-1000001)))))))) := by
  exact (srun_unr _ [17] 15 _).trans rfl
theorem b_M_comes_17 (Ln d : Nat) (σ : mmSt) (z1 z2 z3 : Int) : srun (lyT Ln) ((d + 1), 210, 17, [mR 92, mI z1, mI z2, mI z3], [], σ) =
 (bif decide (60 < z3) then
  some (σ, (-1000000))
 else
  (Option.bind (srun (lyT Ln) (d, 187, 0, [mR 98, mI z1, mI z2], [], σ)) (fun y1 =>
  (bif decide (y1.2 = 0) then
   (Option.bind (srun (lyT Ln) (d, 191, 0, [mR 92, mR 98, mJ, mJ, mJ], [], y1.1)) (fun y2 =>
   srun (lyT Ln) ((d + 1), 210, 17, [mR 92, mI z1, mI z2, mI (mwrap (z3 + 1))], [], y2.1)))
  else
   some (y1.1, z3))))) := by
  exact (srun_unr _ [17] 15 _).trans rfl
/-! GridQuarrelsModel.meet(II)I: method 211; stops [20] -/
theorem b_M_meet (Ln d : Nat) (σ : mmSt) (x0 x1 : Int) : srun (lyT Ln) ((d + 1), 211, 0, [mR 92, mI x0, mI x1, mJ], [], σ) =
 (Option.bind (srun (lyT Ln) (d, 181, 0, [mR 92, mI x0], [], (mup σ 92 0 0))) (fun y1 =>
 (bif decide (y1.2 = 0) then
  some (y1.1, (-1000001))
 else
  (Option.bind (srun (lyT Ln) (d, 181, 0, [mR 92, mI x1], [], y1.1)) (fun y2 =>
  (bif decide (y2.2 = 0) then
   some (y2.1, (-1000001))
  else
   (bif decide (¬ x0 = x1) then
    (Option.bind (srun (lyT Ln) (d, 193, 0, [mR 92, mJ], [], y2.1)) (fun y3 =>
    srun (lyT Ln) ((d + 1), 211, 20, [mR 92, mI x0, mI x1, mI 0], [], y3.1)))
   else
    some (y2.1, (-1000001))))))))) := by
  exact (srun_unr _ [20] 18 _).trans rfl
theorem b_M_meet_20 (Ln d : Nat) (σ : mmSt) (z1 z2 z3 : Int) : srun (lyT Ln) ((d + 1), 211, 20, [mR 92, mI z1, mI z2, mI z3], [], σ) =
 (bif decide (60 < z3) then
  some (σ, (-1000000))
 else
  (Option.bind (srun (lyT Ln) (d, 186, 0, [mR 98, mI z1], [], σ)) (fun y1 =>
  (bif decide (y1.2 = 0) then
   (Option.bind (srun (lyT Ln) (d, 191, 0, [mR 92, mR 98, mJ, mJ, mJ], [], y1.1)) (fun y2 =>
   srun (lyT Ln) ((d + 1), 211, 20, [mR 92, mI z1, mI z2, mI (mwrap (z3 + 1))], [], y2.1)))
  else
   (Option.bind (srun (lyT Ln) (d, 184, 0, [mR 98, mI z1, mI 1], [], y1.1)) (fun y3 =>
   (Option.bind (srun (lyT Ln) (d, 187, 0, [mR 98, mI z2, mI y3.2], [], y3.1)) (fun y4 =>
   (bif decide (y4.2 = 0) then
    (Option.bind (srun (lyT Ln) (d, 191, 0, [mR 92, mR 98, mJ, mJ, mJ], [], y4.1)) (fun y5 =>
    srun (lyT Ln) ((d + 1), 211, 20, [mR 92, mI z1, mI z2, mI (mwrap (z3 + 1))], [], y5.1)))
   else
    some (y4.1, z3)))))))))) := by
  exact (srun_unr _ [20] 24 _).trans rfl
/-! GridQuarrelsModel.grazed(I)I: method 212; stops [22] -/
theorem b_M_grazed (Ln d : Nat) (σ : mmSt) (x0 : Int) : srun (lyT Ln) ((d + 1), 212, 0, [mR 92, mI x0, mJ, mJ], [], σ) =
 (Option.bind (srun (lyT Ln) (d, 178, 0, [mR 92], [], (mup σ 92 0 0))) (fun y1 =>
 (bif decide (¬ y1.2 = 0) then
  (Option.bind (srun (lyT Ln) (d, 156, 0, [mL x0, mJ, mL 1, mJ, mL 60, mJ], [], y1.1)) (fun y2 =>
  (bif decide (¬ y2.2 = 0) then
   (Option.bind (srun (lyT Ln) (d, 193, 0, [mR 92, mJ], [], y2.1)) (fun y3 =>
   srun (lyT Ln) ((d + 1), 212, 22, [mR 92, mI x0, mI 0, mI 0], [], y3.1)))
  else
   some (y2.1, (-1000001)))))
 else
  some (y1.1, (-1000002))))) := by
  exact (srun_unr _ [22] 18 _).trans rfl
theorem b_M_grazed_22 (Ln d : Nat) (σ : mmSt) (z1 z2 z3 : Int) : srun (lyT Ln) ((d + 1), 212, 22, [mR 92, mI z1, mI z2, mI z3], [], σ) =
 (bif decide (z1 ≤ z3) then
  some (σ, z2)
 else
  (Option.bind (srun (lyT Ln) (d, 191, 0, [mR 92, mR 98, mJ, mJ, mJ], [], σ)) (fun y1 =>
  srun (lyT Ln) ((d + 1), 212, 22, [mR 92, mI z1, mI (mor z2 (y1.1 92 20)), mI (mwrap (z3 + 1))], [], y1.1)))) := by
  exact (srun_unr _ [22] 14 _).trans rfl
/-! GridQuarrelsModel.shuts(III)I: method 213; stops [25, 45, 78, 89] -/
theorem b_M_shuts (Ln d : Nat) (σ : mmSt) (x0 x1 x2 : Int) : srun (lyT Ln) ((d + 1), 213, 0, [mR 92, mI x0, mI x1, mI x2, mJ, mJ, mJ, mJ, mJ], [], σ) =
 (Option.bind (srun (lyT Ln) (d, 179, 0, [mR 92, mI x0], [], (mup σ 92 0 0))) (fun y1 =>
 (bif decide (y1.2 = 0) then
  some (y1.1, (-1000001))
 else
  (Option.bind (srun (lyT Ln) (d, 156, 0, [mL x1, mJ, mL 1, mJ, mL 30, mJ], [], y1.1)) (fun y2 =>
  (bif decide (y2.2 = 0) then
   some (y2.1, (-1000001))
  else
   (Option.bind (srun (lyT Ln) (d, 156, 0, [mL x2, mJ, mL 0, mJ, mL 1, mJ], [], y2.1)) (fun y3 =>
   (bif decide (¬ y3.2 = 0) then
    srun (lyT Ln) ((d + 1), 213, 25, [mR 92, mI x0, mI x1, mI x2, mI (-1000000), mI 0, mJ, mJ, mJ], [], y3.1)
   else
    some (y3.1, (-1000001))))))))))) := by
  exact (srun_unr _ [25, 45, 78, 89] 23 _).trans rfl
theorem b_M_shuts_25 (Ln d : Nat) (σ : mmSt) (z1 z2 z3 z4 z5 : Int) (v6 v7 v8 : mmV) : srun (lyT Ln) ((d + 1), 213, 25, [mR 92, mI z1, mI z2, mI z3, mI z4, mI z5, v6, v7, v8], [], σ) =
 (bif decide ((mshl 1 (σ 96 1)) ≤ z5) then
  (bif decide (z4 = (-1000000)) then
   some (σ, z4)
  else
   (bif decide (¬ z3 = 1) then
    (Option.bind (srun (lyT Ln) (d, 182, 0, [mI z4, mJ, mJ], [], σ)) (fun y1 =>
    some (y1.1, y1.2)))
   else
    some (σ, z4)))
 else
  (bif decide (z4 = (-1000000)) then
   (Option.bind (srun (lyT Ln) (d, 193, 0, [mR 92, mJ], [], σ)) (fun y2 =>
   srun (lyT Ln) ((d + 1), 213, 45, [mR 92, mI z1, mI z2, mI z3, mI z4, mI z5, mI 0, v7, v8], [], y2.1)))
  else
   (Option.bind (srun (lyT Ln) (d, 182, 0, [mI z5, mJ, mJ], [], σ)) (fun y3 =>
   (Option.bind (srun (lyT Ln) (d, 182, 0, [mI z4, mJ, mJ], [], y3.1)) (fun y4 =>
   (bif decide (y4.2 ≤ y3.2) then
    srun (lyT Ln) ((d + 1), 213, 25, [mR 92, mI z1, mI z2, mI z3, mI z4, mI (mwrap (z5 + 1)), v6, v7, v8], [], y4.1)
   else
    (Option.bind (srun (lyT Ln) (d, 193, 0, [mR 92, mJ], [], y4.1)) (fun y5 =>
    srun (lyT Ln) ((d + 1), 213, 45, [mR 92, mI z1, mI z2, mI z3, mI z4, mI z5, mI 0, v7, v8], [], y5.1)))))))))) := by
  exact (srun_unr _ [25, 45, 78, 89] 20 _).trans rfl
theorem b_M_shuts_45 (Ln d : Nat) (σ : mmSt) (z1 z2 z3 z4 z5 z6 : Int) (v7 v8 : mmV) : srun (lyT Ln) ((d + 1), 213, 45, [mR 92, mI z1, mI z2, mI z3, mI z4, mI z5, mI z6, v7, v8], [], σ) =
 (bif decide ((σ 96 1) ≤ z6) then
  srun (lyT Ln) ((d + 1), 213, 78, [mR 92, mI z1, mI z2, mI z3, mI z4, mI z5, mI 1, mI 0, v8], [], σ)
 else
  (Option.bind (srun (lyT Ln) (d, 183, 0, [mI z5, mI z6], [], σ)) (fun y1 =>
  (bif decide (y1.2 = 0) then
   (Option.bind (srun (lyT Ln) (d, 185, 0, [mR 96, mI z6, mI 2], [], y1.1)) (fun y2 =>
   (bif minb (mwrap ((mwrap (11 + (mwrap (3 * z6)))) + 2)) 52 then
   srun (lyT Ln) ((d + 1), 213, 45, [mR 92, mI z1, mI z2, mI z3, mI z4, mI z5, mI (mwrap (z6 + 1)), v7, v8], [], (mup y2.1 98 (Int.toNat (mwrap ((mwrap (11 + (mwrap (3 * z6)))) + 2))) y2.2))
   else none)))
  else
   (bif minb (mwrap ((mwrap (11 + (mwrap (3 * z6)))) + 2)) 52 then
   srun (lyT Ln) ((d + 1), 213, 45, [mR 92, mI z1, mI z2, mI z3, mI z4, mI z5, mI (mwrap (z6 + 1)), v7, v8], [], (mup y1.1 98 (Int.toNat (mwrap ((mwrap (11 + (mwrap (3 * z6)))) + 2))) 12))
   else none))))) := by
  exact (srun_unr _ [25, 45, 78, 89] 27 _).trans rfl
theorem b_M_shuts_78 (Ln d : Nat) (σ : mmSt) (z1 z2 z3 z4 z5 z6 z7 : Int) (v8 : mmV) : srun (lyT Ln) ((d + 1), 213, 78, [mR 92, mI z1, mI z2, mI z3, mI z4, mI z5, mI z6, mI z7, v8], [], σ) =
 (bif decide (z2 ≤ z7) then
  (bif decide (z6 = 0) then
   srun (lyT Ln) ((d + 1), 213, 25, [mR 92, mI z1, mI z2, mI z3, mI z4, mI (mwrap (z5 + 1)), mI z6, mI z7, v8], [], σ)
  else
   srun (lyT Ln) ((d + 1), 213, 25, [mR 92, mI z1, mI z2, mI z3, mI z5, mI (mwrap (z5 + 1)), mI z6, mI z7, v8], [], σ))
 else
  (bif decide (z6 = 0) then
   (bif decide (z6 = 0) then
    srun (lyT Ln) ((d + 1), 213, 25, [mR 92, mI z1, mI z2, mI z3, mI z4, mI (mwrap (z5 + 1)), mI z6, mI z7, v8], [], σ)
   else
    srun (lyT Ln) ((d + 1), 213, 25, [mR 92, mI z1, mI z2, mI z3, mI z5, mI (mwrap (z5 + 1)), mI z6, mI z7, v8], [], σ))
  else
   (Option.bind (srun (lyT Ln) (d, 191, 0, [mR 92, mR 98, mJ, mJ, mJ], [], σ)) (fun y1 =>
   srun (lyT Ln) ((d + 1), 213, 89, [mR 92, mI z1, mI z2, mI z3, mI z4, mI z5, mI z6, mI z7, mI 0], [], y1.1))))) := by
  exact (srun_unr _ [25, 45, 78, 89] 12 _).trans rfl
theorem b_M_shuts_89 (Ln d : Nat) (σ : mmSt) (z1 z2 z3 z4 z5 z6 z7 z8 : Int) : srun (lyT Ln) ((d + 1), 213, 89, [mR 92, mI z1, mI z2, mI z3, mI z4, mI z5, mI z6, mI z7, mI z8], [], σ) =
 (bif decide ((σ 96 2) ≤ z8) then
  srun (lyT Ln) ((d + 1), 213, 78, [mR 92, mI z1, mI z2, mI z3, mI z4, mI z5, mI z6, mI (mwrap (z7 + 1)), mI z8], [], σ)
 else
  (bif decide (z6 = 0) then
   srun (lyT Ln) ((d + 1), 213, 89, [mR 92, mI z1, mI z2, mI z3, mI z4, mI z5, mI 0, mI z7, mI (mwrap (z8 + 1))], [], σ)
  else
   (Option.bind (srun (lyT Ln) (d, 187, 0, [mR 96, mI z8, mI z1], [], σ)) (fun y1 =>
   (bif decide (¬ y1.2 = 0) then
    srun (lyT Ln) ((d + 1), 213, 89, [mR 92, mI z1, mI z2, mI z3, mI z4, mI z5, mI 1, mI z7, mI (mwrap (z8 + 1))], [], y1.1)
   else
    (Option.bind (srun (lyT Ln) (d, 187, 0, [mR 98, mI z8, mI z1], [], y1.1)) (fun y2 =>
    (bif decide (¬ y2.2 = 0) then
     srun (lyT Ln) ((d + 1), 213, 89, [mR 92, mI z1, mI z2, mI z3, mI z4, mI z5, mI 0, mI z7, mI (mwrap (z8 + 1))], [], y2.1)
    else
     srun (lyT Ln) ((d + 1), 213, 89, [mR 92, mI z1, mI z2, mI z3, mI z4, mI z5, mI 1, mI z7, mI (mwrap (z8 + 1))], [], y2.1))))))))) := by
  exact (srun_unr _ [25, 45, 78, 89] 25 _).trans rfl
/-! GridQuarrelsModel.lures(IIII)I: method 214; stops [29, 49] -/
theorem b_M_lures (Ln d : Nat) (σ : mmSt) (x0 x1 x2 x3 : Int) : srun (lyT Ln) ((d + 1), 214, 0, [mR 92, mI x0, mI x1, mI x2, mI x3, mJ, mJ, mJ], [], σ) =
 (Option.bind (srun (lyT Ln) (d, 181, 0, [mR 92, mI x0], [], (mup σ 92 0 0))) (fun y1 =>
 (bif decide (y1.2 = 0) then
  some (y1.1, (-1000001))
 else
  (Option.bind (srun (lyT Ln) (d, 179, 0, [mR 92, mI x1], [], y1.1)) (fun y2 =>
  (bif decide (y2.2 = 0) then
   some (y2.1, (-1000001))
  else
   (Option.bind (srun (lyT Ln) (d, 156, 0, [mL x2, mJ, mL 1, mJ, mL 30, mJ], [], y2.1)) (fun y3 =>
   (bif decide (y3.2 = 0) then
    some (y3.1, (-1000001))
   else
    (Option.bind (srun (lyT Ln) (d, 156, 0, [mL x3, mJ, mL 0, mJ, mL 1, mJ], [], y3.1)) (fun y4 =>
    (bif decide (¬ y4.2 = 0) then
     srun (lyT Ln) ((d + 1), 214, 29, [mR 92, mI x0, mI x1, mI x2, mI x3, mI (-1000000), mI 0, mJ], [], y4.1)
    else
     some (y4.1, (-1000001)))))))))))))) := by
  exact (srun_unr _ [29, 49] 27 _).trans rfl
theorem b_M_lures_29 (Ln d : Nat) (σ : mmSt) (z1 z2 z3 z4 z5 z6 : Int) (v7 : mmV) : srun (lyT Ln) ((d + 1), 214, 29, [mR 92, mI z1, mI z2, mI z3, mI z4, mI z5, mI z6, v7], [], σ) =
 (bif decide ((mshl 1 (σ 96 0)) ≤ z6) then
  (bif decide (z5 = (-1000000)) then
   some (σ, z5)
  else
   (bif decide (¬ z4 = 1) then
    (Option.bind (srun (lyT Ln) (d, 182, 0, [mI z5, mJ, mJ], [], σ)) (fun y1 =>
    some (y1.1, y1.2)))
   else
    some (σ, z5)))
 else
  (bif decide (z5 = (-1000000)) then
   (Option.bind (srun (lyT Ln) (d, 193, 0, [mR 92, mJ], [], σ)) (fun y2 =>
   srun (lyT Ln) ((d + 1), 214, 49, [mR 92, mI z1, mI z2, mI z3, mI z4, mI z5, mI z6, mI 0], [], y2.1)))
  else
   (Option.bind (srun (lyT Ln) (d, 182, 0, [mI z6, mJ, mJ], [], σ)) (fun y3 =>
   (Option.bind (srun (lyT Ln) (d, 182, 0, [mI z5, mJ, mJ], [], y3.1)) (fun y4 =>
   (bif decide (y4.2 ≤ y3.2) then
    srun (lyT Ln) ((d + 1), 214, 29, [mR 92, mI z1, mI z2, mI z3, mI z4, mI z5, mI (mwrap (z6 + 1)), v7], [], y4.1)
   else
    (Option.bind (srun (lyT Ln) (d, 193, 0, [mR 92, mJ], [], y4.1)) (fun y5 =>
    srun (lyT Ln) ((d + 1), 214, 49, [mR 92, mI z1, mI z2, mI z3, mI z4, mI z5, mI z6, mI 0], [], y5.1)))))))))) := by
  exact (srun_unr _ [29, 49] 20 _).trans rfl
theorem b_M_lures_49 (Ln d : Nat) (σ : mmSt) (z1 z2 z3 z4 z5 z6 z7 : Int) : srun (lyT Ln) ((d + 1), 214, 49, [mR 92, mI z1, mI z2, mI z3, mI z4, mI z5, mI z6, mI z7], [], σ) =
 (bif decide ((σ 96 0) ≤ z7) then
  (Option.bind (srun (lyT Ln) (d, 192, 0, [mR 92, mR 98, mI z3, mJ], [], σ)) (fun y1 =>
  (Option.bind (srun (lyT Ln) (d, 187, 0, [mR 98, mI z1, mI z2], [], y1.1)) (fun y2 =>
  (bif decide (y2.2 = 0) then
   srun (lyT Ln) ((d + 1), 214, 29, [mR 92, mI z1, mI z2, mI z3, mI z4, mI z5, mI (mwrap (z6 + 1)), mI z7], [], y2.1)
  else
   srun (lyT Ln) ((d + 1), 214, 29, [mR 92, mI z1, mI z2, mI z3, mI z4, mI z6, mI (mwrap (z6 + 1)), mI z7], [], y2.1))))))
 else
  (Option.bind (srun (lyT Ln) (d, 183, 0, [mI z6, mI z7], [], σ)) (fun y3 =>
  (bif decide (y3.2 = 0) then
   (Option.bind (srun (lyT Ln) (d, 195, 0, [mR 98, mI z7, mI 0, mJ], [], y3.1)) (fun y4 =>
   srun (lyT Ln) ((d + 1), 214, 49, [mR 92, mI z1, mI z2, mI z3, mI z4, mI z5, mI z6, mI (mwrap (z7 + 1))], [], y4.1)))
  else
   (Option.bind (srun (lyT Ln) (d, 195, 0, [mR 98, mI z7, mI 9, mJ], [], y3.1)) (fun y5 =>
   srun (lyT Ln) ((d + 1), 214, 49, [mR 92, mI z1, mI z2, mI z3, mI z4, mI z5, mI z6, mI (mwrap (z7 + 1))], [], y5.1))))))) := by
  exact (srun_unr _ [29, 49] 22 _).trans rfl
/-! GridQuarrelsModel.starve(II)I: method 215; stops [21] -/
theorem b_M_starve (Ln d : Nat) (σ : mmSt) (x0 x1 : Int) : srun (lyT Ln) ((d + 1), 215, 0, [mR 92, mI x0, mI x1, mJ, mJ, mJ, mJ, mJ], [], σ) =
 (Option.bind (srun (lyT Ln) (d, 181, 0, [mR 92, mI x0], [], (mup σ 92 0 0))) (fun y1 =>
 (bif decide (y1.2 = 0) then
  some (y1.1, (-1000001))
 else
  (Option.bind (srun (lyT Ln) (d, 156, 0, [mL x1, mJ, mL 0, mJ, mL 1, mJ], [], y1.1)) (fun y2 =>
  (bif decide (¬ y2.2 = 0) then
   srun (lyT Ln) ((d + 1), 215, 21, [mR 92, mI x0, mI x1, mI (-1000000), mI (-1000000), mI 0, mJ, mJ], [], y2.1)
  else
   some (y2.1, (-1000001)))))))) := by
  exact (srun_unr _ [21] 19 _).trans rfl
set_option maxRecDepth 100000 in
theorem b_M_starve_21 (Ln d : Nat) (σ : mmSt) (z1 z2 z3 z4 z5 : Int) (v6 v7 : mmV) : srun (lyT Ln) ((d + 1), 215, 21, [mR 92, mI z1, mI z2, mI z3, mI z4, mI z5, v6, v7], [], σ) =
 (bif decide ((σ 96 0) ≤ z5) then
  (bif decide (¬ z2 = 0) then
   some (σ, z4)
  else
   some (σ, z3))
 else
  (Option.bind (srun (lyT Ln) (d, 186, 0, [mR 96, mI z1], [], σ)) (fun y1 =>
  (bif decide (y1.2 = 0) then
   (bif decide (¬ z2 = 0) then
    some (y1.1, z4)
   else
    some (y1.1, z3))
  else
   (Option.bind (srun (lyT Ln) (d, 193, 0, [mR 92, mJ], [], y1.1)) (fun y2 =>
   (bif minb (mwrap (4 + z5)) 52 then
   (Option.bind (srun (lyT Ln) (d, 208, 0, [mR 92, mI z1, mJ], [], (mup y2.1 98 (Int.toNat (mwrap (4 + z5))) 0))) (fun y3 =>
   (bif decide (y3.2 = (-1000000)) then
    srun (lyT Ln) ((d + 1), 215, 21, [mR 92, mI z1, mI z2, mI z3, mI z4, mI (mwrap (z5 + 1)), mI y3.2, mI 0], [], y3.1)
   else
    (bif decide (z3 = (-1000000)) then
     srun (lyT Ln) ((d + 1), 215, 21, [mR 92, mI z1, mI z2, mI z5, mI y3.2, mI (mwrap (z5 + 1)), mI y3.2, mI 1], [], y3.1)
    else
     (bif decide (z4 ≤ y3.2) then
      srun (lyT Ln) ((d + 1), 215, 21, [mR 92, mI z1, mI z2, mI z3, mI z4, mI (mwrap (z5 + 1)), mI y3.2, mI 0], [], y3.1)
     else
      srun (lyT Ln) ((d + 1), 215, 21, [mR 92, mI z1, mI z2, mI z5, mI y3.2, mI (mwrap (z5 + 1)), mI y3.2, mI 1], [], y3.1))))))
   else none))))))) := by
  exact (srun_unr _ [21] 48 _).trans rfl
/-! GridQuarrelsModel.reachBy(II)I: method 216; stops [10, 17] -/
theorem b_M_reachBy (Ln d : Nat) (σ : mmSt) (x0 x1 : Int) : srun (lyT Ln) ((d + 1), 216, 0, [mR 92, mI x0, mI x1, mJ, mJ, mJ, mJ], [], σ) =
 (Option.bind (srun (lyT Ln) (d, 184, 0, [mR 96, mI x0, mI 1], [], σ)) (fun y1 =>
 srun (lyT Ln) ((d + 1), 216, 10, [mR 92, mI x0, mI x1, mI (mshl 1 y1.2), mI 0, mJ, mJ], [], y1.1))) := by
  exact (srun_unr _ [10, 17] 10 _).trans rfl
theorem b_M_reachBy_10 (Ln d : Nat) (σ : mmSt) (z1 z2 z3 z4 : Int) (v5 v6 : mmV) : srun (lyT Ln) ((d + 1), 216, 10, [mR 92, mI z1, mI z2, mI z3, mI z4, v5, v6], [], σ) =
 (bif decide (z2 ≤ z4) then
  some (σ, z3)
 else
  srun (lyT Ln) ((d + 1), 216, 17, [mR 92, mI z1, mI z2, mI z3, mI z4, mI z3, mI 0], [], σ)) := by
  exact (srun_unr _ [10, 17] 7 _).trans rfl
set_option maxRecDepth 100000 in
theorem b_M_reachBy_17 (Ln d : Nat) (σ : mmSt) (z1 z2 z3 z4 z5 z6 : Int) : srun (lyT Ln) ((d + 1), 216, 17, [mR 92, mI z1, mI z2, mI z3, mI z4, mI z5, mI z6], [], σ) =
 (bif decide ((σ 96 1) ≤ z6) then
  srun (lyT Ln) ((d + 1), 216, 10, [mR 92, mI z1, mI z2, mI z5, mI (mwrap (z4 + 1)), mI z5, mI z6], [], σ)
 else
  (Option.bind (srun (lyT Ln) (d, 188, 0, [mR 96, mI z1, mI z6, mJ, mJ], [], σ)) (fun y1 =>
  (bif decide (y1.2 = 0) then
   srun (lyT Ln) ((d + 1), 216, 17, [mR 92, mI z1, mI z2, mI z3, mI z4, mI z5, mI (mwrap (z6 + 1))], [], y1.1)
  else
   (Option.bind (srun (lyT Ln) (d, 185, 0, [mR 96, mI z6, mI 0], [], y1.1)) (fun y2 =>
   (Option.bind (srun (lyT Ln) (d, 183, 0, [mI z3, mI y2.2], [], y2.1)) (fun y3 =>
   (bif decide (y3.2 = 0) then
    (Option.bind (srun (lyT Ln) (d, 185, 0, [mR 96, mI z6, mI 1], [], y3.1)) (fun y4 =>
    (Option.bind (srun (lyT Ln) (d, 183, 0, [mI z3, mI y4.2], [], y4.1)) (fun y5 =>
    (bif decide (y5.2 = 0) then
     srun (lyT Ln) ((d + 1), 216, 17, [mR 92, mI z1, mI z2, mI z3, mI z4, mI (mor (mor z5 0) 0), mI (mwrap (z6 + 1))], [], y5.1)
    else
     (Option.bind (srun (lyT Ln) (d, 185, 0, [mR 96, mI z6, mI 0], [], y5.1)) (fun y6 =>
     srun (lyT Ln) ((d + 1), 216, 17, [mR 92, mI z1, mI z2, mI z3, mI z4, mI (mor (mor z5 0) (mshl 1 y6.2)), mI (mwrap (z6 + 1))], [], y6.1))))))))
   else
    (Option.bind (srun (lyT Ln) (d, 185, 0, [mR 96, mI z6, mI 1], [], y3.1)) (fun y7 =>
    (Option.bind (srun (lyT Ln) (d, 185, 0, [mR 96, mI z6, mI 1], [], y7.1)) (fun y8 =>
    (Option.bind (srun (lyT Ln) (d, 183, 0, [mI z3, mI y8.2], [], y8.1)) (fun y9 =>
    (bif decide (y9.2 = 0) then
     srun (lyT Ln) ((d + 1), 216, 17, [mR 92, mI z1, mI z2, mI z3, mI z4, mI (mor (mor z5 (mshl 1 y7.2)) 0), mI (mwrap (z6 + 1))], [], y9.1)
    else
     (Option.bind (srun (lyT Ln) (d, 185, 0, [mR 96, mI z6, mI 0], [], y9.1)) (fun y10 =>
     srun (lyT Ln) ((d + 1), 216, 17, [mR 92, mI z1, mI z2, mI z3, mI z4, mI (mor (mor z5 (mshl 1 y7.2)) (mshl 1 y10.2)), mI (mwrap (z6 + 1))], [], y10.1))))))))))))))))))) := by
  exact (srun_unr _ [10, 17] 52 _).trans rfl
/-! GridQuarrelsModel.way(II)I: method 217; stops [22] -/
theorem b_M_way (Ln d : Nat) (σ : mmSt) (x0 x1 : Int) : srun (lyT Ln) ((d + 1), 217, 0, [mR 92, mI x0, mI x1, mJ], [], σ) =
 (Option.bind (srun (lyT Ln) (d, 181, 0, [mR 92, mI x0], [], (mup σ 92 0 0))) (fun y1 =>
 (bif decide (y1.2 = 0) then
  some (y1.1, (-1000001))
 else
  (Option.bind (srun (lyT Ln) (d, 179, 0, [mR 92, mI x1], [], y1.1)) (fun y2 =>
  (bif decide (¬ y2.2 = 0) then
   (Option.bind (srun (lyT Ln) (d, 186, 0, [mR 96, mI x0], [], y2.1)) (fun y3 =>
   (bif decide (¬ y3.2 = 0) then
    srun (lyT Ln) ((d + 1), 217, 22, [mR 92, mI x0, mI x1, mI 0], [], y3.1)
   else
    some (y3.1, (-1000002)))))
  else
   some (y2.1, (-1000001)))))))) := by
  exact (srun_unr _ [22] 18 _).trans rfl
theorem b_M_way_22 (Ln d : Nat) (σ : mmSt) (z1 z2 z3 : Int) : srun (lyT Ln) ((d + 1), 217, 22, [mR 92, mI z1, mI z2, mI z3], [], σ) =
 (bif decide (7 ≤ z3) then
  some (σ, (-1000000))
 else
  (Option.bind (srun (lyT Ln) (d, 216, 0, [mR 92, mI z1, mI z3, mJ, mJ, mJ, mJ], [], σ)) (fun y1 =>
  (Option.bind (srun (lyT Ln) (d, 183, 0, [mI y1.2, mI z2], [], y1.1)) (fun y2 =>
  (bif decide (y2.2 = 0) then
   srun (lyT Ln) ((d + 1), 217, 22, [mR 92, mI z1, mI z2, mI (mwrap (z3 + 1))], [], y2.1)
  else
   some (y2.1, z3))))))) := by
  exact (srun_unr _ [22] 12 _).trans rfl
/-! GridQuarrelsModel.reach(I)I: method 218; stops [] -/
theorem b_M_reach (Ln d : Nat) (σ : mmSt) (x0 : Int) : srun (lyT Ln) ((d + 1), 218, 0, [mR 92, mI x0], [], σ) =
 (Option.bind (srun (lyT Ln) (d, 181, 0, [mR 92, mI x0], [], (mup σ 92 0 0))) (fun y1 =>
 (bif decide (¬ y1.2 = 0) then
  (Option.bind (srun (lyT Ln) (d, 186, 0, [mR 96, mI x0], [], y1.1)) (fun y2 =>
  (bif decide (y2.2 = 0) then
   some (y2.1, (-1000002))
  else
   (Option.bind (srun (lyT Ln) (d, 216, 0, [mR 92, mI x0, mI 7, mJ, mJ, mJ, mJ], [], y2.1)) (fun y3 =>
   some (y3.1, y3.2))))))
 else
  some (y1.1, (-1000001))))) := by
  exact (srun_unr _ [] 18 _).trans rfl
/-! GridQuarrelsModel.home()I: method 219; stops [12] -/
theorem b_M_home (Ln d : Nat) (σ : mmSt) : srun (lyT Ln) ((d + 1), 219, 0, [mR 92, mJ, mJ], [], σ) =
 (Option.bind (srun (lyT Ln) (d, 178, 0, [mR 92], [], (mup σ 92 0 0))) (fun y1 =>
 (bif decide (¬ y1.2 = 0) then
  srun (lyT Ln) ((d + 1), 219, 12, [mR 92, mI 0, mI 0], [], y1.1)
 else
  some (y1.1, (-1000002))))) := by
  exact (srun_unr _ [12] 10 _).trans rfl
theorem b_M_home_12 (Ln d : Nat) (σ : mmSt) (z1 z2 : Int) : srun (lyT Ln) ((d + 1), 219, 12, [mR 92, mI z1, mI z2], [], σ) =
 (bif decide ((σ 96 2) ≤ z2) then
  some (σ, z1)
 else
  (Option.bind (srun (lyT Ln) (d, 184, 0, [mR 96, mI z2, mI 3], [], σ)) (fun y1 =>
  (Option.bind (srun (lyT Ln) (d, 187, 0, [mR 96, mI z2, mI y1.2], [], y1.1)) (fun y2 =>
  (bif decide (y2.2 = 0) then
   srun (lyT Ln) ((d + 1), 219, 12, [mR 92, mI (mor z1 0), mI (mwrap (z2 + 1))], [], y2.1)
  else
   srun (lyT Ln) ((d + 1), 219, 12, [mR 92, mI (mor z1 (mshl 1 z2)), mI (mwrap (z2 + 1))], [], y2.1))))))) := by
  exact (srun_unr _ [12] 25 _).trans rfl
/-! GridQuarrelsModel.fed(II)I: method 220; stops [26, 38, 47, 74] -/
theorem b_M_fed (Ln d : Nat) (σ : mmSt) (x0 x1 : Int) : srun (lyT Ln) ((d + 1), 220, 0, [mR 92, mI x0, mI x1, mJ, mJ], [], σ) =
 (Option.bind (srun (lyT Ln) (d, 178, 0, [mR 92], [], (mup σ 92 0 0))) (fun y1 =>
 (bif decide (¬ y1.2 = 0) then
  (Option.bind (srun (lyT Ln) (d, 156, 0, [mL x0, mJ, mL 1, mJ, mL 60, mJ], [], y1.1)) (fun y2 =>
  (bif decide (y2.2 = 0) then
   some (y2.1, (-1000001))
  else
   (Option.bind (srun (lyT Ln) (d, 156, 0, [mL x1, mJ, mL 0, mJ, mL 1, mJ], [], y2.1)) (fun y3 =>
   (bif decide (¬ y3.2 = 0) then
    (Option.bind (srun (lyT Ln) (d, 193, 0, [mR 92, mJ], [], y3.1)) (fun y4 =>
    srun (lyT Ln) ((d + 1), 220, 26, [mR 92, mI x0, mI x1, mI 0, mJ], [], y4.1)))
   else
    some (y3.1, (-1000001))))))))
 else
  some (y1.1, (-1000002))))) := by
  exact (srun_unr _ [26, 38, 47, 74] 22 _).trans rfl
theorem b_M_fed_26 (Ln d : Nat) (σ : mmSt) (z1 z2 z3 : Int) : srun (lyT Ln) ((d + 1), 220, 26, [mR 92, mI z1, mI z2, mI z3, mJ], [], σ) =
 (bif decide (5 ≤ z3) then
  srun (lyT Ln) ((d + 1), 220, 38, [mR 92, mI z1, mI z2, mI 0, mJ], [], σ)
 else
  (bif minb z3 5 then
  srun (lyT Ln) ((d + 1), 220, 26, [mR 92, mI z1, mI z2, mI (mwrap (z3 + 1)), mJ], [], (mup σ 101 (Int.toNat z3) 0))
  else none)) := by
  exact (srun_unr _ [26, 38, 47, 74] 10 _).trans rfl
theorem b_M_fed_38 (Ln d : Nat) (σ : mmSt) (z1 z2 z3 : Int) (v4 : mmV) : srun (lyT Ln) ((d + 1), 220, 38, [mR 92, mI z1, mI z2, mI z3, v4], [], σ) =
 (bif decide (z1 ≤ z3) then
  srun (lyT Ln) ((d + 1), 220, 74, [mR 92, mI z1, mI z2, mI 0, mI 1], [], σ)
 else
  (Option.bind (srun (lyT Ln) (d, 191, 0, [mR 92, mR 98, mJ, mJ, mJ], [], σ)) (fun y1 =>
  srun (lyT Ln) ((d + 1), 220, 47, [mR 92, mI z1, mI z2, mI z3, mI 0], [], y1.1)))) := by
  exact (srun_unr _ [26, 38, 47, 74] 9 _).trans rfl
theorem b_M_fed_47 (Ln d : Nat) (σ : mmSt) (z1 z2 z3 z4 : Int) : srun (lyT Ln) ((d + 1), 220, 47, [mR 92, mI z1, mI z2, mI z3, mI z4], [], σ) =
 (bif decide ((σ 96 2) ≤ z4) then
  srun (lyT Ln) ((d + 1), 220, 38, [mR 92, mI z1, mI z2, mI (mwrap (z3 + 1)), mI z4], [], σ)
 else
  (bif minb z4 5 then
  (bif minb z4 5 then
  srun (lyT Ln) ((d + 1), 220, 47, [mR 92, mI z1, mI z2, mI z3, mI (mwrap (z4 + 1))], [], (mup σ 101 (Int.toNat z4) (mwrap ((σ 101 (Int.toNat z4)) + (mand (mshr (σ 92 19) z4) 1)))))
  else none)
  else none)) := by
  exact (srun_unr _ [26, 38, 47, 74] 21 _).trans rfl
theorem b_M_fed_74 (Ln d : Nat) (σ : mmSt) (z1 z2 z3 z4 : Int) : srun (lyT Ln) ((d + 1), 220, 74, [mR 92, mI z1, mI z2, mI z3, mI z4], [], σ) =
 (bif decide ((σ 96 2) ≤ z4) then
  (bif decide (¬ z2 = 0) then
   (bif minb z3 5 then
   some (σ, (σ 101 (Int.toNat z3)))
   else none)
  else
   some (σ, z3))
 else
  (bif minb z4 5 then
  (bif minb z3 5 then
  (bif decide ((σ 101 (Int.toNat z4)) ≤ (σ 101 (Int.toNat z3))) then
   srun (lyT Ln) ((d + 1), 220, 74, [mR 92, mI z1, mI z2, mI z3, mI (mwrap (z4 + 1))], [], σ)
  else
   srun (lyT Ln) ((d + 1), 220, 74, [mR 92, mI z1, mI z2, mI z4, mI (mwrap (z4 + 1))], [], σ))
  else none)
  else none)) := by
  exact (srun_unr _ [26, 38, 47, 74] 20 _).trans rfl
/-! GridQuarrelsModel.isSo(III)Z: method 221; stops [4] -/
theorem b_M_isSo (Ln d : Nat) (σ : mmSt) (x0 x1 x2 : Int) : srun (lyT Ln) ((d + 1), 221, 0, [mR 92, mI x0, mI x1, mI x2, mJ, mJ], [], σ) =
 srun (lyT Ln) ((d + 1), 221, 4, [mR 92, mI x0, mI x1, mI x2, mI 1, mI 0], [], σ) := by
  exact (srun_unr _ [4] 4 _).trans rfl
theorem b_M_isSo_4 (Ln d : Nat) (σ : mmSt) (z1 z2 z3 z4 z5 : Int) : srun (lyT Ln) ((d + 1), 221, 4, [mR 92, mI z1, mI z2, mI z3, mI z4, mI z5], [], σ) =
 (bif decide (z3 ≤ z5) then
  (bif decide (0 ≤ z4) && decide (z4 ≤ 1) then some (σ, z4) else none)
 else
  (Option.bind (srun (lyT Ln) (d, 191, 0, [mR 92, mR 98, mJ, mJ, mJ], [], σ)) (fun y1 =>
  (bif decide (z4 = 0) then
   srun (lyT Ln) ((d + 1), 221, 4, [mR 92, mI z1, mI z2, mI z3, mI 0, mI (mwrap (z5 + 1))], [], y1.1)
  else
   (Option.bind (srun (lyT Ln) (d, 184, 0, [mR 98, mI z1, mI 1], [], y1.1)) (fun y2 =>
   (bif minb (mwrap (z2 + z5)) 320 then
   (bif decide (¬ y2.2 = (y2.1 95 (Int.toNat (mwrap (z2 + z5))))) then
    srun (lyT Ln) ((d + 1), 221, 4, [mR 92, mI z1, mI z2, mI z3, mI 0, mI (mwrap (z5 + 1))], [], y2.1)
   else
    srun (lyT Ln) ((d + 1), 221, 4, [mR 92, mI z1, mI z2, mI z3, mI 1, mI (mwrap (z5 + 1))], [], y2.1))
   else none))))))) := by
  exact (srun_unr _ [4] 26 _).trans rfl
/-! GridQuarrelsModel.rowFound(III)I: method 222; stops [] -/
theorem b_M_rowFound (Ln d : Nat) (σ : mmSt) (x0 x1 x2 : Int) : srun (lyT Ln) ((d + 1), 222, 0, [mR 92, mI x0, mI x1, mI x2], [], σ) =
 (bif minb x0 8 then
 (bif decide (0 ≤ (σ 93 (Int.toNat x0))) then
  (bif decide (x1 < 0) then
   (Option.bind (srun (lyT Ln) (d, 157, 0, [mR 92, mI 2], [], σ)) (fun y1 =>
   some (y1.1, y1.2)))
  else
   (bif minb x0 8 then
   (bif decide ((mlcmp (mwrapL (x1 + x2)) (σ 94 (Int.toNat x0))) ≤ 0) then
    some ((mup σ 92 1 0), 0)
   else
    (Option.bind (srun (lyT Ln) (d, 157, 0, [mR 92, mI 2], [], σ)) (fun y2 =>
    some (y2.1, y2.2))))
   else none))
 else
  (Option.bind (srun (lyT Ln) (d, 157, 0, [mR 92, mI 1], [], σ)) (fun y3 =>
  some (y3.1, y3.2))))
 else none) := by
  exact (srun_unr _ [] 24 _).trans rfl
/-! GridQuarrelsModel.who(IIIII)I: method 223; stops [61] -/
set_option maxRecDepth 100000 in
theorem b_M_who (Ln d : Nat) (σ : mmSt) (x0 x1 x2 x3 x4 : Int) : srun (lyT Ln) ((d + 1), 223, 0, [mR 92, mI x0, mI x1, mI x2, mI x3, mI x4, mJ, mJ, mJ, mJ], [], σ) =
 (Option.bind (srun (lyT Ln) (d, 181, 0, [mR 92, mI x0], [], (mup σ 92 0 0))) (fun y1 =>
 (bif decide (y1.2 = 0) then
  some (y1.1, (-1000001))
 else
  (Option.bind (srun (lyT Ln) (d, 156, 0, [mL x1, mJ, mL 0, mJ, mL 2, mJ], [], y1.1)) (fun y2 =>
  (bif decide (y2.2 = 0) then
   some (y2.1, (-1000001))
  else
   (Option.bind (srun (lyT Ln) (d, 158, 0, [mI x2], [], y2.1)) (fun y3 =>
   (bif decide (y3.2 = 0) then
    some (y3.1, (-1000001))
   else
    (Option.bind (srun (lyT Ln) (d, 156, 0, [mL x4, mJ, mL 1, mJ, mL 12, mJ], [], y3.1)) (fun y4 =>
    (bif decide (¬ y4.2 = 0) then
     (Option.bind (srun (lyT Ln) (d, 186, 0, [mR 96, mI x0], [], y4.1)) (fun y5 =>
     (bif decide (¬ y5.2 = 0) then
      (Option.bind (srun (lyT Ln) (d, 222, 0, [mR 92, mI x2, mI x3, mI x4], [], y5.1)) (fun y6 =>
      (bif decide (y6.2 = 0) then
       (bif decide (¬ x1 = 0) then
        (bif decide (¬ x1 = 1) then
         (bif decide (¬ x1 = 2) then
          srun (lyT Ln) ((d + 1), 223, 61, [mR 92, mI x0, mI x1, mI x2, mI x3, mI x4, mI y6.2, mI 0, mI 1, mI 1], [], y6.1)
         else
          srun (lyT Ln) ((d + 1), 223, 61, [mR 92, mI x0, mI x1, mI x2, mI x3, mI x4, mI y6.2, mI 0, mI 1, mI 0], [], y6.1))
        else
         (bif decide (¬ x1 = 2) then
          srun (lyT Ln) ((d + 1), 223, 61, [mR 92, mI x0, mI x1, mI x2, mI x3, mI x4, mI y6.2, mI 0, mI 2, mI 1], [], y6.1)
         else
          srun (lyT Ln) ((d + 1), 223, 61, [mR 92, mI x0, mI x1, mI x2, mI x3, mI x4, mI y6.2, mI 0, mI 2, mI 0], [], y6.1)))
       else
        (bif decide (¬ x1 = 2) then
         srun (lyT Ln) ((d + 1), 223, 61, [mR 92, mI x0, mI x1, mI x2, mI x3, mI x4, mI y6.2, mI 0, mI 0, mI 1], [], y6.1)
        else
         srun (lyT Ln) ((d + 1), 223, 61, [mR 92, mI x0, mI x1, mI x2, mI x3, mI x4, mI y6.2, mI 0, mI 0, mI 0], [], y6.1)))
      else
       some (y6.1, y6.2))))
     else
      some (y5.1, (-1000002)))))
    else
     some (y4.1, (-1000001)))))))))))))) := by
  exact (srun_unr _ [61] 51 _).trans rfl
theorem b_M_who_61 (Ln d : Nat) (σ : mmSt) (z1 z2 z3 z4 z5 z6 z7 z8 z9 : Int) : srun (lyT Ln) ((d + 1), 223, 61, [mR 92, mI z1, mI z2, mI z3, mI z4, mI z5, mI z6, mI z7, mI z8, mI z9], [], σ) =
 (bif decide (¬ z2 = 0) then
  (bif decide (¬ z2 = 1) then
   (bif decide ((mwrap ((σ 96 0) - 1)) < z9) then
    some (σ, z7)
   else
    (Option.bind (srun (lyT Ln) (d, 193, 0, [mR 92, mJ], [], σ)) (fun y1 =>
    (bif minb (mwrap ((mwrap (32 + (mwrap (4 * z1)))) + z8)) 52 then
    (Option.bind (srun (lyT Ln) (d, 221, 0, [mR 92, mI z1, mI (mwrap ((mwrap (40 * z3)) + z4)), mI z5, mJ, mJ], [], (mup y1.1 98 (Int.toNat (mwrap ((mwrap (32 + (mwrap (4 * z1)))) + z8))) z9))) (fun y2 =>
    (bif decide (y2.2 = 0) then
     srun (lyT Ln) ((d + 1), 223, 61, [mR 92, mI z1, mI z2, mI z3, mI z4, mI z5, mI z6, mI (mor z7 0), mI z8, mI (mwrap (z9 + 1))], [], y2.1)
    else
     srun (lyT Ln) ((d + 1), 223, 61, [mR 92, mI z1, mI z2, mI z3, mI z4, mI z5, mI z6, mI (mor z7 (mshl 1 z9)), mI z8, mI (mwrap (z9 + 1))], [], y2.1))))
    else none))))
  else
   (bif decide (9 < z9) then
    some (σ, z7)
   else
    (Option.bind (srun (lyT Ln) (d, 193, 0, [mR 92, mJ], [], σ)) (fun y3 =>
    (bif minb (mwrap ((mwrap (32 + (mwrap (4 * z1)))) + z8)) 52 then
    (Option.bind (srun (lyT Ln) (d, 221, 0, [mR 92, mI z1, mI (mwrap ((mwrap (40 * z3)) + z4)), mI z5, mJ, mJ], [], (mup y3.1 98 (Int.toNat (mwrap ((mwrap (32 + (mwrap (4 * z1)))) + z8))) z9))) (fun y4 =>
    (bif decide (y4.2 = 0) then
     srun (lyT Ln) ((d + 1), 223, 61, [mR 92, mI z1, mI z2, mI z3, mI z4, mI z5, mI z6, mI (mor z7 0), mI z8, mI (mwrap (z9 + 1))], [], y4.1)
    else
     srun (lyT Ln) ((d + 1), 223, 61, [mR 92, mI z1, mI z2, mI z3, mI z4, mI z5, mI z6, mI (mor z7 (mshl 1 z9)), mI z8, mI (mwrap (z9 + 1))], [], y4.1))))
    else none)))))
 else
  (bif decide (5 < z9) then
   some (σ, z7)
  else
   (Option.bind (srun (lyT Ln) (d, 193, 0, [mR 92, mJ], [], σ)) (fun y5 =>
   (bif minb (mwrap ((mwrap (32 + (mwrap (4 * z1)))) + z8)) 52 then
   (Option.bind (srun (lyT Ln) (d, 221, 0, [mR 92, mI z1, mI (mwrap ((mwrap (40 * z3)) + z4)), mI z5, mJ, mJ], [], (mup y5.1 98 (Int.toNat (mwrap ((mwrap (32 + (mwrap (4 * z1)))) + z8))) z9))) (fun y6 =>
   (bif decide (y6.2 = 0) then
    srun (lyT Ln) ((d + 1), 223, 61, [mR 92, mI z1, mI z2, mI z3, mI z4, mI z5, mI z6, mI (mor z7 0), mI z8, mI (mwrap (z9 + 1))], [], y6.1)
   else
    srun (lyT Ln) ((d + 1), 223, 61, [mR 92, mI z1, mI z2, mI z3, mI z4, mI z5, mI z6, mI (mor z7 (mshl 1 z9)), mI z8, mI (mwrap (z9 + 1))], [], y6.1))))
   else none))))) := by
  exact (srun_unr _ [61] 45 _).trans rfl
/-! GridQuarrelsModel.grids(IIIII)I: method 224; stops [36] -/
theorem b_M_grids (Ln d : Nat) (σ : mmSt) (x0 x1 x2 x3 x4 : Int) : srun (lyT Ln) ((d + 1), 224, 0, [mR 92, mI x0, mI x1, mI x2, mI x3, mI x4, mJ, mJ, mJ], [], σ) =
 (Option.bind (srun (lyT Ln) (d, 180, 0, [mR 92, mI x0], [], (mup σ 92 0 0))) (fun y1 =>
 (bif decide (y1.2 = 0) then
  some (y1.1, (-1000001))
 else
  (Option.bind (srun (lyT Ln) (d, 181, 0, [mR 92, mI x1], [], y1.1)) (fun y2 =>
  (bif decide (y2.2 = 0) then
   some (y2.1, (-1000001))
  else
   (Option.bind (srun (lyT Ln) (d, 158, 0, [mI x2], [], y2.1)) (fun y3 =>
   (bif decide (y3.2 = 0) then
    some (y3.1, (-1000001))
   else
    (Option.bind (srun (lyT Ln) (d, 156, 0, [mL x4, mJ, mL 1, mJ, mL 12, mJ], [], y3.1)) (fun y4 =>
    (bif decide (¬ y4.2 = 0) then
     (Option.bind (srun (lyT Ln) (d, 222, 0, [mR 92, mI x2, mI x3, mI x4], [], y4.1)) (fun y5 =>
     (bif decide (y5.2 = 0) then
      srun (lyT Ln) ((d + 1), 224, 36, [mR 92, mI x0, mI x1, mI x2, mI x3, mI x4, mI y5.2, mI 0, mI 0], [], y5.1)
     else
      some (y5.1, y5.2))))
    else
     some (y4.1, (-1000001)))))))))))))) := by
  exact (srun_unr _ [36] 32 _).trans rfl
theorem b_M_grids_36 (Ln d : Nat) (σ : mmSt) (z1 z2 z3 z4 z5 z6 z7 z8 : Int) : srun (lyT Ln) ((d + 1), 224, 36, [mR 92, mI z1, mI z2, mI z3, mI z4, mI z5, mI z6, mI z7, mI z8], [], σ) =
 (bif decide (10 ≤ z8) then
  some (σ, z7)
 else
  (Option.bind (srun (lyT Ln) (d, 193, 0, [mR 92, mJ], [], σ)) (fun y1 =>
  (bif minb (mwrap ((mwrap (11 + (mwrap (3 * z1)))) + 2)) 52 then
  (Option.bind (srun (lyT Ln) (d, 221, 0, [mR 92, mI z2, mI (mwrap ((mwrap (40 * z3)) + z4)), mI z5, mJ, mJ], [], (mup y1.1 98 (Int.toNat (mwrap ((mwrap (11 + (mwrap (3 * z1)))) + 2))) z8))) (fun y2 =>
  (bif decide (y2.2 = 0) then
   srun (lyT Ln) ((d + 1), 224, 36, [mR 92, mI z1, mI z2, mI z3, mI z4, mI z5, mI z6, mI (mor z7 0), mI (mwrap (z8 + 1))], [], y2.1)
  else
   srun (lyT Ln) ((d + 1), 224, 36, [mR 92, mI z1, mI z2, mI z3, mI z4, mI z5, mI z6, mI (mor z7 (mshl 1 z8)), mI (mwrap (z8 + 1))], [], y2.1))))
  else none)))) := by
  exact (srun_unr _ [36] 35 _).trans rfl
/-! GridQuarrelsModel.which(III)I: method 225; stops [33] -/
theorem b_M_which (Ln d : Nat) (σ : mmSt) (x0 x1 x2 : Int) : srun (lyT Ln) ((d + 1), 225, 0, [mR 92, mI x0, mI x1, mI x2, mJ, mJ, mJ], [], σ) =
 (Option.bind (srun (lyT Ln) (d, 178, 0, [mR 92], [], (mup σ 92 0 0))) (fun y1 =>
 (bif decide (¬ y1.2 = 0) then
  (Option.bind (srun (lyT Ln) (d, 158, 0, [mI x0], [], y1.1)) (fun y2 =>
  (bif decide (y2.2 = 0) then
   some (y2.1, (-1000001))
  else
   (Option.bind (srun (lyT Ln) (d, 156, 0, [mL x2, mJ, mL 1, mJ, mL 12, mJ], [], y2.1)) (fun y3 =>
   (bif decide (¬ y3.2 = 0) then
    (Option.bind (srun (lyT Ln) (d, 222, 0, [mR 92, mI x0, mI x1, mI x2], [], y3.1)) (fun y4 =>
    (bif decide (y4.2 = 0) then
     srun (lyT Ln) ((d + 1), 225, 33, [mR 92, mI x0, mI x1, mI x2, mI y4.2, mI 0, mI 0], [], y4.1)
    else
     some (y4.1, y4.2))))
   else
    some (y3.1, (-1000001))))))))
 else
  some (y1.1, (-1000002))))) := by
  exact (srun_unr _ [33] 27 _).trans rfl
theorem b_M_which_33 (Ln d : Nat) (σ : mmSt) (z1 z2 z3 z4 z5 z6 : Int) : srun (lyT Ln) ((d + 1), 225, 33, [mR 92, mI z1, mI z2, mI z3, mI z4, mI z5, mI z6], [], σ) =
 (bif decide ((σ 96 2) ≤ z6) then
  some (σ, z5)
 else
  (Option.bind (srun (lyT Ln) (d, 193, 0, [mR 92, mJ], [], σ)) (fun y1 =>
  (Option.bind (srun (lyT Ln) (d, 221, 0, [mR 92, mI z6, mI (mwrap ((mwrap (40 * z1)) + z2)), mI z3, mJ, mJ], [], y1.1)) (fun y2 =>
  (bif decide (y2.2 = 0) then
   srun (lyT Ln) ((d + 1), 225, 33, [mR 92, mI z1, mI z2, mI z3, mI z4, mI (mor z5 0), mI (mwrap (z6 + 1))], [], y2.1)
  else
   srun (lyT Ln) ((d + 1), 225, 33, [mR 92, mI z1, mI z2, mI z3, mI z4, mI (mor z5 (mshl 1 z6)), mI (mwrap (z6 + 1))], [], y2.1))))))) := by
  exact (srun_unr _ [33] 27 _).trans rfl
/-! GridQuarrelsModel.snow(IIIII)J: method 226; stops [35, 63, 78, 154] -/
theorem b_M_snow (Ln d : Nat) (σ : mmSt) (x0 x1 x2 x3 x4 : Int) : srun (lyT Ln) ((d + 1), 226, 0, [mR 92, mI x0, mI x1, mI x2, mI x3, mI x4, mJ, mJ, mJ, mJ, mJ, mJ, mJ, mJ, mJ, mJ, mJ], [], σ) =
 (Option.bind (srun (lyT Ln) (d, 181, 0, [mR 92, mI x0], [], (mup σ 92 0 0))) (fun y1 =>
 (bif decide (y1.2 = 0) then
  some (y1.1, (-1000001))
 else
  (Option.bind (srun (lyT Ln) (d, 179, 0, [mR 92, mI x1], [], y1.1)) (fun y2 =>
  (bif decide (y2.2 = 0) then
   some (y2.1, (-1000001))
  else
   (Option.bind (srun (lyT Ln) (d, 156, 0, [mL x2, mJ, mL 0, mJ, mL 30, mJ], [], y2.1)) (fun y3 =>
   (bif decide (y3.2 = 0) then
    some (y3.1, (-1000001))
   else
    (Option.bind (srun (lyT Ln) (d, 156, 0, [mL x3, mJ, mL 0, mJ, mL 10, mJ], [], y3.1)) (fun y4 =>
    (bif decide (y4.2 = 0) then
     some (y4.1, (-1000001))
    else
     (Option.bind (srun (lyT Ln) (d, 156, 0, [mL x4, mJ, mL 0, mJ, mL 1, mJ], [], y4.1)) (fun y5 =>
     (bif decide (¬ y5.2 = 0) then
      srun (lyT Ln) ((d + 1), 226, 35, [mR 92, mI x0, mI x1, mI x2, mI x3, mI x4, mI 0, mI 0, mJ, mJ, mJ, mJ, mJ, mJ, mJ, mJ, mJ], [], y5.1)
     else
      some (y5.1, (-1000001))))))))))))))))) := by
  exact (srun_unr _ [35, 63, 78, 154] 33 _).trans rfl
theorem b_M_snow_35 (Ln d : Nat) (σ : mmSt) (z1 z2 z3 z4 z5 z6 z7 : Int) : srun (lyT Ln) ((d + 1), 226, 35, [mR 92, mI z1, mI z2, mI z3, mI z4, mI z5, mI z6, mI z7, mJ, mJ, mJ, mJ, mJ, mJ, mJ, mJ, mJ], [], σ) =
 (bif decide ((σ 96 1) ≤ z7) then
  srun (lyT Ln) ((d + 1), 226, 63, [mR 92, mI z1, mI z2, mI z3, mI z4, mI z5, mI z6, mL 0, mJ, mL 0, mJ, mI 0, mJ, mJ, mJ, mJ, mJ], [], σ)
 else
  (Option.bind (srun (lyT Ln) (d, 185, 0, [mR 96, mI z7, mI 2], [], σ)) (fun y1 =>
  (bif decide (y1.2 ≤ 0) then
   srun (lyT Ln) ((d + 1), 226, 35, [mR 92, mI z1, mI z2, mI z3, mI z4, mI z5, mI (mor z6 0), mI (mwrap (z7 + 1)), mJ, mJ, mJ, mJ, mJ, mJ, mJ, mJ, mJ], [], y1.1)
  else
   srun (lyT Ln) ((d + 1), 226, 35, [mR 92, mI z1, mI z2, mI z3, mI z4, mI z5, mI (mor z6 (mshl 1 z7)), mI (mwrap (z7 + 1)), mJ, mJ, mJ, mJ, mJ, mJ, mJ, mJ, mJ], [], y1.1))))) := by
  exact (srun_unr _ [35, 63, 78, 154] 21 _).trans rfl
theorem b_M_snow_63 (Ln d : Nat) (σ : mmSt) (z1 z2 z3 z4 z5 z6 z7 z9 z11 : Int) (v12 v14 : mmV) : srun (lyT Ln) ((d + 1), 226, 63, [mR 92, mI z1, mI z2, mI z3, mI z4, mI z5, mI z6, mL z7, mJ, mL z9, mJ, mI z11, v12, mJ, v14, mJ, mJ], [], σ) =
 (bif decide (z6 < z11) then
  srun (lyT Ln) ((d + 1), 226, 154, [mR 92, mI z1, mI z2, mI z3, mI z4, mI z5, mI z6, mL z7, mJ, mL z9, mJ, mL z7, mJ, mL z9, mJ, mJ, mJ], [], σ)
 else
  (bif decide (¬ (mand z11 (mxor z6 (-1))) = 0) then
   srun (lyT Ln) ((d + 1), 226, 63, [mR 92, mI z1, mI z2, mI z3, mI z4, mI z5, mI z6, mL z7, mJ, mL z9, mJ, mI (mwrap (z11 + 1)), v12, mJ, v14, mJ, mJ], [], σ)
  else
   (Option.bind (srun (lyT Ln) (d, 193, 0, [mR 92, mJ], [], σ)) (fun y1 =>
   srun (lyT Ln) ((d + 1), 226, 78, [mR 92, mI z1, mI z2, mI z3, mI z4, mI z5, mI z6, mL z7, mJ, mL z9, mJ, mI z11, mL 1, mJ, mI 0, mJ, mJ], [], y1.1))))) := by
  exact (srun_unr _ [35, 63, 78, 154] 15 _).trans rfl
theorem b_M_snow_78 (Ln d : Nat) (σ : mmSt) (z1 z2 z3 z4 z5 z6 z7 z9 z11 z12 z14 : Int) : srun (lyT Ln) ((d + 1), 226, 78, [mR 92, mI z1, mI z2, mI z3, mI z4, mI z5, mI z6, mL z7, mJ, mL z9, mJ, mI z11, mL z12, mJ, mI z14, mJ, mJ], [], σ) =
 (bif decide ((σ 96 1) ≤ z14) then
  (Option.bind (srun (lyT Ln) (d, 192, 0, [mR 92, mR 98, mI z3, mJ], [], σ)) (fun y1 =>
  (Option.bind (srun (lyT Ln) (d, 187, 0, [mR 98, mI z1, mI z2], [], y1.1)) (fun y2 =>
  (bif decide (y2.2 = 0) then
   srun (lyT Ln) ((d + 1), 226, 63, [mR 92, mI z1, mI z2, mI z3, mI z4, mI z5, mI z6, mL (mwrapL (z7 + 0)), mJ, mL (mwrapL (z9 + z12)), mJ, mI (mwrap (z11 + 1)), mL z12, mJ, mI z14, mJ, mJ], [], y2.1)
  else
   srun (lyT Ln) ((d + 1), 226, 63, [mR 92, mI z1, mI z2, mI z3, mI z4, mI z5, mI z6, mL (mwrapL (z7 + z12)), mJ, mL (mwrapL (z9 + z12)), mJ, mI (mwrap (z11 + 1)), mL z12, mJ, mI z14, mJ, mJ], [], y2.1))))))
 else
  (Option.bind (srun (lyT Ln) (d, 183, 0, [mI z6, mI z14], [], σ)) (fun y3 =>
  (bif decide (¬ y3.2 = 0) then
   (Option.bind (srun (lyT Ln) (d, 183, 0, [mI z11, mI z14], [], y3.1)) (fun y4 =>
   (bif decide (y4.2 = 0) then
    (Option.bind (srun (lyT Ln) (d, 183, 0, [mI z11, mI z14], [], y4.1)) (fun y5 =>
    (bif decide (y5.2 = 0) then
     (Option.bind (srun (lyT Ln) (d, 185, 0, [mR 96, mI z14, mI 2], [], y5.1)) (fun y6 =>
     (bif minb (mwrap ((mwrap (11 + (mwrap (3 * z14)))) + 2)) 52 then
     srun (lyT Ln) ((d + 1), 226, 78, [mR 92, mI z1, mI z2, mI z3, mI z4, mI z5, mI z6, mL z7, mJ, mL z9, mJ, mI z11, mL (mwrapL (z12 * (mwrapL (10 - z4)))), mJ, mI (mwrap (z14 + 1)), mJ, mJ], [], (mup y6.1 98 (Int.toNat (mwrap ((mwrap (11 + (mwrap (3 * z14)))) + 2))) y6.2))
     else none)))
    else
     (bif minb (mwrap ((mwrap (11 + (mwrap (3 * z14)))) + 2)) 52 then
     srun (lyT Ln) ((d + 1), 226, 78, [mR 92, mI z1, mI z2, mI z3, mI z4, mI z5, mI z6, mL z7, mJ, mL z9, mJ, mI z11, mL (mwrapL (z12 * (mwrapL (10 - z4)))), mJ, mI (mwrap (z14 + 1)), mJ, mJ], [], (mup y5.1 98 (Int.toNat (mwrap ((mwrap (11 + (mwrap (3 * z14)))) + 2))) 0))
     else none))))
   else
    (Option.bind (srun (lyT Ln) (d, 183, 0, [mI z11, mI z14], [], y4.1)) (fun y7 =>
    (bif decide (y7.2 = 0) then
     (Option.bind (srun (lyT Ln) (d, 185, 0, [mR 96, mI z14, mI 2], [], y7.1)) (fun y8 =>
     (bif minb (mwrap ((mwrap (11 + (mwrap (3 * z14)))) + 2)) 52 then
     srun (lyT Ln) ((d + 1), 226, 78, [mR 92, mI z1, mI z2, mI z3, mI z4, mI z5, mI z6, mL z7, mJ, mL z9, mJ, mI z11, mL (mwrapL (z12 * z4)), mJ, mI (mwrap (z14 + 1)), mJ, mJ], [], (mup y8.1 98 (Int.toNat (mwrap ((mwrap (11 + (mwrap (3 * z14)))) + 2))) y8.2))
     else none)))
    else
     (bif minb (mwrap ((mwrap (11 + (mwrap (3 * z14)))) + 2)) 52 then
     srun (lyT Ln) ((d + 1), 226, 78, [mR 92, mI z1, mI z2, mI z3, mI z4, mI z5, mI z6, mL z7, mJ, mL z9, mJ, mI z11, mL (mwrapL (z12 * z4)), mJ, mI (mwrap (z14 + 1)), mJ, mJ], [], (mup y7.1 98 (Int.toNat (mwrap ((mwrap (11 + (mwrap (3 * z14)))) + 2))) 0))
     else none)))))))
  else
   (Option.bind (srun (lyT Ln) (d, 183, 0, [mI z11, mI z14], [], y3.1)) (fun y9 =>
   (bif decide (y9.2 = 0) then
    (Option.bind (srun (lyT Ln) (d, 185, 0, [mR 96, mI z14, mI 2], [], y9.1)) (fun y10 =>
    (bif minb (mwrap ((mwrap (11 + (mwrap (3 * z14)))) + 2)) 52 then
    srun (lyT Ln) ((d + 1), 226, 78, [mR 92, mI z1, mI z2, mI z3, mI z4, mI z5, mI z6, mL z7, mJ, mL z9, mJ, mI z11, mL (mwrapL (z12 * 1)), mJ, mI (mwrap (z14 + 1)), mJ, mJ], [], (mup y10.1 98 (Int.toNat (mwrap ((mwrap (11 + (mwrap (3 * z14)))) + 2))) y10.2))
    else none)))
   else
    (bif minb (mwrap ((mwrap (11 + (mwrap (3 * z14)))) + 2)) 52 then
    srun (lyT Ln) ((d + 1), 226, 78, [mR 92, mI z1, mI z2, mI z3, mI z4, mI z5, mI z6, mL z7, mJ, mL z9, mJ, mI z11, mL (mwrapL (z12 * 1)), mJ, mI (mwrap (z14 + 1)), mJ, mJ], [], (mup y9.1 98 (Int.toNat (mwrap ((mwrap (11 + (mwrap (3 * z14)))) + 2))) 0))
    else none)))))))) := by
  exact (srun_unr _ [35, 63, 78, 154] 42 _).trans rfl
theorem b_M_snow_154 (Ln d : Nat) (σ : mmSt) (z1 z2 z3 z4 z5 z6 z7 z9 z11 z13 : Int) (v15 : mmV) : srun (lyT Ln) ((d + 1), 226, 154, [mR 92, mI z1, mI z2, mI z3, mI z4, mI z5, mI z6, mL z7, mJ, mL z9, mJ, mL z11, mJ, mL z13, mJ, v15, mJ], [], σ) =
 (bif decide ((mlcmp z13 0) = 0) then
  (bif decide (¬ z5 = 0) then
   (bif decide (¬ z11 = 0) then
   some (σ, (mwrapL (Int.tdiv z9 z11)))
   else none)
  else
   (bif decide (¬ z11 = 0) then
   some (σ, (mwrapL (Int.tdiv z7 z11)))
   else none))
 else
  (bif decide (¬ z13 = 0) then
  srun (lyT Ln) ((d + 1), 226, 154, [mR 92, mI z1, mI z2, mI z3, mI z4, mI z5, mI z6, mL z7, mJ, mL z9, mJ, mL z13, mJ, mL (Int.tmod z11 z13), mJ, mL (Int.tmod z11 z13), mJ], [], σ)
  else none)) := by
  exact (srun_unr _ [35, 63, 78, 154] 13 _).trans rfl
/-! GridQuarrelsModel.drawn(III)I: method 227; stops [37] -/
theorem b_M_drawn (Ln d : Nat) (σ : mmSt) (x0 x1 x2 : Int) : srun (lyT Ln) ((d + 1), 227, 0, [mR 92, mI x0, mI x1, mI x2, mJ, mJ, mJ, mJ], [], σ) =
 (Option.bind (srun (lyT Ln) (d, 178, 0, [mR 92], [], (mup σ 92 0 0))) (fun y1 =>
 (bif decide (¬ y1.2 = 0) then
  (Option.bind (srun (lyT Ln) (d, 156, 0, [mL x0, mJ, mL 0, mJ, mL 60, mJ], [], y1.1)) (fun y2 =>
  (bif decide (y2.2 = 0) then
   some (y2.1, (-1000001))
  else
   (Option.bind (srun (lyT Ln) (d, 156, 0, [mL x1, mJ, mL 1, mJ, mL 999999, mJ], [], y2.1)) (fun y3 =>
   (bif decide (y3.2 = 0) then
    some (y3.1, (-1000001))
   else
    (Option.bind (srun (lyT Ln) (d, 156, 0, [mL x2, mJ, mL 0, mJ, mL 1, mJ], [], y3.1)) (fun y4 =>
    (bif decide (¬ y4.2 = 0) then
     (Option.bind (srun (lyT Ln) (d, 193, 0, [mR 92, mJ], [], y4.1)) (fun y5 =>
     srun (lyT Ln) ((d + 1), 227, 37, [mR 92, mI x0, mI x1, mI x2, mL x1, mJ, mI 0, mI 0], [], y5.1)))
    else
     some (y4.1, (-1000001)))))))))))
 else
  some (y1.1, (-1000002))))) := by
  exact (srun_unr _ [37] 33 _).trans rfl
set_option maxRecDepth 100000 in
theorem b_M_drawn_37 (Ln d : Nat) (σ : mmSt) (z1 z2 z3 z4 z6 z7 : Int) : srun (lyT Ln) ((d + 1), 227, 37, [mR 92, mI z1, mI z2, mI z3, mL z4, mJ, mI z6, mI z7], [], σ) =
 (bif decide (z1 ≤ z7) then
  (bif decide (¬ z3 = 0) then
   some (σ, z6)
  else
   (Option.bind (srun (lyT Ln) (d, 194, 0, [mR 98, mJ, mJ], [], σ)) (fun y1 =>
   some (y1.1, y1.2))))
 else
  (bif decide (¬ 2147483647 = 0) then
  (bif decide (¬ (σ 98 0) = 0) then
  (bif decide (¬ 5 = 0) then
  (Option.bind (srun (lyT Ln) (d, 195, 0, [mR 98, mI (mwrap (Int.tmod (Int.tmod (mwrapL (z4 * 16807)) 2147483647) (σ 98 0))), mI (mwrap (Int.tmod (Int.tmod (mwrapL (z4 * 16807)) 2147483647) 5)), mJ], [], σ)) (fun y2 =>
  (bif decide (¬ 6 = 0) then
  (bif decide (¬ (mlcmp (Int.tmod (Int.tmod (mwrapL (z4 * 16807)) 2147483647) 6) 0) = 0) then
   (Option.bind (srun (lyT Ln) (d, 191, 0, [mR 92, mR 98, mJ, mJ, mJ], [], y2.1)) (fun y3 =>
   srun (lyT Ln) ((d + 1), 227, 37, [mR 92, mI z1, mI z2, mI z3, mL (Int.tmod (mwrapL (z4 * 16807)) 2147483647), mJ, mI (mwrap (z6 + (y3.1 92 21))), mI (mwrap (z7 + 1))], [], y3.1)))
  else
   (bif decide (¬ (y2.1 98 1) = 0) then
   (bif minb (mwrap ((mwrap (11 + (mwrap (3 * (mwrap (Int.tmod (Int.tmod (mwrapL (z4 * 16807)) 2147483647) (y2.1 98 1))))))) + 2)) 52 then
   (Option.bind (srun (lyT Ln) (d, 191, 0, [mR 92, mR 98, mJ, mJ, mJ], [], (mup y2.1 98 (Int.toNat (mwrap ((mwrap (11 + (mwrap (3 * (mwrap (Int.tmod (Int.tmod (mwrapL (z4 * 16807)) 2147483647) (y2.1 98 1))))))) + 2))) 0))) (fun y4 =>
   srun (lyT Ln) ((d + 1), 227, 37, [mR 92, mI z1, mI z2, mI z3, mL (Int.tmod (mwrapL (z4 * 16807)) 2147483647), mJ, mI (mwrap (z6 + (y4.1 92 21))), mI (mwrap (z7 + 1))], [], y4.1)))
   else none)
   else none))
  else none)))
  else none)
  else none)
  else none)) := by
  exact (srun_unr _ [37] 59 _).trans rfl
/-! GridQuarrelsModel.image(I)I: method 228; stops [18] -/
theorem b_M_image (Ln d : Nat) (σ : mmSt) (x0 : Int) : srun (lyT Ln) ((d + 1), 228, 0, [mR 92, mI x0, mJ], [], σ) =
 (Option.bind (srun (lyT Ln) (d, 156, 0, [mL x0, mJ, mL 0, mJ, mL 1, mJ], [], (mup σ 92 0 0))) (fun y1 =>
 (bif decide (¬ y1.2 = 0) then
  (Option.bind (srun (lyT Ln) (d, 178, 0, [mR 92], [], y1.1)) (fun y2 =>
  (bif decide (¬ y2.2 = 0) then
   srun (lyT Ln) ((d + 1), 228, 18, [mR 92, mI x0, mI 0], [], y2.1)
  else
   some (y2.1, (-1000002)))))
 else
  some (y1.1, (-1000001))))) := by
  exact (srun_unr _ [18] 14 _).trans rfl
theorem b_M_image_18 (Ln d : Nat) (σ : mmSt) (z1 z2 : Int) : srun (lyT Ln) ((d + 1), 228, 18, [mR 92, mI z1, mI z2], [], σ) =
 (bif decide (52 ≤ z2) then
  (bif minb z1 2 && true then
  some ((mup σ 102 (Int.toNat z1) 1), 1)
  else none)
 else
  (bif minb z2 52 then
  (bif minb (mwrap ((mwrap (52 * z1)) + z2)) 104 then
  srun (lyT Ln) ((d + 1), 228, 18, [mR 92, mI z1, mI (mwrap (z2 + 1))], [], (mup σ 103 (Int.toNat (mwrap ((mwrap (52 * z1)) + z2))) (σ 96 (Int.toNat z2))))
  else none)
  else none)) := by
  exact (srun_unr _ [18] 17 _).trans rfl
/-! GridQuarrelsModel.restore(I)I: method 229; stops [20] -/
theorem b_M_restore (Ln d : Nat) (σ : mmSt) (x0 : Int) : srun (lyT Ln) ((d + 1), 229, 0, [mR 92, mI x0, mJ], [], σ) =
 (Option.bind (srun (lyT Ln) (d, 156, 0, [mL x0, mJ, mL 0, mJ, mL 1, mJ], [], (mup σ 92 0 0))) (fun y1 =>
 (bif decide (¬ y1.2 = 0) then
  (bif minb x0 2 then
  (bif decide (¬ (y1.1 102 (Int.toNat x0)) = 0) then
   srun (lyT Ln) ((d + 1), 229, 20, [mR 92, mI x0, mI 0], [], y1.1)
  else
   some (y1.1, (-1000002)))
  else none)
 else
  some (y1.1, (-1000001))))) := by
  exact (srun_unr _ [20] 16 _).trans rfl
theorem b_M_restore_20 (Ln d : Nat) (σ : mmSt) (z1 z2 : Int) : srun (lyT Ln) ((d + 1), 229, 20, [mR 92, mI z1, mI z2], [], σ) =
 (bif decide (52 ≤ z2) then
  some ((mup σ 92 9 0), 1)
 else
  (bif minb (mwrap ((mwrap (52 * z1)) + z2)) 104 then
  (bif minb z2 52 then
  srun (lyT Ln) ((d + 1), 229, 20, [mR 92, mI z1, mI (mwrap (z2 + 1))], [], (mup σ 96 (Int.toNat z2) (σ 103 (Int.toNat (mwrap ((mwrap (52 * z1)) + z2))))))
  else none)
  else none)) := by
  exact (srun_unr _ [20] 17 _).trans rfl
/-! GridQuarrelsModel.isOf(II)Z: method 230; stops [] -/
theorem b_M_isOf (Ln d : Nat) (σ : mmSt) (x0 x1 : Int) : srun (lyT Ln) ((d + 1), 230, 0, [mI x0, mI x1], [], σ) =
 (bif decide (x1 = 0) then
  some (σ, 1)
 else
  (bif decide (x0 = x1) then
   some (σ, 1)
  else
   (bif decide (¬ x1 = 1) then
    (bif decide (¬ x1 = 4) then
     some (σ, 0)
    else
     (bif decide (¬ x0 = 5) then
      some (σ, 0)
     else
      some (σ, 1)))
   else
    (bif decide (x0 < 4) then
     some (σ, 1)
    else
     (bif decide (¬ x1 = 4) then
      some (σ, 0)
     else
      (bif decide (¬ x0 = 5) then
       some (σ, 0)
      else
       some (σ, 1))))))) := by
  exact (srun_unr _ [] 20 _).trans rfl
/-! GridQuarrelsModel.kind(I)I: method 231; stops [] -/
theorem b_M_kind (Ln d : Nat) (σ : mmSt) (x0 : Int) : srun (lyT Ln) ((d + 1), 231, 0, [mR 92, mI x0], [], σ) =
 (Option.bind (srun (lyT Ln) (d, 181, 0, [mR 92, mI x0], [], (mup σ 92 0 0))) (fun y1 =>
 (bif decide (y1.2 = 0) then
  some (y1.1, (-1000001))
 else
  (Option.bind (srun (lyT Ln) (d, 184, 0, [mR 96, mI x0, mI 0], [], y1.1)) (fun y2 =>
  some (y2.1, y2.2)))))) := by
  exact (srun_unr _ [] 14 _).trans rfl
/-! GridQuarrelsModel.as(II)I: method 232; stops [] -/
theorem b_M_as (Ln d : Nat) (σ : mmSt) (x0 x1 : Int) : srun (lyT Ln) ((d + 1), 232, 0, [mR 92, mI x0, mI x1], [], σ) =
 (Option.bind (srun (lyT Ln) (d, 181, 0, [mR 92, mI x0], [], (mup σ 92 0 0))) (fun y1 =>
 (bif decide (y1.2 = 0) then
  some (y1.1, (-1000001))
 else
  (Option.bind (srun (lyT Ln) (d, 156, 0, [mL x1, mJ, mL 0, mJ, mL 5, mJ], [], y1.1)) (fun y2 =>
  (bif decide (¬ y2.2 = 0) then
   (Option.bind (srun (lyT Ln) (d, 184, 0, [mR 96, mI x0, mI 0], [], (mup y2.1 92 1 0))) (fun y3 =>
   (Option.bind (srun (lyT Ln) (d, 230, 0, [mI y3.2, mI x1], [], y3.1)) (fun y4 =>
   (bif decide (y4.2 = 0) then
    (Option.bind (srun (lyT Ln) (d, 157, 0, [mR 92, mI 3], [], y4.1)) (fun y5 =>
    some (y5.1, y5.2)))
   else
    some (y4.1, x0))))))
  else
   some (y2.1, (-1000001)))))))) := by
  exact (srun_unr _ [] 28 _).trans rfl
/-! GridQuarrelsModel.began(I)V: method 233; stops [] -/
theorem b_M_began (Ln d : Nat) (σ : mmSt) (x0 : Int) : srun (lyT Ln) ((d + 1), 233, 0, [mR 92, mI x0], [], σ) =
 (bif decide (16 ≤ (σ 92 26)) then
  some (σ, 0)
 else
  (bif minb (σ 92 26) 16 then
  some ((mup (mup σ 104 (Int.toNat (σ 92 26)) x0) 92 26 (mwrap (((mup σ 104 (Int.toNat (σ 92 26)) x0) 92 26) + 1))), 0)
  else none)) := by
  exact (srun_unr _ [] 17 _).trans rfl
/-! GridQuarrelsModel.plainSize(I)I: method 234; stops [] -/
theorem b_M_plainSize (Ln d : Nat) (σ : mmSt) (x0 : Int) : srun (lyT Ln) ((d + 1), 234, 0, [mR 92, mI x0], [], σ) =
 (Option.bind (srun (lyT Ln) (d, 233, 0, [mR 92, mI 10], [], σ)) (fun y1 =>
 (Option.bind (srun (lyT Ln) (d, 184, 0, [mR 96, mI x0, mI 2], [], y1.1)) (fun y2 =>
 some (y2.1, y2.2))))) := by
  exact (srun_unr _ [] 9 _).trans rfl
/-! GridQuarrelsModel.bullSize(I)I: method 235; stops [] -/
theorem b_M_bullSize (Ln d : Nat) (σ : mmSt) (x0 : Int) : srun (lyT Ln) ((d + 1), 235, 0, [mR 92, mI x0, mJ, mJ], [], σ) =
 (Option.bind (srun (lyT Ln) (d, 184, 0, [mR 96, mI x0, mI 0], [], σ)) (fun y1 =>
 (bif decide (¬ y1.2 = 5) then
  (Option.bind (srun (lyT Ln) (d, 233, 0, [mR 92, mI 13], [], y1.1)) (fun y2 =>
  (Option.bind (srun (lyT Ln) (d, 234, 0, [mR 92, mI x0], [], y2.1)) (fun y3 =>
  some (y3.1, (mwrap (y3.2 - 100)))))))
 else
  (Option.bind (srun (lyT Ln) (d, 233, 0, [mR 92, mI 14], [], y1.1)) (fun y4 =>
  (Option.bind (srun (lyT Ln) (d, 233, 0, [mR 92, mI 13], [], y4.1)) (fun y5 =>
  (Option.bind (srun (lyT Ln) (d, 234, 0, [mR 92, mI x0], [], y5.1)) (fun y6 =>
  some (y6.1, (mwrap (2 * (mwrap (y6.2 - 100)))))))))))))) := by
  exact (srun_unr _ [] 31 _).trans rfl
/-! GridQuarrelsModel.markOf(I)I: method 236; stops [] -/
theorem b_M_markOf (Ln d : Nat) (σ : mmSt) (x0 : Int) : srun (lyT Ln) ((d + 1), 236, 0, [mR 92, mI x0, mJ, mJ], [], σ) =
 (Option.bind (srun (lyT Ln) (d, 184, 0, [mR 96, mI x0, mI 0], [], σ)) (fun y1 =>
 (bif decide (y1.2 < 4) then
  (bif decide (y1.2 = 1) then
   (Option.bind (srun (lyT Ln) (d, 233, 0, [mR 92, mI 21], [], y1.1)) (fun y2 =>
   (Option.bind (srun (lyT Ln) (d, 233, 0, [mR 92, mI 20], [], y2.1)) (fun y3 =>
   (Option.bind (srun (lyT Ln) (d, 184, 0, [mR 96, mI x0, mI 1], [], y3.1)) (fun y4 =>
   (bif decide (¬ y1.2 = 1) then
    (bif decide (¬ y1.2 = 3) then
     some (y4.1, (mwrap (2 * (mwrap (x0 + y4.2)))))
    else
     some (y4.1, (mwrap ((mwrap (x0 + y4.2)) - 1000))))
   else
    some (y4.1, (mwrap (x0 + y4.2))))))))))
  else
   (bif decide (¬ y1.2 = 3) then
    (Option.bind (srun (lyT Ln) (d, 233, 0, [mR 92, mI 24], [], y1.1)) (fun y5 =>
    (Option.bind (srun (lyT Ln) (d, 233, 0, [mR 92, mI 21], [], y5.1)) (fun y6 =>
    (Option.bind (srun (lyT Ln) (d, 233, 0, [mR 92, mI 20], [], y6.1)) (fun y7 =>
    (Option.bind (srun (lyT Ln) (d, 184, 0, [mR 96, mI x0, mI 1], [], y7.1)) (fun y8 =>
    (bif decide (¬ y1.2 = 1) then
     (bif decide (¬ y1.2 = 3) then
      some (y8.1, (mwrap (2 * (mwrap (x0 + y8.2)))))
     else
      some (y8.1, (mwrap ((mwrap (x0 + y8.2)) - 1000))))
    else
     some (y8.1, (mwrap (x0 + y8.2))))))))))))
   else
    (Option.bind (srun (lyT Ln) (d, 233, 0, [mR 92, mI 22], [], y1.1)) (fun y9 =>
    (Option.bind (srun (lyT Ln) (d, 233, 0, [mR 92, mI 21], [], y9.1)) (fun y10 =>
    (Option.bind (srun (lyT Ln) (d, 233, 0, [mR 92, mI 20], [], y10.1)) (fun y11 =>
    (Option.bind (srun (lyT Ln) (d, 184, 0, [mR 96, mI x0, mI 1], [], y11.1)) (fun y12 =>
    (bif decide (¬ y1.2 = 1) then
     (bif decide (¬ y1.2 = 3) then
      some (y12.1, (mwrap (2 * (mwrap (x0 + y12.2)))))
     else
      some (y12.1, (mwrap ((mwrap (x0 + y12.2)) - 1000))))
    else
     some (y12.1, (mwrap (x0 + y12.2))))))))))))))
 else
  (Option.bind (srun (lyT Ln) (d, 233, 0, [mR 92, mI 23], [], y1.1)) (fun y13 =>
  (Option.bind (srun (lyT Ln) (d, 233, 0, [mR 92, mI 20], [], y13.1)) (fun y14 =>
  (Option.bind (srun (lyT Ln) (d, 235, 0, [mR 92, mI x0, mJ, mJ], [], y14.1)) (fun y15 =>
  some (y15.1, (mwrap (x0 - y15.2)))))))))))) := by
  exact (srun_unr _ [] 44 _).trans rfl
/-! GridQuarrelsModel.sizeOf(I)I: method 237; stops [] -/
theorem b_M_sizeOf (Ln d : Nat) (σ : mmSt) (x0 : Int) : srun (lyT Ln) ((d + 1), 237, 0, [mR 92, mI x0, mJ, mJ], [], σ) =
 (Option.bind (srun (lyT Ln) (d, 184, 0, [mR 96, mI x0, mI 0], [], σ)) (fun y1 =>
 (bif decide (y1.2 < 4) then
  (bif decide (¬ y1.2 = 2) then
   (Option.bind (srun (lyT Ln) (d, 233, 0, [mR 92, mI 11], [], y1.1)) (fun y2 =>
   (Option.bind (srun (lyT Ln) (d, 234, 0, [mR 92, mI x0], [], y2.1)) (fun y3 =>
   (Option.bind (srun (lyT Ln) (d, 236, 0, [mR 92, mI x0, mJ, mJ], [], y3.1)) (fun y4 =>
   (bif decide (¬ y1.2 = 2) then
    some (y4.1, (mwrap (y3.2 + y4.2)))
   else
    some (y4.1, (mwrap (-(mwrap (y3.2 + y4.2))))))))))))
  else
   (Option.bind (srun (lyT Ln) (d, 233, 0, [mR 92, mI 12], [], y1.1)) (fun y5 =>
   (Option.bind (srun (lyT Ln) (d, 233, 0, [mR 92, mI 11], [], y5.1)) (fun y6 =>
   (Option.bind (srun (lyT Ln) (d, 234, 0, [mR 92, mI x0], [], y6.1)) (fun y7 =>
   (Option.bind (srun (lyT Ln) (d, 236, 0, [mR 92, mI x0, mJ, mJ], [], y7.1)) (fun y8 =>
   (bif decide (¬ y1.2 = 2) then
    some (y8.1, (mwrap (y7.2 + y8.2)))
   else
    some (y8.1, (mwrap (-(mwrap (y7.2 + y8.2)))))))))))))))
 else
  (Option.bind (srun (lyT Ln) (d, 235, 0, [mR 92, mI x0, mJ, mJ], [], y1.1)) (fun y9 =>
  some (y9.1, y9.2)))))) := by
  exact (srun_unr _ [] 35 _).trans rfl
/-! GridQuarrelsModel.ask(II)I: method 238; stops [] -/
theorem b_M_ask (Ln d : Nat) (σ : mmSt) (x0 x1 : Int) : srun (lyT Ln) ((d + 1), 238, 0, [mR 92, mI x0, mI x1], [], σ) =
 (Option.bind (srun (lyT Ln) (d, 181, 0, [mR 92, mI x0], [], (mup σ 92 0 0))) (fun y1 =>
 (bif decide (y1.2 = 0) then
  some (y1.1, (-1000001))
 else
  (Option.bind (srun (lyT Ln) (d, 156, 0, [mL x1, mJ, mL 0, mJ, mL 1, mJ], [], y1.1)) (fun y2 =>
  (bif decide (¬ y2.2 = 0) then
   (bif decide (¬ x1 = 0) then
    (Option.bind (srun (lyT Ln) (d, 236, 0, [mR 92, mI x0, mJ, mJ], [], (mup y2.1 92 26 0))) (fun y3 =>
    some (y3.1, y3.2)))
   else
    (Option.bind (srun (lyT Ln) (d, 237, 0, [mR 92, mI x0, mJ, mJ], [], (mup y2.1 92 26 0))) (fun y4 =>
    some (y4.1, y4.2))))
  else
   some (y2.1, (-1000001)))))))) := by
  exact (srun_unr _ [] 23 _).trans rfl
/-! GridQuarrelsModel.trace(I)I: method 239; stops [] -/
theorem b_M_trace (Ln d : Nat) (σ : mmSt) (x0 : Int) : srun (lyT Ln) ((d + 1), 239, 0, [mR 92, mI x0], [], σ) =
 (Option.bind (srun (lyT Ln) (d, 156, 0, [mL x0, mJ, mL 0, mJ, mL (mwrap (((mup σ 92 0 0) 92 26) - 1)), mJ], [], (mup σ 92 0 0))) (fun y1 =>
 (bif decide (y1.2 = 0) then
  some (y1.1, (-1000000))
 else
  (bif minb x0 16 then
  some (y1.1, (y1.1 104 (Int.toNat x0)))
  else none)))) := by
  exact (srun_unr _ [] 19 _).trans rfl
/-! GridQuarrelsModel.count(I)I: method 240; stops [9, 49] -/
theorem b_M_count (Ln d : Nat) (σ : mmSt) (x0 : Int) : srun (lyT Ln) ((d + 1), 240, 0, [mR 92, mI x0, mJ, mJ], [], σ) =
 (bif decide (x0 = 0) then
 srun (lyT Ln) ((d + 1), 240, 9, [mR 92, mI x0, mI 0, mI 0], [], (mup σ 92 0 0))
 else
 (bif decide (x0 = 1) then
 some ((mup σ 92 0 0), ((mup σ 92 0 0) 96 0))
 else
 (bif decide (x0 = 2) then
 some ((mup σ 92 0 0), ((mup σ 92 0 0) 96 1))
 else
 (bif decide (x0 = 3) then
 some ((mup σ 92 0 0), ((mup σ 92 0 0) 96 2))
 else
 (bif decide (x0 = 4) then
 some ((mup σ 92 0 0), ((mup σ 92 0 0) 96 3))
 else
 (bif decide (x0 = 5) then
 srun (lyT Ln) ((d + 1), 240, 49, [mR 92, mI x0, mI 0, mI 0], [], (mup σ 92 0 0))
 else
 (bif decide (x0 = 6) then
 some ((mup σ 92 0 0), ((mup σ 92 0 0) 92 9))
 else
 (bif decide (x0 = 7) then
 some ((mup σ 92 0 0), ((mup σ 92 0 0) 92 11))
 else
 some ((mup σ 92 0 0), (-1000001)))))))))) := by
  exact (srun_unr _ [9, 49] 12 _).trans rfl
theorem b_M_count_9 (Ln d : Nat) (σ : mmSt) (z1 z2 z3 : Int) : srun (lyT Ln) ((d + 1), 240, 9, [mR 92, mI z1, mI z2, mI z3], [], σ) =
 (bif decide (8 ≤ z3) then
  some (σ, z2)
 else
  (bif minb z3 8 then
  (bif decide ((σ 93 (Int.toNat z3)) < 0) then
   srun (lyT Ln) ((d + 1), 240, 9, [mR 92, mI z1, mI (mwrap (z2 + 0)), mI (mwrap (z3 + 1))], [], σ)
  else
   srun (lyT Ln) ((d + 1), 240, 9, [mR 92, mI z1, mI (mwrap (z2 + 1)), mI (mwrap (z3 + 1))], [], σ))
  else none)) := by
  exact (srun_unr _ [9, 49] 15 _).trans rfl
theorem b_M_count_49 (Ln d : Nat) (σ : mmSt) (z1 z2 z3 : Int) : srun (lyT Ln) ((d + 1), 240, 49, [mR 92, mI z1, mI z2, mI z3], [], σ) =
 (bif decide (7 ≤ z3) then
  some (σ, z2)
 else
  (bif minb (mwrap (4 + z3)) 52 then
  srun (lyT Ln) ((d + 1), 240, 49, [mR 92, mI z1, mI (mwrap (z2 + (σ 96 (Int.toNat (mwrap (4 + z3)))))), mI (mwrap (z3 + 1))], [], σ)
  else none)) := by
  exact (srun_unr _ [9, 49] 14 _).trans rfl
/-! GridQuarrelsModel.status()I: method 241; stops [] -/
theorem b_M_status (Ln d : Nat) (σ : mmSt) : srun (lyT Ln) ((d + 1), 241, 0, [mR 92], [], σ) =
 some ((mup σ 92 0 0), ((mup σ 92 0 0) 92 1)) := by
  exact (srun_unr _ [] 6 _).trans rfl
end

section
-- ===== PART A: goes FIRST, ahead of the names: the tables' words, and 'selects' of the private methods out of them =====
/-- a private method of a class that the tables say can be made, by its rows of tables_1 -/
def lw_okq (q : MethodName × Nat) : Prop := (q.1.cls ≠ "java/lang/invoke/MethodHandle" ∧ q.1.cls ≠ "java/lang/invoke/VarHandle") ∧ Cond.instantiable q.1.cls q.2 ∈ tables_1 ∧ Cond.privateMethod q.1 ∈ tables_1 ∧ Cond.instanceMethod q.1 ∈ tables_1
theorem lw_p0 : lw_okq (⟨"FilterForge$Tape", "hasRoom", "(I)Z"⟩, 2) := ⟨⟨by decide +kernel, by decide +kernel⟩, List.mem_of_getElem? (i := 37) (by decide +kernel), List.mem_of_getElem? (i := 429) (by decide +kernel), List.mem_of_getElem? (i := 430) (by decide +kernel)⟩
theorem lw_p1 : lw_okq (⟨"FilterForge$Tape", "put", "(I)V"⟩, 2) := ⟨⟨by decide +kernel, by decide +kernel⟩, List.mem_of_getElem? (i := 37) (by decide +kernel), List.mem_of_getElem? (i := 433) (by decide +kernel), List.mem_of_getElem? (i := 434) (by decide +kernel)⟩
theorem lw_p2 : lw_okq (⟨"FilterForge$Packets", "add", "(LFilterForge$Tape;)I"⟩, 3) := ⟨⟨by decide +kernel, by decide +kernel⟩, List.mem_of_getElem? (i := 56) (by decide +kernel), List.mem_of_getElem? (i := 446) (by decide +kernel), List.mem_of_getElem? (i := 447) (by decide +kernel)⟩
theorem lw_p3 : lw_okq (⟨"FilterForge$Tape", "at", "(I)I"⟩, 2) := ⟨⟨by decide +kernel, by decide +kernel⟩, List.mem_of_getElem? (i := 37) (by decide +kernel), List.mem_of_getElem? (i := 450) (by decide +kernel), List.mem_of_getElem? (i := 451) (by decide +kernel)⟩
theorem lw_p4 : lw_okq (⟨"FilterForge$Packets", "eightFrom", "(II)J"⟩, 3) := ⟨⟨by decide +kernel, by decide +kernel⟩, List.mem_of_getElem? (i := 56) (by decide +kernel), List.mem_of_getElem? (i := 458) (by decide +kernel), List.mem_of_getElem? (i := 459) (by decide +kernel)⟩
theorem lw_p5 : lw_okq (⟨"FilterForge$Packets", "at", "(IJ)I"⟩, 3) := ⟨⟨by decide +kernel, by decide +kernel⟩, List.mem_of_getElem? (i := 56) (by decide +kernel), List.mem_of_getElem? (i := 462) (by decide +kernel), List.mem_of_getElem? (i := 463) (by decide +kernel)⟩
theorem lw_p6 : lw_okq (⟨"FilterForge$Packets", "lengthOf", "(I)I"⟩, 3) := ⟨⟨by decide +kernel, by decide +kernel⟩, List.mem_of_getElem? (i := 56) (by decide +kernel), List.mem_of_getElem? (i := 466) (by decide +kernel), List.mem_of_getElem? (i := 467) (by decide +kernel)⟩
theorem lw_p7 : lw_okq (⟨"FilterForge$Reader", "begin", "(LFilterForge$Filter;)V"⟩, 6) := ⟨⟨by decide +kernel, by decide +kernel⟩, List.mem_of_getElem? (i := 236) (by decide +kernel), List.mem_of_getElem? (i := 475) (by decide +kernel), List.mem_of_getElem? (i := 476) (by decide +kernel)⟩
theorem lw_p8 : lw_okq (⟨"FilterForge$Filter", "clear", "()V"⟩, 18) := ⟨⟨by decide +kernel, by decide +kernel⟩, List.mem_of_getElem? (i := 142) (by decide +kernel), List.mem_of_getElem? (i := 479) (by decide +kernel), List.mem_of_getElem? (i := 480) (by decide +kernel)⟩
theorem lw_p9 : lw_okq (⟨"FilterForge$Reader", "next", "()V"⟩, 6) := ⟨⟨by decide +kernel, by decide +kernel⟩, List.mem_of_getElem? (i := 236) (by decide +kernel), List.mem_of_getElem? (i := 483) (by decide +kernel), List.mem_of_getElem? (i := 484) (by decide +kernel)⟩
theorem lw_p10 : lw_okq (⟨"FilterForge$Reader", "behindBlanks", "(I)I"⟩, 6) := ⟨⟨by decide +kernel, by decide +kernel⟩, List.mem_of_getElem? (i := 236) (by decide +kernel), List.mem_of_getElem? (i := 487) (by decide +kernel), List.mem_of_getElem? (i := 488) (by decide +kernel)⟩
theorem lw_p11 : lw_okq (⟨"FilterForge$Reader", "behindWord", "(I)I"⟩, 6) := ⟨⟨by decide +kernel, by decide +kernel⟩, List.mem_of_getElem? (i := 236) (by decide +kernel), List.mem_of_getElem? (i := 495) (by decide +kernel), List.mem_of_getElem? (i := 496) (by decide +kernel)⟩
theorem lw_p12 : lw_okq (⟨"FilterForge$Reader", "fail", "()V"⟩, 6) := ⟨⟨by decide +kernel, by decide +kernel⟩, List.mem_of_getElem? (i := 236) (by decide +kernel), List.mem_of_getElem? (i := 502) (by decide +kernel), List.mem_of_getElem? (i := 503) (by decide +kernel)⟩
theorem lw_p13 : lw_okq (⟨"FilterForge$Reader", "readFilter", "(III)V"⟩, 6) := ⟨⟨by decide +kernel, by decide +kernel⟩, List.mem_of_getElem? (i := 236) (by decide +kernel), List.mem_of_getElem? (i := 506) (by decide +kernel), List.mem_of_getElem? (i := 507) (by decide +kernel)⟩
theorem lw_p14 : lw_okq (⟨"FilterForge$Filter", "newLabel", "()I"⟩, 18) := ⟨⟨by decide +kernel, by decide +kernel⟩, List.mem_of_getElem? (i := 142) (by decide +kernel), List.mem_of_getElem? (i := 510) (by decide +kernel), List.mem_of_getElem? (i := 511) (by decide +kernel)⟩
theorem lw_p15 : lw_okq (⟨"FilterForge$Reader", "readRow", "(III)V"⟩, 6) := ⟨⟨by decide +kernel, by decide +kernel⟩, List.mem_of_getElem? (i := 236) (by decide +kernel), List.mem_of_getElem? (i := 514) (by decide +kernel), List.mem_of_getElem? (i := 515) (by decide +kernel)⟩
def lw_privs_1 : List (MethodName × Nat) := [(⟨"FilterForge$Tape", "hasRoom", "(I)Z"⟩, 2), (⟨"FilterForge$Tape", "put", "(I)V"⟩, 2), (⟨"FilterForge$Packets", "add", "(LFilterForge$Tape;)I"⟩, 3), (⟨"FilterForge$Tape", "at", "(I)I"⟩, 2), (⟨"FilterForge$Packets", "eightFrom", "(II)J"⟩, 3), (⟨"FilterForge$Packets", "at", "(IJ)I"⟩, 3), (⟨"FilterForge$Packets", "lengthOf", "(I)I"⟩, 3), (⟨"FilterForge$Reader", "begin", "(LFilterForge$Filter;)V"⟩, 6), (⟨"FilterForge$Filter", "clear", "()V"⟩, 18), (⟨"FilterForge$Reader", "next", "()V"⟩, 6), (⟨"FilterForge$Reader", "behindBlanks", "(I)I"⟩, 6), (⟨"FilterForge$Reader", "behindWord", "(I)I"⟩, 6), (⟨"FilterForge$Reader", "fail", "()V"⟩, 6), (⟨"FilterForge$Reader", "readFilter", "(III)V"⟩, 6), (⟨"FilterForge$Filter", "newLabel", "()I"⟩, 18), (⟨"FilterForge$Reader", "readRow", "(III)V"⟩, 6)]
theorem lw_r1 : ∀ q ∈ lw_privs_1, lw_okq q := List.forall_mem_cons.mpr ⟨lw_p0, List.forall_mem_cons.mpr ⟨lw_p1, List.forall_mem_cons.mpr ⟨lw_p2, List.forall_mem_cons.mpr ⟨lw_p3, List.forall_mem_cons.mpr ⟨lw_p4, List.forall_mem_cons.mpr ⟨lw_p5, List.forall_mem_cons.mpr ⟨lw_p6, List.forall_mem_cons.mpr ⟨lw_p7, List.forall_mem_cons.mpr ⟨lw_p8, List.forall_mem_cons.mpr ⟨lw_p9, List.forall_mem_cons.mpr ⟨lw_p10, List.forall_mem_cons.mpr ⟨lw_p11, List.forall_mem_cons.mpr ⟨lw_p12, List.forall_mem_cons.mpr ⟨lw_p13, List.forall_mem_cons.mpr ⟨lw_p14, List.forall_mem_cons.mpr ⟨lw_p15, fun _ h => absurd h List.not_mem_nil⟩⟩⟩⟩⟩⟩⟩⟩⟩⟩⟩⟩⟩⟩⟩⟩
theorem lw_p16 : lw_okq (⟨"FilterForge$Reader", "readOne", "(III)V"⟩, 6) := ⟨⟨by decide +kernel, by decide +kernel⟩, List.mem_of_getElem? (i := 236) (by decide +kernel), List.mem_of_getElem? (i := 518) (by decide +kernel), List.mem_of_getElem? (i := 519) (by decide +kernel)⟩
theorem lw_p17 : lw_okq (⟨"FilterForge$Reader", "isWord", "(Ljava/lang/String;)Z"⟩, 6) := ⟨⟨by decide +kernel, by decide +kernel⟩, List.mem_of_getElem? (i := 236) (by decide +kernel), List.mem_of_getElem? (i := 523) (by decide +kernel), List.mem_of_getElem? (i := 524) (by decide +kernel)⟩
theorem lw_p18 : lw_okq (⟨"FilterForge$Reader", "beginsRelation", "()Z"⟩, 6) := ⟨⟨by decide +kernel, by decide +kernel⟩, List.mem_of_getElem? (i := 236) (by decide +kernel), List.mem_of_getElem? (i := 575) (by decide +kernel), List.mem_of_getElem? (i := 576) (by decide +kernel)⟩
theorem lw_p19 : lw_okq (⟨"FilterForge$Reader", "number", "()J"⟩, 6) := ⟨⟨by decide +kernel, by decide +kernel⟩, List.mem_of_getElem? (i := 236) (by decide +kernel), List.mem_of_getElem? (i := 580) (by decide +kernel), List.mem_of_getElem? (i := 581) (by decide +kernel)⟩
theorem lw_p20 : lw_okq (⟨"FilterForge$Reader", "hexadecimal", "()J"⟩, 6) := ⟨⟨by decide +kernel, by decide +kernel⟩, List.mem_of_getElem? (i := 236) (by decide +kernel), List.mem_of_getElem? (i := 585) (by decide +kernel), List.mem_of_getElem? (i := 586) (by decide +kernel)⟩
theorem lw_p21 : lw_okq (⟨"FilterForge$Reader", "digits", "(IIJ)J"⟩, 6) := ⟨⟨by decide +kernel, by decide +kernel⟩, List.mem_of_getElem? (i := 236) (by decide +kernel), List.mem_of_getElem? (i := 594) (by decide +kernel), List.mem_of_getElem? (i := 595) (by decide +kernel)⟩
theorem lw_p22 : lw_okq (⟨"FilterForge$Reader", "protocol", "()I"⟩, 6) := ⟨⟨by decide +kernel, by decide +kernel⟩, List.mem_of_getElem? (i := 236) (by decide +kernel), List.mem_of_getElem? (i := 600) (by decide +kernel), List.mem_of_getElem? (i := 601) (by decide +kernel)⟩
theorem lw_p23 : lw_okq (⟨"FilterForge$Reader", "readRelation", "(II)V"⟩, 6) := ⟨⟨by decide +kernel, by decide +kernel⟩, List.mem_of_getElem? (i := 236) (by decide +kernel), List.mem_of_getElem? (i := 611) (by decide +kernel), List.mem_of_getElem? (i := 612) (by decide +kernel)⟩
theorem lw_p24 : lw_okq (⟨"FilterForge$Filter", "askNothing", "()V"⟩, 18) := ⟨⟨by decide +kernel, by decide +kernel⟩, List.mem_of_getElem? (i := 142) (by decide +kernel), List.mem_of_getElem? (i := 615) (by decide +kernel), List.mem_of_getElem? (i := 616) (by decide +kernel)⟩
theorem lw_p25 : lw_okq (⟨"FilterForge$Reader", "readSum", "(II)Z"⟩, 6) := ⟨⟨by decide +kernel, by decide +kernel⟩, List.mem_of_getElem? (i := 236) (by decide +kernel), List.mem_of_getElem? (i := 619) (by decide +kernel), List.mem_of_getElem? (i := 620) (by decide +kernel)⟩
theorem lw_p26 : lw_okq (⟨"FilterForge$Reader", "readProduct", "(II)Z"⟩, 6) := ⟨⟨by decide +kernel, by decide +kernel⟩, List.mem_of_getElem? (i := 236) (by decide +kernel), List.mem_of_getElem? (i := 623) (by decide +kernel), List.mem_of_getElem? (i := 624) (by decide +kernel)⟩
theorem lw_p27 : lw_okq (⟨"FilterForge$Reader", "readAtom", "(II)Z"⟩, 6) := ⟨⟨by decide +kernel, by decide +kernel⟩, List.mem_of_getElem? (i := 236) (by decide +kernel), List.mem_of_getElem? (i := 627) (by decide +kernel), List.mem_of_getElem? (i := 628) (by decide +kernel)⟩
theorem lw_p28 : lw_okq (⟨"FilterForge$Reader", "readBareAtom", "(II)Z"⟩, 6) := ⟨⟨by decide +kernel, by decide +kernel⟩, List.mem_of_getElem? (i := 236) (by decide +kernel), List.mem_of_getElem? (i := 631) (by decide +kernel), List.mem_of_getElem? (i := 632) (by decide +kernel)⟩
theorem lw_p29 : lw_okq (⟨"FilterForge$Filter", "item", "(III)V"⟩, 18) := ⟨⟨by decide +kernel, by decide +kernel⟩, List.mem_of_getElem? (i := 142) (by decide +kernel), List.mem_of_getElem? (i := 635) (by decide +kernel), List.mem_of_getElem? (i := 636) (by decide +kernel)⟩
theorem lw_p30 : lw_okq (⟨"FilterForge$Filter", "hideNumber", "()V"⟩, 18) := ⟨⟨by decide +kernel, by decide +kernel⟩, List.mem_of_getElem? (i := 142) (by decide +kernel), List.mem_of_getElem? (i := 639) (by decide +kernel), List.mem_of_getElem? (i := 640) (by decide +kernel)⟩
theorem lw_p31 : lw_okq (⟨"FilterForge$Reader", "take", "(I)V"⟩, 6) := ⟨⟨by decide +kernel, by decide +kernel⟩, List.mem_of_getElem? (i := 236) (by decide +kernel), List.mem_of_getElem? (i := 643) (by decide +kernel), List.mem_of_getElem? (i := 644) (by decide +kernel)⟩
def lw_privs_2 : List (MethodName × Nat) := [(⟨"FilterForge$Reader", "readOne", "(III)V"⟩, 6), (⟨"FilterForge$Reader", "isWord", "(Ljava/lang/String;)Z"⟩, 6), (⟨"FilterForge$Reader", "beginsRelation", "()Z"⟩, 6), (⟨"FilterForge$Reader", "number", "()J"⟩, 6), (⟨"FilterForge$Reader", "hexadecimal", "()J"⟩, 6), (⟨"FilterForge$Reader", "digits", "(IIJ)J"⟩, 6), (⟨"FilterForge$Reader", "protocol", "()I"⟩, 6), (⟨"FilterForge$Reader", "readRelation", "(II)V"⟩, 6), (⟨"FilterForge$Filter", "askNothing", "()V"⟩, 18), (⟨"FilterForge$Reader", "readSum", "(II)Z"⟩, 6), (⟨"FilterForge$Reader", "readProduct", "(II)Z"⟩, 6), (⟨"FilterForge$Reader", "readAtom", "(II)Z"⟩, 6), (⟨"FilterForge$Reader", "readBareAtom", "(II)Z"⟩, 6), (⟨"FilterForge$Filter", "item", "(III)V"⟩, 18), (⟨"FilterForge$Filter", "hideNumber", "()V"⟩, 18), (⟨"FilterForge$Reader", "take", "(I)V"⟩, 6)]
theorem lw_r2 : ∀ q ∈ lw_privs_2, lw_okq q := List.forall_mem_cons.mpr ⟨lw_p16, List.forall_mem_cons.mpr ⟨lw_p17, List.forall_mem_cons.mpr ⟨lw_p18, List.forall_mem_cons.mpr ⟨lw_p19, List.forall_mem_cons.mpr ⟨lw_p20, List.forall_mem_cons.mpr ⟨lw_p21, List.forall_mem_cons.mpr ⟨lw_p22, List.forall_mem_cons.mpr ⟨lw_p23, List.forall_mem_cons.mpr ⟨lw_p24, List.forall_mem_cons.mpr ⟨lw_p25, List.forall_mem_cons.mpr ⟨lw_p26, List.forall_mem_cons.mpr ⟨lw_p27, List.forall_mem_cons.mpr ⟨lw_p28, List.forall_mem_cons.mpr ⟨lw_p29, List.forall_mem_cons.mpr ⟨lw_p30, List.forall_mem_cons.mpr ⟨lw_p31, fun _ h => absurd h List.not_mem_nil⟩⟩⟩⟩⟩⟩⟩⟩⟩⟩⟩⟩⟩⟩⟩⟩
theorem lw_p32 : lw_okq (⟨"FilterForge$Reader", "readAccess", "(II)V"⟩, 6) := ⟨⟨by decide +kernel, by decide +kernel⟩, List.mem_of_getElem? (i := 236) (by decide +kernel), List.mem_of_getElem? (i := 647) (by decide +kernel), List.mem_of_getElem? (i := 648) (by decide +kernel)⟩
theorem lw_p33 : lw_okq (⟨"FilterForge$Filter", "ask", "(I)V"⟩, 18) := ⟨⟨by decide +kernel, by decide +kernel⟩, List.mem_of_getElem? (i := 142) (by decide +kernel), List.mem_of_getElem? (i := 651) (by decide +kernel), List.mem_of_getElem? (i := 652) (by decide +kernel)⟩
theorem lw_p34 : lw_okq (⟨"FilterForge$Reader", "takeSize", "()I"⟩, 6) := ⟨⟨by decide +kernel, by decide +kernel⟩, List.mem_of_getElem? (i := 236) (by decide +kernel), List.mem_of_getElem? (i := 655) (by decide +kernel), List.mem_of_getElem? (i := 656) (by decide +kernel)⟩
theorem lw_p35 : lw_okq (⟨"FilterForge$Filter", "access", "(IIII)V"⟩, 18) := ⟨⟨by decide +kernel, by decide +kernel⟩, List.mem_of_getElem? (i := 142) (by decide +kernel), List.mem_of_getElem? (i := 661) (by decide +kernel), List.mem_of_getElem? (i := 662) (by decide +kernel)⟩
theorem lw_p36 : lw_okq (⟨"FilterForge$Reader", "timesOp", "()I"⟩, 6) := ⟨⟨by decide +kernel, by decide +kernel⟩, List.mem_of_getElem? (i := 236) (by decide +kernel), List.mem_of_getElem? (i := 666) (by decide +kernel), List.mem_of_getElem? (i := 667) (by decide +kernel)⟩
theorem lw_p37 : lw_okq (⟨"FilterForge$Filter", "joinSides", "(IIIZ)V"⟩, 18) := ⟨⟨by decide +kernel, by decide +kernel⟩, List.mem_of_getElem? (i := 142) (by decide +kernel), List.mem_of_getElem? (i := 670) (by decide +kernel), List.mem_of_getElem? (i := 671) (by decide +kernel)⟩
theorem lw_p38 : lw_okq (⟨"FilterForge$Reader", "addingOp", "()I"⟩, 6) := ⟨⟨by decide +kernel, by decide +kernel⟩, List.mem_of_getElem? (i := 236) (by decide +kernel), List.mem_of_getElem? (i := 674) (by decide +kernel), List.mem_of_getElem? (i := 675) (by decide +kernel)⟩
theorem lw_p39 : lw_okq (⟨"FilterForge$Reader", "comparison", "()I"⟩, 6) := ⟨⟨by decide +kernel, by decide +kernel⟩, List.mem_of_getElem? (i := 236) (by decide +kernel), List.mem_of_getElem? (i := 678) (by decide +kernel), List.mem_of_getElem? (i := 679) (by decide +kernel)⟩
theorem lw_p40 : lw_okq (⟨"FilterForge$Filter", "testGuards", "(I)V"⟩, 18) := ⟨⟨by decide +kernel, by decide +kernel⟩, List.mem_of_getElem? (i := 142) (by decide +kernel), List.mem_of_getElem? (i := 682) (by decide +kernel), List.mem_of_getElem? (i := 683) (by decide +kernel)⟩
theorem lw_p41 : lw_okq (⟨"FilterForge$Filter", "testType", "(III)V"⟩, 18) := ⟨⟨by decide +kernel, by decide +kernel⟩, List.mem_of_getElem? (i := 142) (by decide +kernel), List.mem_of_getElem? (i := 690) (by decide +kernel), List.mem_of_getElem? (i := 691) (by decide +kernel)⟩
theorem lw_p42 : lw_okq (⟨"FilterForge$Filter", "testRead", "(IIIII)V"⟩, 18) := ⟨⟨by decide +kernel, by decide +kernel⟩, List.mem_of_getElem? (i := 142) (by decide +kernel), List.mem_of_getElem? (i := 694) (by decide +kernel), List.mem_of_getElem? (i := 695) (by decide +kernel)⟩
theorem lw_p43 : lw_okq (⟨"FilterForge$Filter", "test", "(IIIIII)V"⟩, 18) := ⟨⟨by decide +kernel, by decide +kernel⟩, List.mem_of_getElem? (i := 142) (by decide +kernel), List.mem_of_getElem? (i := 698) (by decide +kernel), List.mem_of_getElem? (i := 699) (by decide +kernel)⟩
theorem lw_p44 : lw_okq (⟨"FilterForge$Filter", "testByte", "(IIII)V"⟩, 18) := ⟨⟨by decide +kernel, by decide +kernel⟩, List.mem_of_getElem? (i := 142) (by decide +kernel), List.mem_of_getElem? (i := 702) (by decide +kernel), List.mem_of_getElem? (i := 703) (by decide +kernel)⟩
theorem lw_p45 : lw_okq (⟨"FilterForge$Filter", "testFirstPart", "(II)V"⟩, 18) := ⟨⟨by decide +kernel, by decide +kernel⟩, List.mem_of_getElem? (i := 142) (by decide +kernel), List.mem_of_getElem? (i := 706) (by decide +kernel), List.mem_of_getElem? (i := 707) (by decide +kernel)⟩
theorem lw_p46 : lw_okq (⟨"FilterForge$Filter", "testNumber", "(IIIII)V"⟩, 18) := ⟨⟨by decide +kernel, by decide +kernel⟩, List.mem_of_getElem? (i := 142) (by decide +kernel), List.mem_of_getElem? (i := 710) (by decide +kernel), List.mem_of_getElem? (i := 711) (by decide +kernel)⟩
theorem lw_p47 : lw_okq (⟨"FilterForge$Reader", "readProtocol", "(III)V"⟩, 6) := ⟨⟨by decide +kernel, by decide +kernel⟩, List.mem_of_getElem? (i := 236) (by decide +kernel), List.mem_of_getElem? (i := 715) (by decide +kernel), List.mem_of_getElem? (i := 716) (by decide +kernel)⟩
def lw_privs_3 : List (MethodName × Nat) := [(⟨"FilterForge$Reader", "readAccess", "(II)V"⟩, 6), (⟨"FilterForge$Filter", "ask", "(I)V"⟩, 18), (⟨"FilterForge$Reader", "takeSize", "()I"⟩, 6), (⟨"FilterForge$Filter", "access", "(IIII)V"⟩, 18), (⟨"FilterForge$Reader", "timesOp", "()I"⟩, 6), (⟨"FilterForge$Filter", "joinSides", "(IIIZ)V"⟩, 18), (⟨"FilterForge$Reader", "addingOp", "()I"⟩, 6), (⟨"FilterForge$Reader", "comparison", "()I"⟩, 6), (⟨"FilterForge$Filter", "testGuards", "(I)V"⟩, 18), (⟨"FilterForge$Filter", "testType", "(III)V"⟩, 18), (⟨"FilterForge$Filter", "testRead", "(IIIII)V"⟩, 18), (⟨"FilterForge$Filter", "test", "(IIIIII)V"⟩, 18), (⟨"FilterForge$Filter", "testByte", "(IIII)V"⟩, 18), (⟨"FilterForge$Filter", "testFirstPart", "(II)V"⟩, 18), (⟨"FilterForge$Filter", "testNumber", "(IIIII)V"⟩, 18), (⟨"FilterForge$Reader", "readProtocol", "(III)V"⟩, 6)]
theorem lw_r3 : ∀ q ∈ lw_privs_3, lw_okq q := List.forall_mem_cons.mpr ⟨lw_p32, List.forall_mem_cons.mpr ⟨lw_p33, List.forall_mem_cons.mpr ⟨lw_p34, List.forall_mem_cons.mpr ⟨lw_p35, List.forall_mem_cons.mpr ⟨lw_p36, List.forall_mem_cons.mpr ⟨lw_p37, List.forall_mem_cons.mpr ⟨lw_p38, List.forall_mem_cons.mpr ⟨lw_p39, List.forall_mem_cons.mpr ⟨lw_p40, List.forall_mem_cons.mpr ⟨lw_p41, List.forall_mem_cons.mpr ⟨lw_p42, List.forall_mem_cons.mpr ⟨lw_p43, List.forall_mem_cons.mpr ⟨lw_p44, List.forall_mem_cons.mpr ⟨lw_p45, List.forall_mem_cons.mpr ⟨lw_p46, List.forall_mem_cons.mpr ⟨lw_p47, fun _ h => absurd h List.not_mem_nil⟩⟩⟩⟩⟩⟩⟩⟩⟩⟩⟩⟩⟩⟩⟩⟩
theorem lw_p48 : lw_okq (⟨"FilterForge$Reader", "takeNumber", "(JJ)I"⟩, 6) := ⟨⟨by decide +kernel, by decide +kernel⟩, List.mem_of_getElem? (i := 236) (by decide +kernel), List.mem_of_getElem? (i := 722) (by decide +kernel), List.mem_of_getElem? (i := 723) (by decide +kernel)⟩
theorem lw_p49 : lw_okq (⟨"FilterForge$Filter", "testProtocol", "(III)V"⟩, 18) := ⟨⟨by decide +kernel, by decide +kernel⟩, List.mem_of_getElem? (i := 142) (by decide +kernel), List.mem_of_getElem? (i := 728) (by decide +kernel), List.mem_of_getElem? (i := 729) (by decide +kernel)⟩
theorem lw_p50 : lw_okq (⟨"FilterForge$Filter", "putLabelHere", "(I)V"⟩, 18) := ⟨⟨by decide +kernel, by decide +kernel⟩, List.mem_of_getElem? (i := 142) (by decide +kernel), List.mem_of_getElem? (i := 733) (by decide +kernel), List.mem_of_getElem? (i := 734) (by decide +kernel)⟩
theorem lw_p51 : lw_okq (⟨"FilterForge$Reader", "readSided", "(II)V"⟩, 6) := ⟨⟨by decide +kernel, by decide +kernel⟩, List.mem_of_getElem? (i := 236) (by decide +kernel), List.mem_of_getElem? (i := 737) (by decide +kernel), List.mem_of_getElem? (i := 738) (by decide +kernel)⟩
theorem lw_p52 : lw_okq (⟨"FilterForge$Reader", "takeAddress", "()I"⟩, 6) := ⟨⟨by decide +kernel, by decide +kernel⟩, List.mem_of_getElem? (i := 236) (by decide +kernel), List.mem_of_getElem? (i := 744) (by decide +kernel), List.mem_of_getElem? (i := 745) (by decide +kernel)⟩
theorem lw_p53 : lw_okq (⟨"FilterForge$Reader", "address", "()J"⟩, 6) := ⟨⟨by decide +kernel, by decide +kernel⟩, List.mem_of_getElem? (i := 236) (by decide +kernel), List.mem_of_getElem? (i := 748) (by decide +kernel), List.mem_of_getElem? (i := 749) (by decide +kernel)⟩
theorem lw_p54 : lw_okq (⟨"FilterForge$Reader", "dotFrom", "(I)I"⟩, 6) := ⟨⟨by decide +kernel, by decide +kernel⟩, List.mem_of_getElem? (i := 236) (by decide +kernel), List.mem_of_getElem? (i := 752) (by decide +kernel), List.mem_of_getElem? (i := 753) (by decide +kernel)⟩
theorem lw_p55 : lw_okq (⟨"FilterForge$Filter", "testAddress", "(IIZIII)V"⟩, 18) := ⟨⟨by decide +kernel, by decide +kernel⟩, List.mem_of_getElem? (i := 142) (by decide +kernel), List.mem_of_getElem? (i := 756) (by decide +kernel), List.mem_of_getElem? (i := 757) (by decide +kernel)⟩
theorem lw_p56 : lw_okq (⟨"FilterForge$Filter", "testAddressAt", "(IIZIII)V"⟩, 18) := ⟨⟨by decide +kernel, by decide +kernel⟩, List.mem_of_getElem? (i := 142) (by decide +kernel), List.mem_of_getElem? (i := 760) (by decide +kernel), List.mem_of_getElem? (i := 761) (by decide +kernel)⟩
theorem lw_p57 : lw_okq (⟨"FilterForge$Reader", "readNet", "(III)V"⟩, 6) := ⟨⟨by decide +kernel, by decide +kernel⟩, List.mem_of_getElem? (i := 236) (by decide +kernel), List.mem_of_getElem? (i := 765) (by decide +kernel), List.mem_of_getElem? (i := 766) (by decide +kernel)⟩
theorem lw_p58 : lw_okq (⟨"FilterForge$Filter", "testPorts", "(IIIII)V"⟩, 18) := ⟨⟨by decide +kernel, by decide +kernel⟩, List.mem_of_getElem? (i := 142) (by decide +kernel), List.mem_of_getElem? (i := 771) (by decide +kernel), List.mem_of_getElem? (i := 772) (by decide +kernel)⟩
theorem lw_p59 : lw_okq (⟨"FilterForge$Filter", "testSides", "(ZIIIII)V"⟩, 18) := ⟨⟨by decide +kernel, by decide +kernel⟩, List.mem_of_getElem? (i := 142) (by decide +kernel), List.mem_of_getElem? (i := 775) (by decide +kernel), List.mem_of_getElem? (i := 776) (by decide +kernel)⟩
theorem lw_p60 : lw_okq (⟨"FilterForge$Filter", "testPort", "(IIIII)V"⟩, 18) := ⟨⟨by decide +kernel, by decide +kernel⟩, List.mem_of_getElem? (i := 142) (by decide +kernel), List.mem_of_getElem? (i := 779) (by decide +kernel), List.mem_of_getElem? (i := 780) (by decide +kernel)⟩
theorem lw_p61 : lw_okq (⟨"FilterForge$Filter", "portItems", "(I)V"⟩, 18) := ⟨⟨by decide +kernel, by decide +kernel⟩, List.mem_of_getElem? (i := 142) (by decide +kernel), List.mem_of_getElem? (i := 783) (by decide +kernel), List.mem_of_getElem? (i := 784) (by decide +kernel)⟩
theorem lw_p62 : lw_okq (⟨"FilterForge$Reader", "readLength", "(II)V"⟩, 6) := ⟨⟨by decide +kernel, by decide +kernel⟩, List.mem_of_getElem? (i := 236) (by decide +kernel), List.mem_of_getElem? (i := 788) (by decide +kernel), List.mem_of_getElem? (i := 789) (by decide +kernel)⟩
theorem lw_p63 : lw_okq (⟨"FilterForge$Filter", "testLength", "(IIII)V"⟩, 18) := ⟨⟨by decide +kernel, by decide +kernel⟩, List.mem_of_getElem? (i := 142) (by decide +kernel), List.mem_of_getElem? (i := 794) (by decide +kernel), List.mem_of_getElem? (i := 795) (by decide +kernel)⟩
def lw_privs_4 : List (MethodName × Nat) := [(⟨"FilterForge$Reader", "takeNumber", "(JJ)I"⟩, 6), (⟨"FilterForge$Filter", "testProtocol", "(III)V"⟩, 18), (⟨"FilterForge$Filter", "putLabelHere", "(I)V"⟩, 18), (⟨"FilterForge$Reader", "readSided", "(II)V"⟩, 6), (⟨"FilterForge$Reader", "takeAddress", "()I"⟩, 6), (⟨"FilterForge$Reader", "address", "()J"⟩, 6), (⟨"FilterForge$Reader", "dotFrom", "(I)I"⟩, 6), (⟨"FilterForge$Filter", "testAddress", "(IIZIII)V"⟩, 18), (⟨"FilterForge$Filter", "testAddressAt", "(IIZIII)V"⟩, 18), (⟨"FilterForge$Reader", "readNet", "(III)V"⟩, 6), (⟨"FilterForge$Filter", "testPorts", "(IIIII)V"⟩, 18), (⟨"FilterForge$Filter", "testSides", "(ZIIIII)V"⟩, 18), (⟨"FilterForge$Filter", "testPort", "(IIIII)V"⟩, 18), (⟨"FilterForge$Filter", "portItems", "(I)V"⟩, 18), (⟨"FilterForge$Reader", "readLength", "(II)V"⟩, 6), (⟨"FilterForge$Filter", "testLength", "(IIII)V"⟩, 18)]
theorem lw_r4 : ∀ q ∈ lw_privs_4, lw_okq q := List.forall_mem_cons.mpr ⟨lw_p48, List.forall_mem_cons.mpr ⟨lw_p49, List.forall_mem_cons.mpr ⟨lw_p50, List.forall_mem_cons.mpr ⟨lw_p51, List.forall_mem_cons.mpr ⟨lw_p52, List.forall_mem_cons.mpr ⟨lw_p53, List.forall_mem_cons.mpr ⟨lw_p54, List.forall_mem_cons.mpr ⟨lw_p55, List.forall_mem_cons.mpr ⟨lw_p56, List.forall_mem_cons.mpr ⟨lw_p57, List.forall_mem_cons.mpr ⟨lw_p58, List.forall_mem_cons.mpr ⟨lw_p59, List.forall_mem_cons.mpr ⟨lw_p60, List.forall_mem_cons.mpr ⟨lw_p61, List.forall_mem_cons.mpr ⟨lw_p62, List.forall_mem_cons.mpr ⟨lw_p63, fun _ h => absurd h List.not_mem_nil⟩⟩⟩⟩⟩⟩⟩⟩⟩⟩⟩⟩⟩⟩⟩⟩
theorem lw_p64 : lw_okq (⟨"FilterForge$Filter", "joinLabel", "(II)V"⟩, 18) := ⟨⟨by decide +kernel, by decide +kernel⟩, List.mem_of_getElem? (i := 142) (by decide +kernel), List.mem_of_getElem? (i := 801) (by decide +kernel), List.mem_of_getElem? (i := 802) (by decide +kernel)⟩
theorem lw_p65 : lw_okq (⟨"FilterForge$Reader", "wrongPlace", "()I"⟩, 6) := ⟨⟨by decide +kernel, by decide +kernel⟩, List.mem_of_getElem? (i := 236) (by decide +kernel), List.mem_of_getElem? (i := 806) (by decide +kernel), List.mem_of_getElem? (i := 807) (by decide +kernel)⟩
theorem lw_p66 : lw_okq (⟨"FilterForge$Filter", "finish", "()V"⟩, 18) := ⟨⟨by decide +kernel, by decide +kernel⟩, List.mem_of_getElem? (i := 142) (by decide +kernel), List.mem_of_getElem? (i := 810) (by decide +kernel), List.mem_of_getElem? (i := 811) (by decide +kernel)⟩
theorem lw_p67 : lw_okq (⟨"FilterForge$Filter", "placeWays", "()V"⟩, 18) := ⟨⟨by decide +kernel, by decide +kernel⟩, List.mem_of_getElem? (i := 142) (by decide +kernel), List.mem_of_getElem? (i := 814) (by decide +kernel), List.mem_of_getElem? (i := 815) (by decide +kernel)⟩
theorem lw_p68 : lw_okq (⟨"FilterForge$Filter", "placeOf", "(II)I"⟩, 18) := ⟨⟨by decide +kernel, by decide +kernel⟩, List.mem_of_getElem? (i := 142) (by decide +kernel), List.mem_of_getElem? (i := 818) (by decide +kernel), List.mem_of_getElem? (i := 819) (by decide +kernel)⟩
theorem lw_p69 : lw_okq (⟨"FilterForge$Filter", "told", "(I)Z"⟩, 18) := ⟨⟨by decide +kernel, by decide +kernel⟩, List.mem_of_getElem? (i := 142) (by decide +kernel), List.mem_of_getElem? (i := 822) (by decide +kernel), List.mem_of_getElem? (i := 823) (by decide +kernel)⟩
theorem lw_p70 : lw_okq (⟨"FilterForge$Filter", "shortened", "(IZ)I"⟩, 18) := ⟨⟨by decide +kernel, by decide +kernel⟩, List.mem_of_getElem? (i := 142) (by decide +kernel), List.mem_of_getElem? (i := 826) (by decide +kernel), List.mem_of_getElem? (i := 827) (by decide +kernel)⟩
theorem lw_p71 : lw_okq (⟨"FilterForge$Filter", "readsAlike", "(II)Z"⟩, 18) := ⟨⟨by decide +kernel, by decide +kernel⟩, List.mem_of_getElem? (i := 142) (by decide +kernel), List.mem_of_getElem? (i := 830) (by decide +kernel), List.mem_of_getElem? (i := 831) (by decide +kernel)⟩
theorem lw_p72 : lw_okq (⟨"FilterForge$Filter", "placeRead", "(I)I"⟩, 18) := ⟨⟨by decide +kernel, by decide +kernel⟩, List.mem_of_getElem? (i := 142) (by decide +kernel), List.mem_of_getElem? (i := 834) (by decide +kernel), List.mem_of_getElem? (i := 835) (by decide +kernel)⟩
theorem lw_p73 : lw_okq (⟨"FilterForge$Filter", "leaveOut", "()V"⟩, 18) := ⟨⟨by decide +kernel, by decide +kernel⟩, List.mem_of_getElem? (i := 142) (by decide +kernel), List.mem_of_getElem? (i := 838) (by decide +kernel), List.mem_of_getElem? (i := 839) (by decide +kernel)⟩
theorem lw_p74 : lw_okq (⟨"FilterForge$Coder", "code", "(LFilterForge$Filter;LFilterForge$Program;)I"⟩, 5) := ⟨⟨by decide +kernel, by decide +kernel⟩, List.mem_of_getElem? (i := 261) (by decide +kernel), List.mem_of_getElem? (i := 842) (by decide +kernel), List.mem_of_getElem? (i := 843) (by decide +kernel)⟩
theorem lw_p75 : lw_okq (⟨"FilterForge$Coder", "put", "(IIIII)V"⟩, 5) := ⟨⟨by decide +kernel, by decide +kernel⟩, List.mem_of_getElem? (i := 261) (by decide +kernel), List.mem_of_getElem? (i := 846) (by decide +kernel), List.mem_of_getElem? (i := 847) (by decide +kernel)⟩
theorem lw_p76 : lw_okq (⟨"FilterForge$Coder", "codeTest", "(I)V"⟩, 5) := ⟨⟨by decide +kernel, by decide +kernel⟩, List.mem_of_getElem? (i := 261) (by decide +kernel), List.mem_of_getElem? (i := 852) (by decide +kernel), List.mem_of_getElem? (i := 853) (by decide +kernel)⟩
theorem lw_p77 : lw_okq (⟨"FilterForge$Coder", "codeItems", "(II)V"⟩, 5) := ⟨⟨by decide +kernel, by decide +kernel⟩, List.mem_of_getElem? (i := 261) (by decide +kernel), List.mem_of_getElem? (i := 856) (by decide +kernel), List.mem_of_getElem? (i := 857) (by decide +kernel)⟩
theorem lw_p78 : lw_okq (⟨"FilterForge$Coder", "codeItem", "(III)V"⟩, 5) := ⟨⟨by decide +kernel, by decide +kernel⟩, List.mem_of_getElem? (i := 261) (by decide +kernel), List.mem_of_getElem? (i := 860) (by decide +kernel), List.mem_of_getElem? (i := 861) (by decide +kernel)⟩
theorem lw_p79 : lw_okq (⟨"FilterForge$Coder", "codePush", "(I)V"⟩, 5) := ⟨⟨by decide +kernel, by decide +kernel⟩, List.mem_of_getElem? (i := 261) (by decide +kernel), List.mem_of_getElem? (i := 864) (by decide +kernel), List.mem_of_getElem? (i := 865) (by decide +kernel)⟩
def lw_privs_5 : List (MethodName × Nat) := [(⟨"FilterForge$Filter", "joinLabel", "(II)V"⟩, 18), (⟨"FilterForge$Reader", "wrongPlace", "()I"⟩, 6), (⟨"FilterForge$Filter", "finish", "()V"⟩, 18), (⟨"FilterForge$Filter", "placeWays", "()V"⟩, 18), (⟨"FilterForge$Filter", "placeOf", "(II)I"⟩, 18), (⟨"FilterForge$Filter", "told", "(I)Z"⟩, 18), (⟨"FilterForge$Filter", "shortened", "(IZ)I"⟩, 18), (⟨"FilterForge$Filter", "readsAlike", "(II)Z"⟩, 18), (⟨"FilterForge$Filter", "placeRead", "(I)I"⟩, 18), (⟨"FilterForge$Filter", "leaveOut", "()V"⟩, 18), (⟨"FilterForge$Coder", "code", "(LFilterForge$Filter;LFilterForge$Program;)I"⟩, 5), (⟨"FilterForge$Coder", "put", "(IIIII)V"⟩, 5), (⟨"FilterForge$Coder", "codeTest", "(I)V"⟩, 5), (⟨"FilterForge$Coder", "codeItems", "(II)V"⟩, 5), (⟨"FilterForge$Coder", "codeItem", "(III)V"⟩, 5), (⟨"FilterForge$Coder", "codePush", "(I)V"⟩, 5)]
theorem lw_r5 : ∀ q ∈ lw_privs_5, lw_okq q := List.forall_mem_cons.mpr ⟨lw_p64, List.forall_mem_cons.mpr ⟨lw_p65, List.forall_mem_cons.mpr ⟨lw_p66, List.forall_mem_cons.mpr ⟨lw_p67, List.forall_mem_cons.mpr ⟨lw_p68, List.forall_mem_cons.mpr ⟨lw_p69, List.forall_mem_cons.mpr ⟨lw_p70, List.forall_mem_cons.mpr ⟨lw_p71, List.forall_mem_cons.mpr ⟨lw_p72, List.forall_mem_cons.mpr ⟨lw_p73, List.forall_mem_cons.mpr ⟨lw_p74, List.forall_mem_cons.mpr ⟨lw_p75, List.forall_mem_cons.mpr ⟨lw_p76, List.forall_mem_cons.mpr ⟨lw_p77, List.forall_mem_cons.mpr ⟨lw_p78, List.forall_mem_cons.mpr ⟨lw_p79, fun _ h => absurd h List.not_mem_nil⟩⟩⟩⟩⟩⟩⟩⟩⟩⟩⟩⟩⟩⟩⟩⟩
theorem lw_p80 : lw_okq (⟨"FilterForge$Coder", "codeWithNumber", "(II)V"⟩, 5) := ⟨⟨by decide +kernel, by decide +kernel⟩, List.mem_of_getElem? (i := 261) (by decide +kernel), List.mem_of_getElem? (i := 871) (by decide +kernel), List.mem_of_getElem? (i := 872) (by decide +kernel)⟩
theorem lw_p81 : lw_okq (⟨"FilterForge$Coder", "putGoing", "(IIIII)V"⟩, 5) := ⟨⟨by decide +kernel, by decide +kernel⟩, List.mem_of_getElem? (i := 261) (by decide +kernel), List.mem_of_getElem? (i := 875) (by decide +kernel), List.mem_of_getElem? (i := 876) (by decide +kernel)⟩
theorem lw_p82 : lw_okq (⟨"FilterForge$Coder", "codeWithPushed", "(II)V"⟩, 5) := ⟨⟨by decide +kernel, by decide +kernel⟩, List.mem_of_getElem? (i := 261) (by decide +kernel), List.mem_of_getElem? (i := 879) (by decide +kernel), List.mem_of_getElem? (i := 880) (by decide +kernel)⟩
theorem lw_p83 : lw_okq (⟨"FilterForge$Coder", "codePull", "(I)V"⟩, 5) := ⟨⟨by decide +kernel, by decide +kernel⟩, List.mem_of_getElem? (i := 261) (by decide +kernel), List.mem_of_getElem? (i := 883) (by decide +kernel), List.mem_of_getElem? (i := 884) (by decide +kernel)⟩
theorem lw_p84 : lw_okq (⟨"FilterForge$Coder", "codeReadInBody", "(II)V"⟩, 5) := ⟨⟨by decide +kernel, by decide +kernel⟩, List.mem_of_getElem? (i := 261) (by decide +kernel), List.mem_of_getElem? (i := 890) (by decide +kernel), List.mem_of_getElem? (i := 891) (by decide +kernel)⟩
theorem lw_p85 : lw_okq (⟨"FilterForge$Coder", "rightIsNumber", "(I)Z"⟩, 5) := ⟨⟨by decide +kernel, by decide +kernel⟩, List.mem_of_getElem? (i := 261) (by decide +kernel), List.mem_of_getElem? (i := 894) (by decide +kernel), List.mem_of_getElem? (i := 895) (by decide +kernel)⟩
theorem lw_p86 : lw_okq (⟨"FilterForge$Coder", "codeWays", "(I)V"⟩, 5) := ⟨⟨by decide +kernel, by decide +kernel⟩, List.mem_of_getElem? (i := 261) (by decide +kernel), List.mem_of_getElem? (i := 898) (by decide +kernel), List.mem_of_getElem? (i := 899) (by decide +kernel)⟩
theorem lw_p87 : lw_okq (⟨"FilterForge$Coder", "nextKept", "(I)I"⟩, 5) := ⟨⟨by decide +kernel, by decide +kernel⟩, List.mem_of_getElem? (i := 261) (by decide +kernel), List.mem_of_getElem? (i := 902) (by decide +kernel), List.mem_of_getElem? (i := 903) (by decide +kernel)⟩
theorem lw_p88 : lw_okq (⟨"FilterForge$Coder", "placeGoals", "()V"⟩, 5) := ⟨⟨by decide +kernel, by decide +kernel⟩, List.mem_of_getElem? (i := 261) (by decide +kernel), List.mem_of_getElem? (i := 909) (by decide +kernel), List.mem_of_getElem? (i := 910) (by decide +kernel)⟩
theorem lw_p89 : lw_okq (⟨"FilterForge", "swapSpares", "()V"⟩, 14) := ⟨⟨by decide +kernel, by decide +kernel⟩, List.mem_of_getElem? (i := 29) (by decide +kernel), List.mem_of_getElem? (i := 914) (by decide +kernel), List.mem_of_getElem? (i := 915) (by decide +kernel)⟩
theorem lw_p90 : lw_okq (⟨"FilterForge$Program", "takeTape", "(LFilterForge$Tape;)I"⟩, 2) := ⟨⟨by decide +kernel, by decide +kernel⟩, List.mem_of_getElem? (i := 218) (by decide +kernel), List.mem_of_getElem? (i := 922) (by decide +kernel), List.mem_of_getElem? (i := 923) (by decide +kernel)⟩
theorem lw_p91 : lw_okq (⟨"FilterForge$Tape", "lowestFirst", "(II)J"⟩, 2) := ⟨⟨by decide +kernel, by decide +kernel⟩, List.mem_of_getElem? (i := 37) (by decide +kernel), List.mem_of_getElem? (i := 926) (by decide +kernel), List.mem_of_getElem? (i := 927) (by decide +kernel)⟩
theorem lw_p92 : lw_okq (⟨"FilterForge$Program", "at", "(I)J"⟩, 2) := ⟨⟨by decide +kernel, by decide +kernel⟩, List.mem_of_getElem? (i := 218) (by decide +kernel), List.mem_of_getElem? (i := 935) (by decide +kernel), List.mem_of_getElem? (i := 936) (by decide +kernel)⟩
theorem lw_p93 : lw_okq (⟨"FilterForge$Inspector", "look", "(LFilterForge$Program;)I"⟩, 14) := ⟨⟨by decide +kernel, by decide +kernel⟩, List.mem_of_getElem? (i := 305) (by decide +kernel), List.mem_of_getElem? (i := 943) (by decide +kernel), List.mem_of_getElem? (i := 944) (by decide +kernel)⟩
theorem lw_p94 : lw_okq (⟨"FilterForge$Inspector", "firstUnfit", "()I"⟩, 14) := ⟨⟨by decide +kernel, by decide +kernel⟩, List.mem_of_getElem? (i := 305) (by decide +kernel), List.mem_of_getElem? (i := 947) (by decide +kernel), List.mem_of_getElem? (i := 948) (by decide +kernel)⟩
theorem lw_p95 : lw_okq (⟨"FilterForge$Inspector", "goesAstray", "(IJ)Z"⟩, 14) := ⟨⟨by decide +kernel, by decide +kernel⟩, List.mem_of_getElem? (i := 305) (by decide +kernel), List.mem_of_getElem? (i := 997) (by decide +kernel), List.mem_of_getElem? (i := 998) (by decide +kernel)⟩
def lw_privs_6 : List (MethodName × Nat) := [(⟨"FilterForge$Coder", "codeWithNumber", "(II)V"⟩, 5), (⟨"FilterForge$Coder", "putGoing", "(IIIII)V"⟩, 5), (⟨"FilterForge$Coder", "codeWithPushed", "(II)V"⟩, 5), (⟨"FilterForge$Coder", "codePull", "(I)V"⟩, 5), (⟨"FilterForge$Coder", "codeReadInBody", "(II)V"⟩, 5), (⟨"FilterForge$Coder", "rightIsNumber", "(I)Z"⟩, 5), (⟨"FilterForge$Coder", "codeWays", "(I)V"⟩, 5), (⟨"FilterForge$Coder", "nextKept", "(I)I"⟩, 5), (⟨"FilterForge$Coder", "placeGoals", "()V"⟩, 5), (⟨"FilterForge", "swapSpares", "()V"⟩, 14), (⟨"FilterForge$Program", "takeTape", "(LFilterForge$Tape;)I"⟩, 2), (⟨"FilterForge$Tape", "lowestFirst", "(II)J"⟩, 2), (⟨"FilterForge$Program", "at", "(I)J"⟩, 2), (⟨"FilterForge$Inspector", "look", "(LFilterForge$Program;)I"⟩, 14), (⟨"FilterForge$Inspector", "firstUnfit", "()I"⟩, 14), (⟨"FilterForge$Inspector", "goesAstray", "(IJ)Z"⟩, 14)]
theorem lw_r6 : ∀ q ∈ lw_privs_6, lw_okq q := List.forall_mem_cons.mpr ⟨lw_p80, List.forall_mem_cons.mpr ⟨lw_p81, List.forall_mem_cons.mpr ⟨lw_p82, List.forall_mem_cons.mpr ⟨lw_p83, List.forall_mem_cons.mpr ⟨lw_p84, List.forall_mem_cons.mpr ⟨lw_p85, List.forall_mem_cons.mpr ⟨lw_p86, List.forall_mem_cons.mpr ⟨lw_p87, List.forall_mem_cons.mpr ⟨lw_p88, List.forall_mem_cons.mpr ⟨lw_p89, List.forall_mem_cons.mpr ⟨lw_p90, List.forall_mem_cons.mpr ⟨lw_p91, List.forall_mem_cons.mpr ⟨lw_p92, List.forall_mem_cons.mpr ⟨lw_p93, List.forall_mem_cons.mpr ⟨lw_p94, List.forall_mem_cons.mpr ⟨lw_p95, fun _ h => absurd h List.not_mem_nil⟩⟩⟩⟩⟩⟩⟩⟩⟩⟩⟩⟩⟩⟩⟩⟩
theorem lw_p96 : lw_okq (⟨"FilterForge$Inspector", "makeRoom", "()V"⟩, 14) := ⟨⟨by decide +kernel, by decide +kernel⟩, List.mem_of_getElem? (i := 305) (by decide +kernel), List.mem_of_getElem? (i := 1004) (by decide +kernel), List.mem_of_getElem? (i := 1005) (by decide +kernel)⟩
theorem lw_p97 : lw_okq (⟨"FilterForge$Inspector", "begin", "()V"⟩, 14) := ⟨⟨by decide +kernel, by decide +kernel⟩, List.mem_of_getElem? (i := 305) (by decide +kernel), List.mem_of_getElem? (i := 1008) (by decide +kernel), List.mem_of_getElem? (i := 1009) (by decide +kernel)⟩
theorem lw_p98 : lw_okq (⟨"FilterForge$Fact", "lose", "()V"⟩, 5) := ⟨⟨by decide +kernel, by decide +kernel⟩, List.mem_of_getElem? (i := 312) (by decide +kernel), List.mem_of_getElem? (i := 1012) (by decide +kernel), List.mem_of_getElem? (i := 1013) (by decide +kernel)⟩
theorem lw_p99 : lw_okq (⟨"FilterForge$Fact", "setRange", "(JJ)V"⟩, 5) := ⟨⟨by decide +kernel, by decide +kernel⟩, List.mem_of_getElem? (i := 312) (by decide +kernel), List.mem_of_getElem? (i := 1017) (by decide +kernel), List.mem_of_getElem? (i := 1018) (by decide +kernel)⟩
theorem lw_p100 : lw_okq (⟨"FilterForge$Fact", "setExact", "(J)V"⟩, 5) := ⟨⟨by decide +kernel, by decide +kernel⟩, List.mem_of_getElem? (i := 312) (by decide +kernel), List.mem_of_getElem? (i := 1021) (by decide +kernel), List.mem_of_getElem? (i := 1022) (by decide +kernel)⟩
theorem lw_p101 : lw_okq (⟨"FilterForge$Inspector", "arrive", "(I)V"⟩, 14) := ⟨⟨by decide +kernel, by decide +kernel⟩, List.mem_of_getElem? (i := 305) (by decide +kernel), List.mem_of_getElem? (i := 1027) (by decide +kernel), List.mem_of_getElem? (i := 1028) (by decide +kernel)⟩
theorem lw_p102 : lw_okq (⟨"FilterForge$Inspector", "put", "(IIJJJJ)V"⟩, 14) := ⟨⟨by decide +kernel, by decide +kernel⟩, List.mem_of_getElem? (i := 305) (by decide +kernel), List.mem_of_getElem? (i := 1031) (by decide +kernel), List.mem_of_getElem? (i := 1032) (by decide +kernel)⟩
theorem lw_p103 : lw_okq (⟨"FilterForge$Inspector", "bring", "(I)V"⟩, 14) := ⟨⟨by decide +kernel, by decide +kernel⟩, List.mem_of_getElem? (i := 305) (by decide +kernel), List.mem_of_getElem? (i := 1046) (by decide +kernel), List.mem_of_getElem? (i := 1047) (by decide +kernel)⟩
theorem lw_p104 : lw_okq (⟨"FilterForge$Inspector", "offenceOf", "(J)I"⟩, 14) := ⟨⟨by decide +kernel, by decide +kernel⟩, List.mem_of_getElem? (i := 305) (by decide +kernel), List.mem_of_getElem? (i := 1050) (by decide +kernel), List.mem_of_getElem? (i := 1051) (by decide +kernel)⟩
theorem lw_p105 : lw_okq (⟨"FilterForge$Inspector", "offenceOfOp", "(III)I"⟩, 14) := ⟨⟨by decide +kernel, by decide +kernel⟩, List.mem_of_getElem? (i := 305) (by decide +kernel), List.mem_of_getElem? (i := 1057) (by decide +kernel), List.mem_of_getElem? (i := 1058) (by decide +kernel)⟩
theorem lw_p106 : lw_okq (⟨"FilterForge$Inspector", "isLost", "(I)Z"⟩, 14) := ⟨⟨by decide +kernel, by decide +kernel⟩, List.mem_of_getElem? (i := 305) (by decide +kernel), List.mem_of_getElem? (i := 1065) (by decide +kernel), List.mem_of_getElem? (i := 1066) (by decide +kernel)⟩
theorem lw_p107 : lw_okq (⟨"FilterForge$Inspector", "isPointer", "(I)Z"⟩, 14) := ⟨⟨by decide +kernel, by decide +kernel⟩, List.mem_of_getElem? (i := 305) (by decide +kernel), List.mem_of_getElem? (i := 1069) (by decide +kernel), List.mem_of_getElem? (i := 1070) (by decide +kernel)⟩
theorem lw_p108 : lw_okq (⟨"FilterForge$Inspector", "offenceOfUse", "(II)I"⟩, 14) := ⟨⟨by decide +kernel, by decide +kernel⟩, List.mem_of_getElem? (i := 305) (by decide +kernel), List.mem_of_getElem? (i := 1073) (by decide +kernel), List.mem_of_getElem? (i := 1074) (by decide +kernel)⟩
theorem lw_p109 : lw_okq (⟨"FilterForge$Inspector", "offenceOfMemory", "(JI)I"⟩, 14) := ⟨⟨by decide +kernel, by decide +kernel⟩, List.mem_of_getElem? (i := 305) (by decide +kernel), List.mem_of_getElem? (i := 1079) (by decide +kernel), List.mem_of_getElem? (i := 1080) (by decide +kernel)⟩
theorem lw_p110 : lw_okq (⟨"FilterForge$Fact", "copy", "(LFilterForge$Fact;)V"⟩, 5) := ⟨⟨by decide +kernel, by decide +kernel⟩, List.mem_of_getElem? (i := 312) (by decide +kernel), List.mem_of_getElem? (i := 1083) (by decide +kernel), List.mem_of_getElem? (i := 1084) (by decide +kernel)⟩
theorem lw_p111 : lw_okq (⟨"FilterForge$Fact", "work", "(IZLFilterForge$Fact;)V"⟩, 5) := ⟨⟨by decide +kernel, by decide +kernel⟩, List.mem_of_getElem? (i := 312) (by decide +kernel), List.mem_of_getElem? (i := 1087) (by decide +kernel), List.mem_of_getElem? (i := 1088) (by decide +kernel)⟩
def lw_privs_7 : List (MethodName × Nat) := [(⟨"FilterForge$Inspector", "makeRoom", "()V"⟩, 14), (⟨"FilterForge$Inspector", "begin", "()V"⟩, 14), (⟨"FilterForge$Fact", "lose", "()V"⟩, 5), (⟨"FilterForge$Fact", "setRange", "(JJ)V"⟩, 5), (⟨"FilterForge$Fact", "setExact", "(J)V"⟩, 5), (⟨"FilterForge$Inspector", "arrive", "(I)V"⟩, 14), (⟨"FilterForge$Inspector", "put", "(IIJJJJ)V"⟩, 14), (⟨"FilterForge$Inspector", "bring", "(I)V"⟩, 14), (⟨"FilterForge$Inspector", "offenceOf", "(J)I"⟩, 14), (⟨"FilterForge$Inspector", "offenceOfOp", "(III)I"⟩, 14), (⟨"FilterForge$Inspector", "isLost", "(I)Z"⟩, 14), (⟨"FilterForge$Inspector", "isPointer", "(I)Z"⟩, 14), (⟨"FilterForge$Inspector", "offenceOfUse", "(II)I"⟩, 14), (⟨"FilterForge$Inspector", "offenceOfMemory", "(JI)I"⟩, 14), (⟨"FilterForge$Fact", "copy", "(LFilterForge$Fact;)V"⟩, 5), (⟨"FilterForge$Fact", "work", "(IZLFilterForge$Fact;)V"⟩, 5)]
theorem lw_r7 : ∀ q ∈ lw_privs_7, lw_okq q := List.forall_mem_cons.mpr ⟨lw_p96, List.forall_mem_cons.mpr ⟨lw_p97, List.forall_mem_cons.mpr ⟨lw_p98, List.forall_mem_cons.mpr ⟨lw_p99, List.forall_mem_cons.mpr ⟨lw_p100, List.forall_mem_cons.mpr ⟨lw_p101, List.forall_mem_cons.mpr ⟨lw_p102, List.forall_mem_cons.mpr ⟨lw_p103, List.forall_mem_cons.mpr ⟨lw_p104, List.forall_mem_cons.mpr ⟨lw_p105, List.forall_mem_cons.mpr ⟨lw_p106, List.forall_mem_cons.mpr ⟨lw_p107, List.forall_mem_cons.mpr ⟨lw_p108, List.forall_mem_cons.mpr ⟨lw_p109, List.forall_mem_cons.mpr ⟨lw_p110, List.forall_mem_cons.mpr ⟨lw_p111, fun _ h => absurd h List.not_mem_nil⟩⟩⟩⟩⟩⟩⟩⟩⟩⟩⟩⟩⟩⟩⟩⟩
theorem lw_p112 : lw_okq (⟨"FilterForge$Fact", "cut", "()V"⟩, 5) := ⟨⟨by decide +kernel, by decide +kernel⟩, List.mem_of_getElem? (i := 312) (by decide +kernel), List.mem_of_getElem? (i := 1091) (by decide +kernel), List.mem_of_getElem? (i := 1092) (by decide +kernel)⟩
theorem lw_p113 : lw_okq (⟨"FilterForge$Fact", "settle", "()V"⟩, 5) := ⟨⟨by decide +kernel, by decide +kernel⟩, List.mem_of_getElem? (i := 312) (by decide +kernel), List.mem_of_getElem? (i := 1098) (by decide +kernel), List.mem_of_getElem? (i := 1099) (by decide +kernel)⟩
theorem lw_p114 : lw_okq (⟨"FilterForge$Fact", "workBits", "(IZLFilterForge$Fact;)V"⟩, 5) := ⟨⟨by decide +kernel, by decide +kernel⟩, List.mem_of_getElem? (i := 312) (by decide +kernel), List.mem_of_getElem? (i := 1110) (by decide +kernel), List.mem_of_getElem? (i := 1111) (by decide +kernel)⟩
theorem lw_p115 : lw_okq (⟨"FilterForge$Fact", "addBits", "(LFilterForge$Fact;)V"⟩, 5) := ⟨⟨by decide +kernel, by decide +kernel⟩, List.mem_of_getElem? (i := 312) (by decide +kernel), List.mem_of_getElem? (i := 1114) (by decide +kernel), List.mem_of_getElem? (i := 1115) (by decide +kernel)⟩
theorem lw_p116 : lw_okq (⟨"FilterForge$Fact", "takeBits", "(LFilterForge$Fact;)V"⟩, 5) := ⟨⟨by decide +kernel, by decide +kernel⟩, List.mem_of_getElem? (i := 312) (by decide +kernel), List.mem_of_getElem? (i := 1118) (by decide +kernel), List.mem_of_getElem? (i := 1119) (by decide +kernel)⟩
theorem lw_p117 : lw_okq (⟨"FilterForge$Fact", "shiftBits", "(IZLFilterForge$Fact;)V"⟩, 5) := ⟨⟨by decide +kernel, by decide +kernel⟩, List.mem_of_getElem? (i := 312) (by decide +kernel), List.mem_of_getElem? (i := 1122) (by decide +kernel), List.mem_of_getElem? (i := 1123) (by decide +kernel)⟩
theorem lw_p118 : lw_okq (⟨"FilterForge$Fact", "isUnsigned", "(Z)Z"⟩, 5) := ⟨⟨by decide +kernel, by decide +kernel⟩, List.mem_of_getElem? (i := 312) (by decide +kernel), List.mem_of_getElem? (i := 1126) (by decide +kernel), List.mem_of_getElem? (i := 1127) (by decide +kernel)⟩
theorem lw_p119 : lw_okq (⟨"FilterForge$Fact", "isExact", "()Z"⟩, 5) := ⟨⟨by decide +kernel, by decide +kernel⟩, List.mem_of_getElem? (i := 312) (by decide +kernel), List.mem_of_getElem? (i := 1131) (by decide +kernel), List.mem_of_getElem? (i := 1132) (by decide +kernel)⟩
theorem lw_p120 : lw_okq (⟨"FilterForge$Fact", "workRange", "(IZLFilterForge$Fact;)V"⟩, 5) := ⟨⟨by decide +kernel, by decide +kernel⟩, List.mem_of_getElem? (i := 312) (by decide +kernel), List.mem_of_getElem? (i := 1135) (by decide +kernel), List.mem_of_getElem? (i := 1136) (by decide +kernel)⟩
theorem lw_p121 : lw_okq (⟨"FilterForge$Fact", "keepRange", "(JJZ)V"⟩, 5) := ⟨⟨by decide +kernel, by decide +kernel⟩, List.mem_of_getElem? (i := 312) (by decide +kernel), List.mem_of_getElem? (i := 1139) (by decide +kernel), List.mem_of_getElem? (i := 1140) (by decide +kernel)⟩
theorem lw_p122 : lw_okq (⟨"FilterForge$Inspector", "bytesFrom", "(I)J"⟩, 14) := ⟨⟨by decide +kernel, by decide +kernel⟩, List.mem_of_getElem? (i := 305) (by decide +kernel), List.mem_of_getElem? (i := 1154) (by decide +kernel), List.mem_of_getElem? (i := 1155) (by decide +kernel)⟩
theorem lw_p123 : lw_okq (⟨"FilterForge$Inspector", "pass", "(IJ)V"⟩, 14) := ⟨⟨by decide +kernel, by decide +kernel⟩, List.mem_of_getElem? (i := 305) (by decide +kernel), List.mem_of_getElem? (i := 1158) (by decide +kernel), List.mem_of_getElem? (i := 1159) (by decide +kernel)⟩
theorem lw_p124 : lw_okq (⟨"FilterForge$Inspector", "passJump", "(IJ)V"⟩, 14) := ⟨⟨by decide +kernel, by decide +kernel⟩, List.mem_of_getElem? (i := 305) (by decide +kernel), List.mem_of_getElem? (i := 1162) (by decide +kernel), List.mem_of_getElem? (i := 1163) (by decide +kernel)⟩
theorem lw_p125 : lw_okq (⟨"FilterForge$Inspector", "bringSide", "(J)V"⟩, 14) := ⟨⟨by decide +kernel, by decide +kernel⟩, List.mem_of_getElem? (i := 305) (by decide +kernel), List.mem_of_getElem? (i := 1166) (by decide +kernel), List.mem_of_getElem? (i := 1167) (by decide +kernel)⟩
theorem lw_p126 : lw_okq (⟨"FilterForge$Fact", "narrow", "(IJ)Z"⟩, 5) := ⟨⟨by decide +kernel, by decide +kernel⟩, List.mem_of_getElem? (i := 312) (by decide +kernel), List.mem_of_getElem? (i := 1172) (by decide +kernel), List.mem_of_getElem? (i := 1173) (by decide +kernel)⟩
theorem lw_p127 : lw_okq (⟨"FilterForge$Fact", "narrowUnequal", "(J)Z"⟩, 5) := ⟨⟨by decide +kernel, by decide +kernel⟩, List.mem_of_getElem? (i := 312) (by decide +kernel), List.mem_of_getElem? (i := 1176) (by decide +kernel), List.mem_of_getElem? (i := 1177) (by decide +kernel)⟩
def lw_privs_8 : List (MethodName × Nat) := [(⟨"FilterForge$Fact", "cut", "()V"⟩, 5), (⟨"FilterForge$Fact", "settle", "()V"⟩, 5), (⟨"FilterForge$Fact", "workBits", "(IZLFilterForge$Fact;)V"⟩, 5), (⟨"FilterForge$Fact", "addBits", "(LFilterForge$Fact;)V"⟩, 5), (⟨"FilterForge$Fact", "takeBits", "(LFilterForge$Fact;)V"⟩, 5), (⟨"FilterForge$Fact", "shiftBits", "(IZLFilterForge$Fact;)V"⟩, 5), (⟨"FilterForge$Fact", "isUnsigned", "(Z)Z"⟩, 5), (⟨"FilterForge$Fact", "isExact", "()Z"⟩, 5), (⟨"FilterForge$Fact", "workRange", "(IZLFilterForge$Fact;)V"⟩, 5), (⟨"FilterForge$Fact", "keepRange", "(JJZ)V"⟩, 5), (⟨"FilterForge$Inspector", "bytesFrom", "(I)J"⟩, 14), (⟨"FilterForge$Inspector", "pass", "(IJ)V"⟩, 14), (⟨"FilterForge$Inspector", "passJump", "(IJ)V"⟩, 14), (⟨"FilterForge$Inspector", "bringSide", "(J)V"⟩, 14), (⟨"FilterForge$Fact", "narrow", "(IJ)Z"⟩, 5), (⟨"FilterForge$Fact", "narrowUnequal", "(J)Z"⟩, 5)]
theorem lw_r8 : ∀ q ∈ lw_privs_8, lw_okq q := List.forall_mem_cons.mpr ⟨lw_p112, List.forall_mem_cons.mpr ⟨lw_p113, List.forall_mem_cons.mpr ⟨lw_p114, List.forall_mem_cons.mpr ⟨lw_p115, List.forall_mem_cons.mpr ⟨lw_p116, List.forall_mem_cons.mpr ⟨lw_p117, List.forall_mem_cons.mpr ⟨lw_p118, List.forall_mem_cons.mpr ⟨lw_p119, List.forall_mem_cons.mpr ⟨lw_p120, List.forall_mem_cons.mpr ⟨lw_p121, List.forall_mem_cons.mpr ⟨lw_p122, List.forall_mem_cons.mpr ⟨lw_p123, List.forall_mem_cons.mpr ⟨lw_p124, List.forall_mem_cons.mpr ⟨lw_p125, List.forall_mem_cons.mpr ⟨lw_p126, List.forall_mem_cons.mpr ⟨lw_p127, fun _ h => absurd h List.not_mem_nil⟩⟩⟩⟩⟩⟩⟩⟩⟩⟩⟩⟩⟩⟩⟩⟩
theorem lw_p128 : lw_okq (⟨"FilterForge$Fact", "setBytes", "(I)V"⟩, 5) := ⟨⟨by decide +kernel, by decide +kernel⟩, List.mem_of_getElem? (i := 312) (by decide +kernel), List.mem_of_getElem? (i := 1181) (by decide +kernel), List.mem_of_getElem? (i := 1182) (by decide +kernel)⟩
theorem lw_p129 : lw_okq (⟨"FilterForge$Inspector", "tell", "(III)J"⟩, 14) := ⟨⟨by decide +kernel, by decide +kernel⟩, List.mem_of_getElem? (i := 305) (by decide +kernel), List.mem_of_getElem? (i := 1190) (by decide +kernel), List.mem_of_getElem? (i := 1191) (by decide +kernel)⟩
theorem lw_p130 : lw_okq (⟨"FilterForge$Program", "perform", "(LFilterForge$Machine;II)J"⟩, 2) := ⟨⟨by decide +kernel, by decide +kernel⟩, List.mem_of_getElem? (i := 218) (by decide +kernel), List.mem_of_getElem? (i := 1199) (by decide +kernel), List.mem_of_getElem? (i := 1200) (by decide +kernel)⟩
theorem lw_p131 : lw_okq (⟨"FilterForge$Machine", "begin", "(II)V"⟩, 10) := ⟨⟨by decide +kernel, by decide +kernel⟩, List.mem_of_getElem? (i := 74) (by decide +kernel), List.mem_of_getElem? (i := 1203) (by decide +kernel), List.mem_of_getElem? (i := 1204) (by decide +kernel)⟩
theorem lw_p132 : lw_okq (⟨"FilterForge$Machine", "set", "(IJ)V"⟩, 10) := ⟨⟨by decide +kernel, by decide +kernel⟩, List.mem_of_getElem? (i := 74) (by decide +kernel), List.mem_of_getElem? (i := 1207) (by decide +kernel), List.mem_of_getElem? (i := 1208) (by decide +kernel)⟩
theorem lw_p133 : lw_okq (⟨"FilterForge$Machine", "stop", "(I)V"⟩, 10) := ⟨⟨by decide +kernel, by decide +kernel⟩, List.mem_of_getElem? (i := 74) (by decide +kernel), List.mem_of_getElem? (i := 1212) (by decide +kernel), List.mem_of_getElem? (i := 1213) (by decide +kernel)⟩
theorem lw_p134 : lw_okq (⟨"FilterForge$Program", "step", "(LFilterForge$Machine;)V"⟩, 2) := ⟨⟨by decide +kernel, by decide +kernel⟩, List.mem_of_getElem? (i := 218) (by decide +kernel), List.mem_of_getElem? (i := 1216) (by decide +kernel), List.mem_of_getElem? (i := 1217) (by decide +kernel)⟩
theorem lw_p135 : lw_okq (⟨"FilterForge$Machine", "get", "(I)J"⟩, 10) := ⟨⟨by decide +kernel, by decide +kernel⟩, List.mem_of_getElem? (i := 74) (by decide +kernel), List.mem_of_getElem? (i := 1223) (by decide +kernel), List.mem_of_getElem? (i := 1224) (by decide +kernel)⟩
theorem lw_p136 : lw_okq (⟨"FilterForge$Machine", "readPacket", "(JI)J"⟩, 10) := ⟨⟨by decide +kernel, by decide +kernel⟩, List.mem_of_getElem? (i := 74) (by decide +kernel), List.mem_of_getElem? (i := 1239) (by decide +kernel), List.mem_of_getElem? (i := 1240) (by decide +kernel)⟩
theorem lw_p137 : lw_okq (⟨"FilterForge$Packets", "read", "(IJI)J"⟩, 3) := ⟨⟨by decide +kernel, by decide +kernel⟩, List.mem_of_getElem? (i := 56) (by decide +kernel), List.mem_of_getElem? (i := 1243) (by decide +kernel), List.mem_of_getElem? (i := 1244) (by decide +kernel)⟩
theorem lw_p138 : lw_okq (⟨"FilterForge$Machine", "inStack", "(JI)Z"⟩, 10) := ⟨⟨by decide +kernel, by decide +kernel⟩, List.mem_of_getElem? (i := 74) (by decide +kernel), List.mem_of_getElem? (i := 1250) (by decide +kernel), List.mem_of_getElem? (i := 1251) (by decide +kernel)⟩
theorem lw_p139 : lw_okq (⟨"FilterForge$Machine", "load8", "(JI)J"⟩, 10) := ⟨⟨by decide +kernel, by decide +kernel⟩, List.mem_of_getElem? (i := 74) (by decide +kernel), List.mem_of_getElem? (i := 1256) (by decide +kernel), List.mem_of_getElem? (i := 1257) (by decide +kernel)⟩
theorem lw_p140 : lw_okq (⟨"FilterForge$Machine", "byteAt", "(J)I"⟩, 10) := ⟨⟨by decide +kernel, by decide +kernel⟩, List.mem_of_getElem? (i := 74) (by decide +kernel), List.mem_of_getElem? (i := 1260) (by decide +kernel), List.mem_of_getElem? (i := 1261) (by decide +kernel)⟩
theorem lw_p141 : lw_okq (⟨"FilterForge$Machine", "inPacket", "(JI)Z"⟩, 10) := ⟨⟨by decide +kernel, by decide +kernel⟩, List.mem_of_getElem? (i := 74) (by decide +kernel), List.mem_of_getElem? (i := 1266) (by decide +kernel), List.mem_of_getElem? (i := 1267) (by decide +kernel)⟩
theorem lw_p142 : lw_okq (⟨"FilterForge$Machine", "store", "(JIJ)V"⟩, 10) := ⟨⟨by decide +kernel, by decide +kernel⟩, List.mem_of_getElem? (i := 74) (by decide +kernel), List.mem_of_getElem? (i := 1274) (by decide +kernel), List.mem_of_getElem? (i := 1275) (by decide +kernel)⟩
theorem lw_p143 : lw_okq (⟨"FilterForge$Machine", "stepOn", "(I)V"⟩, 10) := ⟨⟨by decide +kernel, by decide +kernel⟩, List.mem_of_getElem? (i := 74) (by decide +kernel), List.mem_of_getElem? (i := 1278) (by decide +kernel), List.mem_of_getElem? (i := 1279) (by decide +kernel)⟩
def lw_privs_9 : List (MethodName × Nat) := [(⟨"FilterForge$Fact", "setBytes", "(I)V"⟩, 5), (⟨"FilterForge$Inspector", "tell", "(III)J"⟩, 14), (⟨"FilterForge$Program", "perform", "(LFilterForge$Machine;II)J"⟩, 2), (⟨"FilterForge$Machine", "begin", "(II)V"⟩, 10), (⟨"FilterForge$Machine", "set", "(IJ)V"⟩, 10), (⟨"FilterForge$Machine", "stop", "(I)V"⟩, 10), (⟨"FilterForge$Program", "step", "(LFilterForge$Machine;)V"⟩, 2), (⟨"FilterForge$Machine", "get", "(I)J"⟩, 10), (⟨"FilterForge$Machine", "readPacket", "(JI)J"⟩, 10), (⟨"FilterForge$Packets", "read", "(IJI)J"⟩, 3), (⟨"FilterForge$Machine", "inStack", "(JI)Z"⟩, 10), (⟨"FilterForge$Machine", "load8", "(JI)J"⟩, 10), (⟨"FilterForge$Machine", "byteAt", "(J)I"⟩, 10), (⟨"FilterForge$Machine", "inPacket", "(JI)Z"⟩, 10), (⟨"FilterForge$Machine", "store", "(JIJ)V"⟩, 10), (⟨"FilterForge$Machine", "stepOn", "(I)V"⟩, 10)]
theorem lw_r9 : ∀ q ∈ lw_privs_9, lw_okq q := List.forall_mem_cons.mpr ⟨lw_p128, List.forall_mem_cons.mpr ⟨lw_p129, List.forall_mem_cons.mpr ⟨lw_p130, List.forall_mem_cons.mpr ⟨lw_p131, List.forall_mem_cons.mpr ⟨lw_p132, List.forall_mem_cons.mpr ⟨lw_p133, List.forall_mem_cons.mpr ⟨lw_p134, List.forall_mem_cons.mpr ⟨lw_p135, List.forall_mem_cons.mpr ⟨lw_p136, List.forall_mem_cons.mpr ⟨lw_p137, List.forall_mem_cons.mpr ⟨lw_p138, List.forall_mem_cons.mpr ⟨lw_p139, List.forall_mem_cons.mpr ⟨lw_p140, List.forall_mem_cons.mpr ⟨lw_p141, List.forall_mem_cons.mpr ⟨lw_p142, List.forall_mem_cons.mpr ⟨lw_p143, fun _ h => absurd h List.not_mem_nil⟩⟩⟩⟩⟩⟩⟩⟩⟩⟩⟩⟩⟩⟩⟩⟩
theorem lw_p144 : lw_okq (⟨"FilterForge$Translator", "turn", "(LFilterForge$Program;)I"⟩, 5) := ⟨⟨by decide +kernel, by decide +kernel⟩, List.mem_of_getElem? (i := 283) (by decide +kernel), List.mem_of_getElem? (i := 1287) (by decide +kernel), List.mem_of_getElem? (i := 1288) (by decide +kernel)⟩
theorem lw_p145 : lw_okq (⟨"FilterForge$Translator", "turnAll", "()V"⟩, 5) := ⟨⟨by decide +kernel, by decide +kernel⟩, List.mem_of_getElem? (i := 283) (by decide +kernel), List.mem_of_getElem? (i := 1291) (by decide +kernel), List.mem_of_getElem? (i := 1292) (by decide +kernel)⟩
theorem lw_p146 : lw_okq (⟨"FilterForge$Translator", "turnOne", "(I)V"⟩, 5) := ⟨⟨by decide +kernel, by decide +kernel⟩, List.mem_of_getElem? (i := 283) (by decide +kernel), List.mem_of_getElem? (i := 1295) (by decide +kernel), List.mem_of_getElem? (i := 1296) (by decide +kernel)⟩
theorem lw_p147 : lw_okq (⟨"FilterForge$Translator", "turnOp", "(J)V"⟩, 5) := ⟨⟨by decide +kernel, by decide +kernel⟩, List.mem_of_getElem? (i := 283) (by decide +kernel), List.mem_of_getElem? (i := 1302) (by decide +kernel), List.mem_of_getElem? (i := 1303) (by decide +kernel)⟩
theorem lw_p148 : lw_okq (⟨"FilterForge$Translator", "putNumber", "(II)V"⟩, 5) := ⟨⟨by decide +kernel, by decide +kernel⟩, List.mem_of_getElem? (i := 283) (by decide +kernel), List.mem_of_getElem? (i := 1313) (by decide +kernel), List.mem_of_getElem? (i := 1314) (by decide +kernel)⟩
theorem lw_p149 : lw_okq (⟨"FilterForge$Translator", "put", "(I)V"⟩, 5) := ⟨⟨by decide +kernel, by decide +kernel⟩, List.mem_of_getElem? (i := 283) (by decide +kernel), List.mem_of_getElem? (i := 1317) (by decide +kernel), List.mem_of_getElem? (i := 1318) (by decide +kernel)⟩
theorem lw_p150 : lw_okq (⟨"FilterForge$Translator", "putAdd", "(III)V"⟩, 5) := ⟨⟨by decide +kernel, by decide +kernel⟩, List.mem_of_getElem? (i := 283) (by decide +kernel), List.mem_of_getElem? (i := 1323) (by decide +kernel), List.mem_of_getElem? (i := 1324) (by decide +kernel)⟩
theorem lw_p151 : lw_okq (⟨"FilterForge$Translator", "putOp", "(IIIIII)V"⟩, 5) := ⟨⟨by decide +kernel, by decide +kernel⟩, List.mem_of_getElem? (i := 283) (by decide +kernel), List.mem_of_getElem? (i := 1327) (by decide +kernel), List.mem_of_getElem? (i := 1328) (by decide +kernel)⟩
theorem lw_p152 : lw_okq (⟨"FilterForge$Translator", "putSide", "(J)I"⟩, 5) := ⟨⟨by decide +kernel, by decide +kernel⟩, List.mem_of_getElem? (i := 283) (by decide +kernel), List.mem_of_getElem? (i := 1331) (by decide +kernel), List.mem_of_getElem? (i := 1332) (by decide +kernel)⟩
theorem lw_p153 : lw_okq (⟨"FilterForge$Translator", "turnDivision", "(ZII)V"⟩, 5) := ⟨⟨by decide +kernel, by decide +kernel⟩, List.mem_of_getElem? (i := 283) (by decide +kernel), List.mem_of_getElem? (i := 1335) (by decide +kernel), List.mem_of_getElem? (i := 1336) (by decide +kernel)⟩
theorem lw_p154 : lw_okq (⟨"FilterForge$Translator", "putImm", "(IIIII)V"⟩, 5) := ⟨⟨by decide +kernel, by decide +kernel⟩, List.mem_of_getElem? (i := 283) (by decide +kernel), List.mem_of_getElem? (i := 1339) (by decide +kernel), List.mem_of_getElem? (i := 1340) (by decide +kernel)⟩
theorem lw_p155 : lw_okq (⟨"FilterForge$Translator", "putBranch", "(IIII)V"⟩, 5) := ⟨⟨by decide +kernel, by decide +kernel⟩, List.mem_of_getElem? (i := 283) (by decide +kernel), List.mem_of_getElem? (i := 1343) (by decide +kernel), List.mem_of_getElem? (i := 1344) (by decide +kernel)⟩
theorem lw_p156 : lw_okq (⟨"FilterForge$Translator", "putGoing", "(I)V"⟩, 5) := ⟨⟨by decide +kernel, by decide +kernel⟩, List.mem_of_getElem? (i := 283) (by decide +kernel), List.mem_of_getElem? (i := 1347) (by decide +kernel), List.mem_of_getElem? (i := 1348) (by decide +kernel)⟩
theorem lw_p157 : lw_okq (⟨"FilterForge$Translator", "putCut", "(I)V"⟩, 5) := ⟨⟨by decide +kernel, by decide +kernel⟩, List.mem_of_getElem? (i := 283) (by decide +kernel), List.mem_of_getElem? (i := 1356) (by decide +kernel), List.mem_of_getElem? (i := 1357) (by decide +kernel)⟩
theorem lw_p158 : lw_okq (⟨"FilterForge$Translator", "turnJump", "(JI)V"⟩, 5) := ⟨⟨by decide +kernel, by decide +kernel⟩, List.mem_of_getElem? (i := 283) (by decide +kernel), List.mem_of_getElem? (i := 1361) (by decide +kernel), List.mem_of_getElem? (i := 1362) (by decide +kernel)⟩
theorem lw_p159 : lw_okq (⟨"FilterForge$Translator", "putPassing", "(III)V"⟩, 5) := ⟨⟨by decide +kernel, by decide +kernel⟩, List.mem_of_getElem? (i := 283) (by decide +kernel), List.mem_of_getElem? (i := 1365) (by decide +kernel), List.mem_of_getElem? (i := 1366) (by decide +kernel)⟩
def lw_privs_10 : List (MethodName × Nat) := [(⟨"FilterForge$Translator", "turn", "(LFilterForge$Program;)I"⟩, 5), (⟨"FilterForge$Translator", "turnAll", "()V"⟩, 5), (⟨"FilterForge$Translator", "turnOne", "(I)V"⟩, 5), (⟨"FilterForge$Translator", "turnOp", "(J)V"⟩, 5), (⟨"FilterForge$Translator", "putNumber", "(II)V"⟩, 5), (⟨"FilterForge$Translator", "put", "(I)V"⟩, 5), (⟨"FilterForge$Translator", "putAdd", "(III)V"⟩, 5), (⟨"FilterForge$Translator", "putOp", "(IIIIII)V"⟩, 5), (⟨"FilterForge$Translator", "putSide", "(J)I"⟩, 5), (⟨"FilterForge$Translator", "turnDivision", "(ZII)V"⟩, 5), (⟨"FilterForge$Translator", "putImm", "(IIIII)V"⟩, 5), (⟨"FilterForge$Translator", "putBranch", "(IIII)V"⟩, 5), (⟨"FilterForge$Translator", "putGoing", "(I)V"⟩, 5), (⟨"FilterForge$Translator", "putCut", "(I)V"⟩, 5), (⟨"FilterForge$Translator", "turnJump", "(JI)V"⟩, 5), (⟨"FilterForge$Translator", "putPassing", "(III)V"⟩, 5)]
theorem lw_r10 : ∀ q ∈ lw_privs_10, lw_okq q := List.forall_mem_cons.mpr ⟨lw_p144, List.forall_mem_cons.mpr ⟨lw_p145, List.forall_mem_cons.mpr ⟨lw_p146, List.forall_mem_cons.mpr ⟨lw_p147, List.forall_mem_cons.mpr ⟨lw_p148, List.forall_mem_cons.mpr ⟨lw_p149, List.forall_mem_cons.mpr ⟨lw_p150, List.forall_mem_cons.mpr ⟨lw_p151, List.forall_mem_cons.mpr ⟨lw_p152, List.forall_mem_cons.mpr ⟨lw_p153, List.forall_mem_cons.mpr ⟨lw_p154, List.forall_mem_cons.mpr ⟨lw_p155, List.forall_mem_cons.mpr ⟨lw_p156, List.forall_mem_cons.mpr ⟨lw_p157, List.forall_mem_cons.mpr ⟨lw_p158, List.forall_mem_cons.mpr ⟨lw_p159, fun _ h => absurd h List.not_mem_nil⟩⟩⟩⟩⟩⟩⟩⟩⟩⟩⟩⟩⟩⟩⟩⟩
theorem lw_p160 : lw_okq (⟨"FilterForge$Translator", "turnRead", "(J)V"⟩, 5) := ⟨⟨by decide +kernel, by decide +kernel⟩, List.mem_of_getElem? (i := 283) (by decide +kernel), List.mem_of_getElem? (i := 1371) (by decide +kernel), List.mem_of_getElem? (i := 1372) (by decide +kernel)⟩
theorem lw_p161 : lw_okq (⟨"FilterForge$Translator", "turnMemory", "(J)V"⟩, 5) := ⟨⟨by decide +kernel, by decide +kernel⟩, List.mem_of_getElem? (i := 283) (by decide +kernel), List.mem_of_getElem? (i := 1376) (by decide +kernel), List.mem_of_getElem? (i := 1377) (by decide +kernel)⟩
theorem lw_p162 : lw_okq (⟨"FilterForge$Translator", "putStore", "(III)V"⟩, 5) := ⟨⟨by decide +kernel, by decide +kernel⟩, List.mem_of_getElem? (i := 283) (by decide +kernel), List.mem_of_getElem? (i := 1381) (by decide +kernel), List.mem_of_getElem? (i := 1382) (by decide +kernel)⟩
theorem lw_p163 : lw_okq (⟨"FilterForge$ObjectCode", "takeTape", "(LFilterForge$Tape;)I"⟩, 2) := ⟨⟨by decide +kernel, by decide +kernel⟩, List.mem_of_getElem? (i := 125) (by decide +kernel), List.mem_of_getElem? (i := 1389) (by decide +kernel), List.mem_of_getElem? (i := 1390) (by decide +kernel)⟩
theorem lw_p164 : lw_okq (⟨"FilterForge$ObjectCode", "at", "(I)I"⟩, 2) := ⟨⟨by decide +kernel, by decide +kernel⟩, List.mem_of_getElem? (i := 125) (by decide +kernel), List.mem_of_getElem? (i := 1398) (by decide +kernel), List.mem_of_getElem? (i := 1399) (by decide +kernel)⟩
theorem lw_p165 : lw_okq (⟨"FilterForge$ObjectCode", "perform", "(LFilterForge$Machine;II)J"⟩, 2) := ⟨⟨by decide +kernel, by decide +kernel⟩, List.mem_of_getElem? (i := 125) (by decide +kernel), List.mem_of_getElem? (i := 1406) (by decide +kernel), List.mem_of_getElem? (i := 1407) (by decide +kernel)⟩
theorem lw_p166 : lw_okq (⟨"FilterForge$ObjectCode", "step", "(LFilterForge$Machine;)V"⟩, 2) := ⟨⟨by decide +kernel, by decide +kernel⟩, List.mem_of_getElem? (i := 125) (by decide +kernel), List.mem_of_getElem? (i := 1416) (by decide +kernel), List.mem_of_getElem? (i := 1417) (by decide +kernel)⟩
theorem lw_p167 : lw_okq (⟨"FilterForge$Filter", "says", "(LFilterForge$Packets;I)Z"⟩, 18) := ⟨⟨by decide +kernel, by decide +kernel⟩, List.mem_of_getElem? (i := 142) (by decide +kernel), List.mem_of_getElem? (i := 1501) (by decide +kernel), List.mem_of_getElem? (i := 1502) (by decide +kernel)⟩
theorem lw_p168 : lw_okq (⟨"FilterForge$Filter", "value", "(IILFilterForge$Packets;I)J"⟩, 18) := ⟨⟨by decide +kernel, by decide +kernel⟩, List.mem_of_getElem? (i := 142) (by decide +kernel), List.mem_of_getElem? (i := 1505) (by decide +kernel), List.mem_of_getElem? (i := 1506) (by decide +kernel)⟩
theorem lw_p169 : lw_okq (⟨"FilterForgeModel", "feedOne", "(I)V"⟩, 78) := ⟨⟨by decide +kernel, by decide +kernel⟩, List.mem_of_getElem? (i := 1528) (by decide +kernel), List.mem_of_getElem? (i := 1779) (by decide +kernel), List.mem_of_getElem? (i := 1780) (by decide +kernel)⟩
theorem lw_p170 : lw_okq (⟨"FilterForgeModel", "isPacket", "(I)Z"⟩, 78) := ⟨⟨by decide +kernel, by decide +kernel⟩, List.mem_of_getElem? (i := 1528) (by decide +kernel), List.mem_of_getElem? (i := 1795) (by decide +kernel), List.mem_of_getElem? (i := 1796) (by decide +kernel)⟩
theorem lw_p171 : lw_okq (⟨"FilterForgeModel", "isMatch", "(I)Z"⟩, 78) := ⟨⟨by decide +kernel, by decide +kernel⟩, List.mem_of_getElem? (i := 1528) (by decide +kernel), List.mem_of_getElem? (i := 1804) (by decide +kernel), List.mem_of_getElem? (i := 1805) (by decide +kernel)⟩
theorem lw_p172 : lw_okq (⟨"FilterForgeModel", "sumOf", "(LFilterForgeModel$Sum;I)J"⟩, 78) := ⟨⟨by decide +kernel, by decide +kernel⟩, List.mem_of_getElem? (i := 1528) (by decide +kernel), List.mem_of_getElem? (i := 1809) (by decide +kernel), List.mem_of_getElem? (i := 1810) (by decide +kernel)⟩
theorem lw_p173 : lw_okq (⟨"FilterForgeModel", "leftmost", "(LFilterForgeModel$Sum;)LFilterForgeModel$Sum;"⟩, 78) := ⟨⟨by decide +kernel, by decide +kernel⟩, List.mem_of_getElem? (i := 1528) (by decide +kernel), List.mem_of_getElem? (i := 1813) (by decide +kernel), List.mem_of_getElem? (i := 1814) (by decide +kernel)⟩
theorem lw_p174 : lw_okq (⟨"FilterForgeModel", "atomOf", "(LFilterForgeModel$Sum;I)J"⟩, 78) := ⟨⟨by decide +kernel, by decide +kernel⟩, List.mem_of_getElem? (i := 1528) (by decide +kernel), List.mem_of_getElem? (i := 1817) (by decide +kernel), List.mem_of_getElem? (i := 1818) (by decide +kernel)⟩
theorem lw_p175 : lw_okq (⟨"FilterForgeModel", "headerOf", "(I)J"⟩, 78) := ⟨⟨by decide +kernel, by decide +kernel⟩, List.mem_of_getElem? (i := 1528) (by decide +kernel), List.mem_of_getElem? (i := 1822) (by decide +kernel), List.mem_of_getElem? (i := 1823) (by decide +kernel)⟩
def lw_privs_11 : List (MethodName × Nat) := [(⟨"FilterForge$Translator", "turnRead", "(J)V"⟩, 5), (⟨"FilterForge$Translator", "turnMemory", "(J)V"⟩, 5), (⟨"FilterForge$Translator", "putStore", "(III)V"⟩, 5), (⟨"FilterForge$ObjectCode", "takeTape", "(LFilterForge$Tape;)I"⟩, 2), (⟨"FilterForge$ObjectCode", "at", "(I)I"⟩, 2), (⟨"FilterForge$ObjectCode", "perform", "(LFilterForge$Machine;II)J"⟩, 2), (⟨"FilterForge$ObjectCode", "step", "(LFilterForge$Machine;)V"⟩, 2), (⟨"FilterForge$Filter", "says", "(LFilterForge$Packets;I)Z"⟩, 18), (⟨"FilterForge$Filter", "value", "(IILFilterForge$Packets;I)J"⟩, 18), (⟨"FilterForgeModel", "feedOne", "(I)V"⟩, 78), (⟨"FilterForgeModel", "isPacket", "(I)Z"⟩, 78), (⟨"FilterForgeModel", "isMatch", "(I)Z"⟩, 78), (⟨"FilterForgeModel", "sumOf", "(LFilterForgeModel$Sum;I)J"⟩, 78), (⟨"FilterForgeModel", "leftmost", "(LFilterForgeModel$Sum;)LFilterForgeModel$Sum;"⟩, 78), (⟨"FilterForgeModel", "atomOf", "(LFilterForgeModel$Sum;I)J"⟩, 78), (⟨"FilterForgeModel", "headerOf", "(I)J"⟩, 78)]
theorem lw_r11 : ∀ q ∈ lw_privs_11, lw_okq q := List.forall_mem_cons.mpr ⟨lw_p160, List.forall_mem_cons.mpr ⟨lw_p161, List.forall_mem_cons.mpr ⟨lw_p162, List.forall_mem_cons.mpr ⟨lw_p163, List.forall_mem_cons.mpr ⟨lw_p164, List.forall_mem_cons.mpr ⟨lw_p165, List.forall_mem_cons.mpr ⟨lw_p166, List.forall_mem_cons.mpr ⟨lw_p167, List.forall_mem_cons.mpr ⟨lw_p168, List.forall_mem_cons.mpr ⟨lw_p169, List.forall_mem_cons.mpr ⟨lw_p170, List.forall_mem_cons.mpr ⟨lw_p171, List.forall_mem_cons.mpr ⟨lw_p172, List.forall_mem_cons.mpr ⟨lw_p173, List.forall_mem_cons.mpr ⟨lw_p174, List.forall_mem_cons.mpr ⟨lw_p175, fun _ h => absurd h List.not_mem_nil⟩⟩⟩⟩⟩⟩⟩⟩⟩⟩⟩⟩⟩⟩⟩⟩
theorem lw_p176 : lw_okq (⟨"FilterForgeModel", "readOrNever", "(IJI)J"⟩, 78) := ⟨⟨by decide +kernel, by decide +kernel⟩, List.mem_of_getElem? (i := 1528) (by decide +kernel), List.mem_of_getElem? (i := 1828) (by decide +kernel), List.mem_of_getElem? (i := 1829) (by decide +kernel)⟩
theorem lw_p177 : lw_okq (⟨"FilterForgeModel", "readAt", "(IJI)J"⟩, 78) := ⟨⟨by decide +kernel, by decide +kernel⟩, List.mem_of_getElem? (i := 1528) (by decide +kernel), List.mem_of_getElem? (i := 1832) (by decide +kernel), List.mem_of_getElem? (i := 1833) (by decide +kernel)⟩
theorem lw_p178 : lw_okq (⟨"java/lang/Throwable", "fillInStackTrace", "(I)Ljava/lang/Throwable;"⟩, 6) := ⟨⟨by decide +kernel, by decide +kernel⟩, List.mem_of_getElem? (i := 1872) (by decide +kernel), List.mem_of_getElem? (i := 1870) (by decide +kernel), List.mem_of_getElem? (i := 1871) (by decide +kernel)⟩
theorem lw_p179 : lw_okq (⟨"FilterForgeModel", "next", "()V"⟩, 78) := ⟨⟨by decide +kernel, by decide +kernel⟩, List.mem_of_getElem? (i := 1528) (by decide +kernel), List.mem_of_getElem? (i := 1910) (by decide +kernel), List.mem_of_getElem? (i := 1911) (by decide +kernel)⟩
theorem lw_p180 : lw_okq (⟨"FilterForgeModel", "isOfWord", "(I)Z"⟩, 78) := ⟨⟨by decide +kernel, by decide +kernel⟩, List.mem_of_getElem? (i := 1528) (by decide +kernel), List.mem_of_getElem? (i := 1914) (by decide +kernel), List.mem_of_getElem? (i := 1915) (by decide +kernel)⟩
theorem lw_p181 : lw_okq (⟨"FilterForgeModel", "at", "(I)I"⟩, 78) := ⟨⟨by decide +kernel, by decide +kernel⟩, List.mem_of_getElem? (i := 1528) (by decide +kernel), List.mem_of_getElem? (i := 1918) (by decide +kernel), List.mem_of_getElem? (i := 1919) (by decide +kernel)⟩
theorem lw_p182 : lw_okq (⟨"FilterForgeModel", "must", "(Z)V"⟩, 78) := ⟨⟨by decide +kernel, by decide +kernel⟩, List.mem_of_getElem? (i := 1528) (by decide +kernel), List.mem_of_getElem? (i := 1925) (by decide +kernel), List.mem_of_getElem? (i := 1926) (by decide +kernel)⟩
theorem lw_p183 : lw_okq (⟨"FilterForgeModel", "readFilter", "()LFilterForgeModel$Filter;"⟩, 78) := ⟨⟨by decide +kernel, by decide +kernel⟩, List.mem_of_getElem? (i := 1528) (by decide +kernel), List.mem_of_getElem? (i := 1947) (by decide +kernel), List.mem_of_getElem? (i := 1948) (by decide +kernel)⟩
theorem lw_p184 : lw_okq (⟨"FilterForgeModel", "readAll", "()LFilterForgeModel$Filter;"⟩, 78) := ⟨⟨by decide +kernel, by decide +kernel⟩, List.mem_of_getElem? (i := 1528) (by decide +kernel), List.mem_of_getElem? (i := 1951) (by decide +kernel), List.mem_of_getElem? (i := 1952) (by decide +kernel)⟩
theorem lw_p185 : lw_okq (⟨"FilterForgeModel", "readOne", "()LFilterForgeModel$Filter;"⟩, 78) := ⟨⟨by decide +kernel, by decide +kernel⟩, List.mem_of_getElem? (i := 1528) (by decide +kernel), List.mem_of_getElem? (i := 1955) (by decide +kernel), List.mem_of_getElem? (i := 1956) (by decide +kernel)⟩
theorem lw_p186 : lw_okq (⟨"FilterForgeModel", "is", "(Ljava/lang/String;)Z"⟩, 78) := ⟨⟨by decide +kernel, by decide +kernel⟩, List.mem_of_getElem? (i := 1528) (by decide +kernel), List.mem_of_getElem? (i := 1960) (by decide +kernel), List.mem_of_getElem? (i := 1961) (by decide +kernel)⟩
theorem lw_p187 : lw_okq (⟨"FilterForgeModel", "opensFilter", "()V"⟩, 78) := ⟨⟨by decide +kernel, by decide +kernel⟩, List.mem_of_getElem? (i := 1528) (by decide +kernel), List.mem_of_getElem? (i := 1966) (by decide +kernel), List.mem_of_getElem? (i := 1967) (by decide +kernel)⟩
theorem lw_p188 : lw_okq (⟨"FilterForgeModel", "want", "(Ljava/lang/String;)V"⟩, 78) := ⟨⟨by decide +kernel, by decide +kernel⟩, List.mem_of_getElem? (i := 1528) (by decide +kernel), List.mem_of_getElem? (i := 2005) (by decide +kernel), List.mem_of_getElem? (i := 2006) (by decide +kernel)⟩
theorem lw_p189 : lw_okq (⟨"FilterForgeModel", "accessOf", "()I"⟩, 78) := ⟨⟨by decide +kernel, by decide +kernel⟩, List.mem_of_getElem? (i := 1528) (by decide +kernel), List.mem_of_getElem? (i := 2009) (by decide +kernel), List.mem_of_getElem? (i := 2010) (by decide +kernel)⟩
theorem lw_p190 : lw_okq (⟨"FilterForgeModel", "readAccessed", "(I)LFilterForgeModel$Filter;"⟩, 78) := ⟨⟨by decide +kernel, by decide +kernel⟩, List.mem_of_getElem? (i := 1528) (by decide +kernel), List.mem_of_getElem? (i := 2020) (by decide +kernel), List.mem_of_getElem? (i := 2021) (by decide +kernel)⟩
theorem lw_p191 : lw_okq (⟨"FilterForgeModel", "readRelation", "()LFilterForgeModel$Filter;"⟩, 78) := ⟨⟨by decide +kernel, by decide +kernel⟩, List.mem_of_getElem? (i := 1528) (by decide +kernel), List.mem_of_getElem? (i := 2025) (by decide +kernel), List.mem_of_getElem? (i := 2026) (by decide +kernel)⟩
def lw_privs_12 : List (MethodName × Nat) := [(⟨"FilterForgeModel", "readOrNever", "(IJI)J"⟩, 78), (⟨"FilterForgeModel", "readAt", "(IJI)J"⟩, 78), (⟨"java/lang/Throwable", "fillInStackTrace", "(I)Ljava/lang/Throwable;"⟩, 6), (⟨"FilterForgeModel", "next", "()V"⟩, 78), (⟨"FilterForgeModel", "isOfWord", "(I)Z"⟩, 78), (⟨"FilterForgeModel", "at", "(I)I"⟩, 78), (⟨"FilterForgeModel", "must", "(Z)V"⟩, 78), (⟨"FilterForgeModel", "readFilter", "()LFilterForgeModel$Filter;"⟩, 78), (⟨"FilterForgeModel", "readAll", "()LFilterForgeModel$Filter;"⟩, 78), (⟨"FilterForgeModel", "readOne", "()LFilterForgeModel$Filter;"⟩, 78), (⟨"FilterForgeModel", "is", "(Ljava/lang/String;)Z"⟩, 78), (⟨"FilterForgeModel", "opensFilter", "()V"⟩, 78), (⟨"FilterForgeModel", "want", "(Ljava/lang/String;)V"⟩, 78), (⟨"FilterForgeModel", "accessOf", "()I"⟩, 78), (⟨"FilterForgeModel", "readAccessed", "(I)LFilterForgeModel$Filter;"⟩, 78), (⟨"FilterForgeModel", "readRelation", "()LFilterForgeModel$Filter;"⟩, 78)]
theorem lw_r12 : ∀ q ∈ lw_privs_12, lw_okq q := List.forall_mem_cons.mpr ⟨lw_p176, List.forall_mem_cons.mpr ⟨lw_p177, List.forall_mem_cons.mpr ⟨lw_p178, List.forall_mem_cons.mpr ⟨lw_p179, List.forall_mem_cons.mpr ⟨lw_p180, List.forall_mem_cons.mpr ⟨lw_p181, List.forall_mem_cons.mpr ⟨lw_p182, List.forall_mem_cons.mpr ⟨lw_p183, List.forall_mem_cons.mpr ⟨lw_p184, List.forall_mem_cons.mpr ⟨lw_p185, List.forall_mem_cons.mpr ⟨lw_p186, List.forall_mem_cons.mpr ⟨lw_p187, List.forall_mem_cons.mpr ⟨lw_p188, List.forall_mem_cons.mpr ⟨lw_p189, List.forall_mem_cons.mpr ⟨lw_p190, List.forall_mem_cons.mpr ⟨lw_p191, fun _ h => absurd h List.not_mem_nil⟩⟩⟩⟩⟩⟩⟩⟩⟩⟩⟩⟩⟩⟩⟩⟩
theorem lw_p192 : lw_okq (⟨"FilterForgeModel", "readSum", "()LFilterForgeModel$Sum;"⟩, 78) := ⟨⟨by decide +kernel, by decide +kernel⟩, List.mem_of_getElem? (i := 1528) (by decide +kernel), List.mem_of_getElem? (i := 2029) (by decide +kernel), List.mem_of_getElem? (i := 2030) (by decide +kernel)⟩
theorem lw_p193 : lw_okq (⟨"FilterForgeModel", "readProduct", "()LFilterForgeModel$Sum;"⟩, 78) := ⟨⟨by decide +kernel, by decide +kernel⟩, List.mem_of_getElem? (i := 1528) (by decide +kernel), List.mem_of_getElem? (i := 2033) (by decide +kernel), List.mem_of_getElem? (i := 2034) (by decide +kernel)⟩
theorem lw_p194 : lw_okq (⟨"FilterForgeModel", "readAtom", "(I)LFilterForgeModel$Sum;"⟩, 78) := ⟨⟨by decide +kernel, by decide +kernel⟩, List.mem_of_getElem? (i := 1528) (by decide +kernel), List.mem_of_getElem? (i := 2037) (by decide +kernel), List.mem_of_getElem? (i := 2038) (by decide +kernel)⟩
theorem lw_p195 : lw_okq (⟨"FilterForgeModel", "opensSum", "()V"⟩, 78) := ⟨⟨by decide +kernel, by decide +kernel⟩, List.mem_of_getElem? (i := 1528) (by decide +kernel), List.mem_of_getElem? (i := 2069) (by decide +kernel), List.mem_of_getElem? (i := 2070) (by decide +kernel)⟩
theorem lw_p196 : lw_okq (⟨"FilterForgeModel", "wantNumber", "(JJ)J"⟩, 78) := ⟨⟨by decide +kernel, by decide +kernel⟩, List.mem_of_getElem? (i := 1528) (by decide +kernel), List.mem_of_getElem? (i := 2075) (by decide +kernel), List.mem_of_getElem? (i := 2076) (by decide +kernel)⟩
theorem lw_p197 : lw_okq (⟨"FilterForgeModel", "number", "()J"⟩, 78) := ⟨⟨by decide +kernel, by decide +kernel⟩, List.mem_of_getElem? (i := 1528) (by decide +kernel), List.mem_of_getElem? (i := 2079) (by decide +kernel), List.mem_of_getElem? (i := 2080) (by decide +kernel)⟩
theorem lw_p198 : lw_okq (⟨"FilterForgeModel", "readAccess", "(I)LFilterForgeModel$Sum;"⟩, 78) := ⟨⟨by decide +kernel, by decide +kernel⟩, List.mem_of_getElem? (i := 1528) (by decide +kernel), List.mem_of_getElem? (i := 2092) (by decide +kernel), List.mem_of_getElem? (i := 2093) (by decide +kernel)⟩
theorem lw_p199 : lw_okq (⟨"FilterForgeModel", "productOp", "()I"⟩, 78) := ⟨⟨by decide +kernel, by decide +kernel⟩, List.mem_of_getElem? (i := 1528) (by decide +kernel), List.mem_of_getElem? (i := 2099) (by decide +kernel), List.mem_of_getElem? (i := 2100) (by decide +kernel)⟩
theorem lw_p200 : lw_okq (⟨"FilterForgeModel", "sumOp", "()I"⟩, 78) := ⟨⟨by decide +kernel, by decide +kernel⟩, List.mem_of_getElem? (i := 1528) (by decide +kernel), List.mem_of_getElem? (i := 2109) (by decide +kernel), List.mem_of_getElem? (i := 2110) (by decide +kernel)⟩
theorem lw_p201 : lw_okq (⟨"FilterForgeModel", "readAddressed", "(I)LFilterForgeModel$Filter;"⟩, 78) := ⟨⟨by decide +kernel, by decide +kernel⟩, List.mem_of_getElem? (i := 1528) (by decide +kernel), List.mem_of_getElem? (i := 2173) (by decide +kernel), List.mem_of_getElem? (i := 2174) (by decide +kernel)⟩
theorem lw_p202 : lw_okq (⟨"FilterForgeModel", "wantAddress", "()J"⟩, 78) := ⟨⟨by decide +kernel, by decide +kernel⟩, List.mem_of_getElem? (i := 1528) (by decide +kernel), List.mem_of_getElem? (i := 2177) (by decide +kernel), List.mem_of_getElem? (i := 2178) (by decide +kernel)⟩
theorem lw_p203 : lw_okq (⟨"FilterForgeModel", "number", "(LFilterForgeModel$Filter;)V"⟩, 78) := ⟨⟨by decide +kernel, by decide +kernel⟩, List.mem_of_getElem? (i := 1528) (by decide +kernel), List.mem_of_getElem? (i := 2209) (by decide +kernel), List.mem_of_getElem? (i := 2210) (by decide +kernel)⟩
theorem lw_p204 : lw_okq (⟨"FilterForgeModel", "push", "(LFilterForgeModel$Filter;II)V"⟩, 78) := ⟨⟨by decide +kernel, by decide +kernel⟩, List.mem_of_getElem? (i := 1528) (by decide +kernel), List.mem_of_getElem? (i := 2213) (by decide +kernel), List.mem_of_getElem? (i := 2214) (by decide +kernel)⟩
theorem lw_p205 : lw_okq (⟨"FilterForgeModel", "addTest", "(LFilterForgeModel$Filter;)V"⟩, 78) := ⟨⟨by decide +kernel, by decide +kernel⟩, List.mem_of_getElem? (i := 1528) (by decide +kernel), List.mem_of_getElem? (i := 2217) (by decide +kernel), List.mem_of_getElem? (i := 2218) (by decide +kernel)⟩
theorem lw_p206 : lw_okq (⟨"FilterForgeModel", "wire", "(LFilterForgeModel$Filter;)V"⟩, 78) := ⟨⟨by decide +kernel, by decide +kernel⟩, List.mem_of_getElem? (i := 1528) (by decide +kernel), List.mem_of_getElem? (i := 2221) (by decide +kernel), List.mem_of_getElem? (i := 2222) (by decide +kernel)⟩
theorem lw_p207 : lw_okq (⟨"FilterForgeModel", "make", "()I"⟩, 78) := ⟨⟨by decide +kernel, by decide +kernel⟩, List.mem_of_getElem? (i := 1528) (by decide +kernel), List.mem_of_getElem? (i := 2225) (by decide +kernel), List.mem_of_getElem? (i := 2226) (by decide +kernel)⟩
def lw_privs_13 : List (MethodName × Nat) := [(⟨"FilterForgeModel", "readSum", "()LFilterForgeModel$Sum;"⟩, 78), (⟨"FilterForgeModel", "readProduct", "()LFilterForgeModel$Sum;"⟩, 78), (⟨"FilterForgeModel", "readAtom", "(I)LFilterForgeModel$Sum;"⟩, 78), (⟨"FilterForgeModel", "opensSum", "()V"⟩, 78), (⟨"FilterForgeModel", "wantNumber", "(JJ)J"⟩, 78), (⟨"FilterForgeModel", "number", "()J"⟩, 78), (⟨"FilterForgeModel", "readAccess", "(I)LFilterForgeModel$Sum;"⟩, 78), (⟨"FilterForgeModel", "productOp", "()I"⟩, 78), (⟨"FilterForgeModel", "sumOp", "()I"⟩, 78), (⟨"FilterForgeModel", "readAddressed", "(I)LFilterForgeModel$Filter;"⟩, 78), (⟨"FilterForgeModel", "wantAddress", "()J"⟩, 78), (⟨"FilterForgeModel", "number", "(LFilterForgeModel$Filter;)V"⟩, 78), (⟨"FilterForgeModel", "push", "(LFilterForgeModel$Filter;II)V"⟩, 78), (⟨"FilterForgeModel", "addTest", "(LFilterForgeModel$Filter;)V"⟩, 78), (⟨"FilterForgeModel", "wire", "(LFilterForgeModel$Filter;)V"⟩, 78), (⟨"FilterForgeModel", "make", "()I"⟩, 78)]
theorem lw_r13 : ∀ q ∈ lw_privs_13, lw_okq q := List.forall_mem_cons.mpr ⟨lw_p192, List.forall_mem_cons.mpr ⟨lw_p193, List.forall_mem_cons.mpr ⟨lw_p194, List.forall_mem_cons.mpr ⟨lw_p195, List.forall_mem_cons.mpr ⟨lw_p196, List.forall_mem_cons.mpr ⟨lw_p197, List.forall_mem_cons.mpr ⟨lw_p198, List.forall_mem_cons.mpr ⟨lw_p199, List.forall_mem_cons.mpr ⟨lw_p200, List.forall_mem_cons.mpr ⟨lw_p201, List.forall_mem_cons.mpr ⟨lw_p202, List.forall_mem_cons.mpr ⟨lw_p203, List.forall_mem_cons.mpr ⟨lw_p204, List.forall_mem_cons.mpr ⟨lw_p205, List.forall_mem_cons.mpr ⟨lw_p206, List.forall_mem_cons.mpr ⟨lw_p207, fun _ h => absurd h List.not_mem_nil⟩⟩⟩⟩⟩⟩⟩⟩⟩⟩⟩⟩⟩⟩⟩⟩
theorem lw_p208 : lw_okq (⟨"FilterForgeModel", "decide", "([I[I)V"⟩, 78) := ⟨⟨by decide +kernel, by decide +kernel⟩, List.mem_of_getElem? (i := 1528) (by decide +kernel), List.mem_of_getElem? (i := 2229) (by decide +kernel), List.mem_of_getElem? (i := 2230) (by decide +kernel)⟩
theorem lw_p209 : lw_okq (⟨"FilterForgeModel", "decided", "(IIZ[I[I)I"⟩, 78) := ⟨⟨by decide +kernel, by decide +kernel⟩, List.mem_of_getElem? (i := 1528) (by decide +kernel), List.mem_of_getElem? (i := 2233) (by decide +kernel), List.mem_of_getElem? (i := 2234) (by decide +kernel)⟩
theorem lw_p210 : lw_okq (⟨"FilterForgeModel", "reached", "([I[I)[Z"⟩, 78) := ⟨⟨by decide +kernel, by decide +kernel⟩, List.mem_of_getElem? (i := 1528) (by decide +kernel), List.mem_of_getElem? (i := 2244) (by decide +kernel), List.mem_of_getElem? (i := 2245) (by decide +kernel)⟩
theorem lw_p211 : lw_okq (⟨"FilterForgeModel", "emit", "(IIIIJ)V"⟩, 78) := ⟨⟨by decide +kernel, by decide +kernel⟩, List.mem_of_getElem? (i := 1528) (by decide +kernel), List.mem_of_getElem? (i := 2248) (by decide +kernel), List.mem_of_getElem? (i := 2249) (by decide +kernel)⟩
theorem lw_p212 : lw_okq (⟨"FilterForgeModel", "makeTest", "(LFilterForgeModel$Filter;III)V"⟩, 78) := ⟨⟨by decide +kernel, by decide +kernel⟩, List.mem_of_getElem? (i := 1528) (by decide +kernel), List.mem_of_getElem? (i := 2252) (by decide +kernel), List.mem_of_getElem? (i := 2253) (by decide +kernel)⟩
theorem lw_p213 : lw_okq (⟨"FilterForgeModel", "makeSum", "(LFilterForgeModel$Sum;I)V"⟩, 78) := ⟨⟨by decide +kernel, by decide +kernel⟩, List.mem_of_getElem? (i := 1528) (by decide +kernel), List.mem_of_getElem? (i := 2256) (by decide +kernel), List.mem_of_getElem? (i := 2257) (by decide +kernel)⟩
theorem lw_p214 : lw_okq (⟨"FilterForgeModel", "makeAtom", "(LFilterForgeModel$Sum;I)V"⟩, 78) := ⟨⟨by decide +kernel, by decide +kernel⟩, List.mem_of_getElem? (i := 1528) (by decide +kernel), List.mem_of_getElem? (i := 2260) (by decide +kernel), List.mem_of_getElem? (i := 2261) (by decide +kernel)⟩
theorem lw_p215 : lw_okq (⟨"FilterForgeModel", "makeAccess", "(LFilterForgeModel$Sum;I)V"⟩, 78) := ⟨⟨by decide +kernel, by decide +kernel⟩, List.mem_of_getElem? (i := 1528) (by decide +kernel), List.mem_of_getElem? (i := 2264) (by decide +kernel), List.mem_of_getElem? (i := 2265) (by decide +kernel)⟩
theorem lw_p216 : lw_okq (⟨"FilterForgeModel", "makeHeader", "()V"⟩, 78) := ⟨⟨by decide +kernel, by decide +kernel⟩, List.mem_of_getElem? (i := 1528) (by decide +kernel), List.mem_of_getElem? (i := 2268) (by decide +kernel), List.mem_of_getElem? (i := 2269) (by decide +kernel)⟩
theorem lw_p217 : lw_okq (⟨"FilterForgeModel", "keep", "(I)V"⟩, 78) := ⟨⟨by decide +kernel, by decide +kernel⟩, List.mem_of_getElem? (i := 1528) (by decide +kernel), List.mem_of_getElem? (i := 2275) (by decide +kernel), List.mem_of_getElem? (i := 2276) (by decide +kernel)⟩
theorem lw_p218 : lw_okq (⟨"FilterForgeModel", "makeJoined", "(LFilterForgeModel$Sum;I)V"⟩, 78) := ⟨⟨by decide +kernel, by decide +kernel⟩, List.mem_of_getElem? (i := 1528) (by decide +kernel), List.mem_of_getElem? (i := 2282) (by decide +kernel), List.mem_of_getElem? (i := 2283) (by decide +kernel)⟩
theorem lw_p219 : lw_okq (⟨"FilterForgeModel", "toNo", "()V"⟩, 78) := ⟨⟨by decide +kernel, by decide +kernel⟩, List.mem_of_getElem? (i := 1528) (by decide +kernel), List.mem_of_getElem? (i := 2286) (by decide +kernel), List.mem_of_getElem? (i := 2287) (by decide +kernel)⟩
theorem lw_p220 : lw_okq (⟨"FilterForgeModel", "goesTo", "(I)V"⟩, 78) := ⟨⟨by decide +kernel, by decide +kernel⟩, List.mem_of_getElem? (i := 1528) (by decide +kernel), List.mem_of_getElem? (i := 2290) (by decide +kernel), List.mem_of_getElem? (i := 2291) (by decide +kernel)⟩
theorem lw_p221 : lw_okq (⟨"FilterForgeModel", "takeProgram", "(I)V"⟩, 78) := ⟨⟨by decide +kernel, by decide +kernel⟩, List.mem_of_getElem? (i := 1528) (by decide +kernel), List.mem_of_getElem? (i := 2297) (by decide +kernel), List.mem_of_getElem? (i := 2298) (by decide +kernel)⟩
theorem lw_p222 : lw_okq (⟨"FilterForgeModel", "begins", "()V"⟩, 78) := ⟨⟨by decide +kernel, by decide +kernel⟩, List.mem_of_getElem? (i := 1528) (by decide +kernel), List.mem_of_getElem? (i := 2313) (by decide +kernel), List.mem_of_getElem? (i := 2314) (by decide +kernel)⟩
theorem lw_p223 : lw_okq (⟨"FilterForgeModel", "does", "(JI)I"⟩, 78) := ⟨⟨by decide +kernel, by decide +kernel⟩, List.mem_of_getElem? (i := 1528) (by decide +kernel), List.mem_of_getElem? (i := 2348) (by decide +kernel), List.mem_of_getElem? (i := 2349) (by decide +kernel)⟩
def lw_privs_14 : List (MethodName × Nat) := [(⟨"FilterForgeModel", "decide", "([I[I)V"⟩, 78), (⟨"FilterForgeModel", "decided", "(IIZ[I[I)I"⟩, 78), (⟨"FilterForgeModel", "reached", "([I[I)[Z"⟩, 78), (⟨"FilterForgeModel", "emit", "(IIIIJ)V"⟩, 78), (⟨"FilterForgeModel", "makeTest", "(LFilterForgeModel$Filter;III)V"⟩, 78), (⟨"FilterForgeModel", "makeSum", "(LFilterForgeModel$Sum;I)V"⟩, 78), (⟨"FilterForgeModel", "makeAtom", "(LFilterForgeModel$Sum;I)V"⟩, 78), (⟨"FilterForgeModel", "makeAccess", "(LFilterForgeModel$Sum;I)V"⟩, 78), (⟨"FilterForgeModel", "makeHeader", "()V"⟩, 78), (⟨"FilterForgeModel", "keep", "(I)V"⟩, 78), (⟨"FilterForgeModel", "makeJoined", "(LFilterForgeModel$Sum;I)V"⟩, 78), (⟨"FilterForgeModel", "toNo", "()V"⟩, 78), (⟨"FilterForgeModel", "goesTo", "(I)V"⟩, 78), (⟨"FilterForgeModel", "takeProgram", "(I)V"⟩, 78), (⟨"FilterForgeModel", "begins", "()V"⟩, 78), (⟨"FilterForgeModel", "does", "(JI)I"⟩, 78)]
theorem lw_r14 : ∀ q ∈ lw_privs_14, lw_okq q := List.forall_mem_cons.mpr ⟨lw_p208, List.forall_mem_cons.mpr ⟨lw_p209, List.forall_mem_cons.mpr ⟨lw_p210, List.forall_mem_cons.mpr ⟨lw_p211, List.forall_mem_cons.mpr ⟨lw_p212, List.forall_mem_cons.mpr ⟨lw_p213, List.forall_mem_cons.mpr ⟨lw_p214, List.forall_mem_cons.mpr ⟨lw_p215, List.forall_mem_cons.mpr ⟨lw_p216, List.forall_mem_cons.mpr ⟨lw_p217, List.forall_mem_cons.mpr ⟨lw_p218, List.forall_mem_cons.mpr ⟨lw_p219, List.forall_mem_cons.mpr ⟨lw_p220, List.forall_mem_cons.mpr ⟨lw_p221, List.forall_mem_cons.mpr ⟨lw_p222, List.forall_mem_cons.mpr ⟨lw_p223, fun _ h => absurd h List.not_mem_nil⟩⟩⟩⟩⟩⟩⟩⟩⟩⟩⟩⟩⟩⟩⟩⟩
theorem lw_p224 : lw_okq (⟨"FilterForgeModel", "load", "(JI)J"⟩, 78) := ⟨⟨by decide +kernel, by decide +kernel⟩, List.mem_of_getElem? (i := 1528) (by decide +kernel), List.mem_of_getElem? (i := 2387) (by decide +kernel), List.mem_of_getElem? (i := 2388) (by decide +kernel)⟩
theorem lw_p225 : lw_okq (⟨"FilterForgeModel", "store", "(JIJ)V"⟩, 78) := ⟨⟨by decide +kernel, by decide +kernel⟩, List.mem_of_getElem? (i := 1528) (by decide +kernel), List.mem_of_getElem? (i := 2391) (by decide +kernel), List.mem_of_getElem? (i := 2392) (by decide +kernel)⟩
theorem lw_p226 : lw_okq (⟨"FilterForgeModel", "lookThrough", "()I"⟩, 78) := ⟨⟨by decide +kernel, by decide +kernel⟩, List.mem_of_getElem? (i := 1528) (by decide +kernel), List.mem_of_getElem? (i := 2414) (by decide +kernel), List.mem_of_getElem? (i := 2415) (by decide +kernel)⟩
theorem lw_p227 : lw_okq (⟨"FilterForgeModel", "room", "(I)V"⟩, 78) := ⟨⟨by decide +kernel, by decide +kernel⟩, List.mem_of_getElem? (i := 1528) (by decide +kernel), List.mem_of_getElem? (i := 2418) (by decide +kernel), List.mem_of_getElem? (i := 2419) (by decide +kernel)⟩
theorem lw_p228 : lw_okq (⟨"FilterForgeModel", "formOffence", "(I)I"⟩, 78) := ⟨⟨by decide +kernel, by decide +kernel⟩, List.mem_of_getElem? (i := 1528) (by decide +kernel), List.mem_of_getElem? (i := 2422) (by decide +kernel), List.mem_of_getElem? (i := 2423) (by decide +kernel)⟩
theorem lw_p229 : lw_okq (⟨"FilterForgeModel", "start", "()V"⟩, 78) := ⟨⟨by decide +kernel, by decide +kernel⟩, List.mem_of_getElem? (i := 1528) (by decide +kernel), List.mem_of_getElem? (i := 2426) (by decide +kernel), List.mem_of_getElem? (i := 2427) (by decide +kernel)⟩
theorem lw_p230 : lw_okq (⟨"FilterForgeModel", "put", "(II)V"⟩, 78) := ⟨⟨by decide +kernel, by decide +kernel⟩, List.mem_of_getElem? (i := 1528) (by decide +kernel), List.mem_of_getElem? (i := 2430) (by decide +kernel), List.mem_of_getElem? (i := 2431) (by decide +kernel)⟩
theorem lw_p231 : lw_okq (⟨"FilterForgeModel", "settle", "()V"⟩, 78) := ⟨⟨by decide +kernel, by decide +kernel⟩, List.mem_of_getElem? (i := 1528) (by decide +kernel), List.mem_of_getElem? (i := 2434) (by decide +kernel), List.mem_of_getElem? (i := 2435) (by decide +kernel)⟩
theorem lw_p232 : lw_okq (⟨"FilterForgeModel", "come", "(I[I[J[J[J[JJ)V"⟩, 78) := ⟨⟨by decide +kernel, by decide +kernel⟩, List.mem_of_getElem? (i := 1528) (by decide +kernel), List.mem_of_getElem? (i := 2438) (by decide +kernel), List.mem_of_getElem? (i := 2439) (by decide +kernel)⟩
theorem lw_p233 : lw_okq (⟨"FilterForgeModel", "offenceOf", "(J)I"⟩, 78) := ⟨⟨by decide +kernel, by decide +kernel⟩, List.mem_of_getElem? (i := 1528) (by decide +kernel), List.mem_of_getElem? (i := 2448) (by decide +kernel), List.mem_of_getElem? (i := 2449) (by decide +kernel)⟩
theorem lw_p234 : lw_okq (⟨"FilterForgeModel", "usesD", "(II)Z"⟩, 78) := ⟨⟨by decide +kernel, by decide +kernel⟩, List.mem_of_getElem? (i := 1528) (by decide +kernel), List.mem_of_getElem? (i := 2452) (by decide +kernel), List.mem_of_getElem? (i := 2453) (by decide +kernel)⟩
theorem lw_p235 : lw_okq (⟨"FilterForgeModel", "usesS", "(II)Z"⟩, 78) := ⟨⟨by decide +kernel, by decide +kernel⟩, List.mem_of_getElem? (i := 1528) (by decide +kernel), List.mem_of_getElem? (i := 2456) (by decide +kernel), List.mem_of_getElem? (i := 2457) (by decide +kernel)⟩
theorem lw_p236 : lw_okq (⟨"FilterForgeModel", "isMisplaced", "(IIII)Z"⟩, 78) := ⟨⟨by decide +kernel, by decide +kernel⟩, List.mem_of_getElem? (i := 1528) (by decide +kernel), List.mem_of_getElem? (i := 2460) (by decide +kernel), List.mem_of_getElem? (i := 2461) (by decide +kernel)⟩
theorem lw_p237 : lw_okq (⟨"FilterForgeModel", "isInStack", "(JIZ)Z"⟩, 78) := ⟨⟨by decide +kernel, by decide +kernel⟩, List.mem_of_getElem? (i := 1528) (by decide +kernel), List.mem_of_getElem? (i := 2464) (by decide +kernel), List.mem_of_getElem? (i := 2465) (by decide +kernel)⟩
theorem lw_p238 : lw_okq (⟨"FilterForgeModel", "hand", "(I)V"⟩, 78) := ⟨⟨by decide +kernel, by decide +kernel⟩, List.mem_of_getElem? (i := 1528) (by decide +kernel), List.mem_of_getElem? (i := 2468) (by decide +kernel), List.mem_of_getElem? (i := 2469) (by decide +kernel)⟩
theorem lw_p239 : lw_okq (⟨"FilterForgeModel", "yNumber", "(J)V"⟩, 78) := ⟨⟨by decide +kernel, by decide +kernel⟩, List.mem_of_getElem? (i := 1528) (by decide +kernel), List.mem_of_getElem? (i := 2472) (by decide +kernel), List.mem_of_getElem? (i := 2473) (by decide +kernel)⟩
def lw_privs_15 : List (MethodName × Nat) := [(⟨"FilterForgeModel", "load", "(JI)J"⟩, 78), (⟨"FilterForgeModel", "store", "(JIJ)V"⟩, 78), (⟨"FilterForgeModel", "lookThrough", "()I"⟩, 78), (⟨"FilterForgeModel", "room", "(I)V"⟩, 78), (⟨"FilterForgeModel", "formOffence", "(I)I"⟩, 78), (⟨"FilterForgeModel", "start", "()V"⟩, 78), (⟨"FilterForgeModel", "put", "(II)V"⟩, 78), (⟨"FilterForgeModel", "settle", "()V"⟩, 78), (⟨"FilterForgeModel", "come", "(I[I[J[J[J[JJ)V"⟩, 78), (⟨"FilterForgeModel", "offenceOf", "(J)I"⟩, 78), (⟨"FilterForgeModel", "usesD", "(II)Z"⟩, 78), (⟨"FilterForgeModel", "usesS", "(II)Z"⟩, 78), (⟨"FilterForgeModel", "isMisplaced", "(IIII)Z"⟩, 78), (⟨"FilterForgeModel", "isInStack", "(JIZ)Z"⟩, 78), (⟨"FilterForgeModel", "hand", "(I)V"⟩, 78), (⟨"FilterForgeModel", "yNumber", "(J)V"⟩, 78)]
theorem lw_r15 : ∀ q ∈ lw_privs_15, lw_okq q := List.forall_mem_cons.mpr ⟨lw_p224, List.forall_mem_cons.mpr ⟨lw_p225, List.forall_mem_cons.mpr ⟨lw_p226, List.forall_mem_cons.mpr ⟨lw_p227, List.forall_mem_cons.mpr ⟨lw_p228, List.forall_mem_cons.mpr ⟨lw_p229, List.forall_mem_cons.mpr ⟨lw_p230, List.forall_mem_cons.mpr ⟨lw_p231, List.forall_mem_cons.mpr ⟨lw_p232, List.forall_mem_cons.mpr ⟨lw_p233, List.forall_mem_cons.mpr ⟨lw_p234, List.forall_mem_cons.mpr ⟨lw_p235, List.forall_mem_cons.mpr ⟨lw_p236, List.forall_mem_cons.mpr ⟨lw_p237, List.forall_mem_cons.mpr ⟨lw_p238, List.forall_mem_cons.mpr ⟨lw_p239, fun _ h => absurd h List.not_mem_nil⟩⟩⟩⟩⟩⟩⟩⟩⟩⟩⟩⟩⟩⟩⟩⟩
theorem lw_p240 : lw_okq (⟨"FilterForgeModel", "work", "(I)V"⟩, 78) := ⟨⟨by decide +kernel, by decide +kernel⟩, List.mem_of_getElem? (i := 1528) (by decide +kernel), List.mem_of_getElem? (i := 2476) (by decide +kernel), List.mem_of_getElem? (i := 2477) (by decide +kernel)⟩
theorem lw_p241 : lw_okq (⟨"FilterForgeModel", "cutBoth", "()V"⟩, 78) := ⟨⟨by decide +kernel, by decide +kernel⟩, List.mem_of_getElem? (i := 1528) (by decide +kernel), List.mem_of_getElem? (i := 2480) (by decide +kernel), List.mem_of_getElem? (i := 2481) (by decide +kernel)⟩
theorem lw_p242 : lw_okq (⟨"FilterForgeModel", "cut", "()V"⟩, 78) := ⟨⟨by decide +kernel, by decide +kernel⟩, List.mem_of_getElem? (i := 1528) (by decide +kernel), List.mem_of_getElem? (i := 2484) (by decide +kernel), List.mem_of_getElem? (i := 2485) (by decide +kernel)⟩
theorem lw_p243 : lw_okq (⟨"FilterForgeModel", "bitsOf", "(IJJJJJIZ)V"⟩, 78) := ⟨⟨by decide +kernel, by decide +kernel⟩, List.mem_of_getElem? (i := 1528) (by decide +kernel), List.mem_of_getElem? (i := 2492) (by decide +kernel), List.mem_of_getElem? (i := 2493) (by decide +kernel)⟩
theorem lw_p244 : lw_okq (⟨"FilterForgeModel", "sumBits", "(JJJJZ)V"⟩, 78) := ⟨⟨by decide +kernel, by decide +kernel⟩, List.mem_of_getElem? (i := 1528) (by decide +kernel), List.mem_of_getElem? (i := 2496) (by decide +kernel), List.mem_of_getElem? (i := 2497) (by decide +kernel)⟩
theorem lw_p245 : lw_okq (⟨"FilterForgeModel", "rightBits", "(JJI)V"⟩, 78) := ⟨⟨by decide +kernel, by decide +kernel⟩, List.mem_of_getElem? (i := 1528) (by decide +kernel), List.mem_of_getElem? (i := 2500) (by decide +kernel), List.mem_of_getElem? (i := 2501) (by decide +kernel)⟩
theorem lw_p246 : lw_okq (⟨"FilterForgeModel", "rangeOf", "(IJJJJIZ)V"⟩, 78) := ⟨⟨by decide +kernel, by decide +kernel⟩, List.mem_of_getElem? (i := 1528) (by decide +kernel), List.mem_of_getElem? (i := 2506) (by decide +kernel), List.mem_of_getElem? (i := 2507) (by decide +kernel)⟩
theorem lw_p247 : lw_okq (⟨"FilterForgeModel", "rightRange", "(JJI)V"⟩, 78) := ⟨⟨by decide +kernel, by decide +kernel⟩, List.mem_of_getElem? (i := 1528) (by decide +kernel), List.mem_of_getElem? (i := 2520) (by decide +kernel), List.mem_of_getElem? (i := 2521) (by decide +kernel)⟩
theorem lw_p248 : lw_okq (⟨"FilterForgeModel", "goOn", "(I)V"⟩, 78) := ⟨⟨by decide +kernel, by decide +kernel⟩, List.mem_of_getElem? (i := 1528) (by decide +kernel), List.mem_of_getElem? (i := 2526) (by decide +kernel), List.mem_of_getElem? (i := 2527) (by decide +kernel)⟩
theorem lw_p249 : lw_okq (⟨"FilterForgeModel", "comeBy", "(JZI)V"⟩, 78) := ⟨⟨by decide +kernel, by decide +kernel⟩, List.mem_of_getElem? (i := 1528) (by decide +kernel), List.mem_of_getElem? (i := 2530) (by decide +kernel), List.mem_of_getElem? (i := 2531) (by decide +kernel)⟩
theorem lw_p250 : lw_okq (⟨"FilterForgeModel", "other", "(J)V"⟩, 78) := ⟨⟨by decide +kernel, by decide +kernel⟩, List.mem_of_getElem? (i := 1528) (by decide +kernel), List.mem_of_getElem? (i := 2534) (by decide +kernel), List.mem_of_getElem? (i := 2535) (by decide +kernel)⟩
theorem lw_p251 : lw_okq (⟨"FilterForgeModel", "narrows", "(IZJ)Z"⟩, 78) := ⟨⟨by decide +kernel, by decide +kernel⟩, List.mem_of_getElem? (i := 1528) (by decide +kernel), List.mem_of_getElem? (i := 2538) (by decide +kernel), List.mem_of_getElem? (i := 2539) (by decide +kernel)⟩
theorem lw_p252 : lw_okq (⟨"FilterForgeModel", "effect", "(J)V"⟩, 78) := ⟨⟨by decide +kernel, by decide +kernel⟩, List.mem_of_getElem? (i := 1528) (by decide +kernel), List.mem_of_getElem? (i := 2542) (by decide +kernel), List.mem_of_getElem? (i := 2543) (by decide +kernel)⟩
theorem lw_p253 : lw_okq (⟨"FilterForgeModel", "any", "()V"⟩, 78) := ⟨⟨by decide +kernel, by decide +kernel⟩, List.mem_of_getElem? (i := 1528) (by decide +kernel), List.mem_of_getElem? (i := 2546) (by decide +kernel), List.mem_of_getElem? (i := 2547) (by decide +kernel)⟩
theorem lw_p254 : lw_okq (⟨"FilterForgeModel", "loaded", "(I)V"⟩, 78) := ⟨⟨by decide +kernel, by decide +kernel⟩, List.mem_of_getElem? (i := 1528) (by decide +kernel), List.mem_of_getElem? (i := 2550) (by decide +kernel), List.mem_of_getElem? (i := 2551) (by decide +kernel)⟩
theorem lw_p255 : lw_okq (⟨"FilterForgeModel", "swap", "()V"⟩, 78) := ⟨⟨by decide +kernel, by decide +kernel⟩, List.mem_of_getElem? (i := 1528) (by decide +kernel), List.mem_of_getElem? (i := 2562) (by decide +kernel), List.mem_of_getElem? (i := 2563) (by decide +kernel)⟩
def lw_privs_16 : List (MethodName × Nat) := [(⟨"FilterForgeModel", "work", "(I)V"⟩, 78), (⟨"FilterForgeModel", "cutBoth", "()V"⟩, 78), (⟨"FilterForgeModel", "cut", "()V"⟩, 78), (⟨"FilterForgeModel", "bitsOf", "(IJJJJJIZ)V"⟩, 78), (⟨"FilterForgeModel", "sumBits", "(JJJJZ)V"⟩, 78), (⟨"FilterForgeModel", "rightBits", "(JJI)V"⟩, 78), (⟨"FilterForgeModel", "rangeOf", "(IJJJJIZ)V"⟩, 78), (⟨"FilterForgeModel", "rightRange", "(JJI)V"⟩, 78), (⟨"FilterForgeModel", "goOn", "(I)V"⟩, 78), (⟨"FilterForgeModel", "comeBy", "(JZI)V"⟩, 78), (⟨"FilterForgeModel", "other", "(J)V"⟩, 78), (⟨"FilterForgeModel", "narrows", "(IZJ)Z"⟩, 78), (⟨"FilterForgeModel", "effect", "(J)V"⟩, 78), (⟨"FilterForgeModel", "any", "()V"⟩, 78), (⟨"FilterForgeModel", "loaded", "(I)V"⟩, 78), (⟨"FilterForgeModel", "swap", "()V"⟩, 78)]
theorem lw_r16 : ∀ q ∈ lw_privs_16, lw_okq q := List.forall_mem_cons.mpr ⟨lw_p240, List.forall_mem_cons.mpr ⟨lw_p241, List.forall_mem_cons.mpr ⟨lw_p242, List.forall_mem_cons.mpr ⟨lw_p243, List.forall_mem_cons.mpr ⟨lw_p244, List.forall_mem_cons.mpr ⟨lw_p245, List.forall_mem_cons.mpr ⟨lw_p246, List.forall_mem_cons.mpr ⟨lw_p247, List.forall_mem_cons.mpr ⟨lw_p248, List.forall_mem_cons.mpr ⟨lw_p249, List.forall_mem_cons.mpr ⟨lw_p250, List.forall_mem_cons.mpr ⟨lw_p251, List.forall_mem_cons.mpr ⟨lw_p252, List.forall_mem_cons.mpr ⟨lw_p253, List.forall_mem_cons.mpr ⟨lw_p254, List.forall_mem_cons.mpr ⟨lw_p255, fun _ h => absurd h List.not_mem_nil⟩⟩⟩⟩⟩⟩⟩⟩⟩⟩⟩⟩⟩⟩⟩⟩
theorem lw_p256 : lw_okq (⟨"FilterForgeModel", "arithmeticWords", "(J)V"⟩, 78) := ⟨⟨by decide +kernel, by decide +kernel⟩, List.mem_of_getElem? (i := 1528) (by decide +kernel), List.mem_of_getElem? (i := 2566) (by decide +kernel), List.mem_of_getElem? (i := 2567) (by decide +kernel)⟩
theorem lw_p257 : lw_okq (⟨"FilterForgeModel", "number", "(II)V"⟩, 78) := ⟨⟨by decide +kernel, by decide +kernel⟩, List.mem_of_getElem? (i := 1528) (by decide +kernel), List.mem_of_getElem? (i := 2573) (by decide +kernel), List.mem_of_getElem? (i := 2574) (by decide +kernel)⟩
theorem lw_p258 : lw_okq (⟨"FilterForgeModel", "addNumber", "(III)V"⟩, 78) := ⟨⟨by decide +kernel, by decide +kernel⟩, List.mem_of_getElem? (i := 1528) (by decide +kernel), List.mem_of_getElem? (i := 2577) (by decide +kernel), List.mem_of_getElem? (i := 2578) (by decide +kernel)⟩
theorem lw_p259 : lw_okq (⟨"FilterForgeModel", "immediate", "(IIIII)V"⟩, 78) := ⟨⟨by decide +kernel, by decide +kernel⟩, List.mem_of_getElem? (i := 1528) (by decide +kernel), List.mem_of_getElem? (i := 2581) (by decide +kernel), List.mem_of_getElem? (i := 2582) (by decide +kernel)⟩
theorem lw_p260 : lw_okq (⟨"FilterForgeModel", "emitWord", "(J)V"⟩, 78) := ⟨⟨by decide +kernel, by decide +kernel⟩, List.mem_of_getElem? (i := 1528) (by decide +kernel), List.mem_of_getElem? (i := 2585) (by decide +kernel), List.mem_of_getElem? (i := 2586) (by decide +kernel)⟩
theorem lw_p261 : lw_okq (⟨"FilterForgeModel", "addNumberWord", "(III)V"⟩, 78) := ⟨⟨by decide +kernel, by decide +kernel⟩, List.mem_of_getElem? (i := 1528) (by decide +kernel), List.mem_of_getElem? (i := 2591) (by decide +kernel), List.mem_of_getElem? (i := 2592) (by decide +kernel)⟩
theorem lw_p262 : lw_okq (⟨"FilterForgeModel", "divideWords", "(ZII)V"⟩, 78) := ⟨⟨by decide +kernel, by decide +kernel⟩, List.mem_of_getElem? (i := 1528) (by decide +kernel), List.mem_of_getElem? (i := 2595) (by decide +kernel), List.mem_of_getElem? (i := 2596) (by decide +kernel)⟩
theorem lw_p263 : lw_okq (⟨"FilterForgeModel", "branch", "(IIII)V"⟩, 78) := ⟨⟨by decide +kernel, by decide +kernel⟩, List.mem_of_getElem? (i := 1528) (by decide +kernel), List.mem_of_getElem? (i := 2599) (by decide +kernel), List.mem_of_getElem? (i := 2600) (by decide +kernel)⟩
theorem lw_p264 : lw_okq (⟨"FilterForgeModel", "three", "(IIIIII)V"⟩, 78) := ⟨⟨by decide +kernel, by decide +kernel⟩, List.mem_of_getElem? (i := 1528) (by decide +kernel), List.mem_of_getElem? (i := 2604) (by decide +kernel), List.mem_of_getElem? (i := 2605) (by decide +kernel)⟩
theorem lw_p265 : lw_okq (⟨"FilterForgeModel", "sumWord", "(IZII)V"⟩, 78) := ⟨⟨by decide +kernel, by decide +kernel⟩, List.mem_of_getElem? (i := 1528) (by decide +kernel), List.mem_of_getElem? (i := 2611) (by decide +kernel), List.mem_of_getElem? (i := 2612) (by decide +kernel)⟩
theorem lw_p266 : lw_okq (⟨"FilterForgeModel", "zeroHigh", "(I)V"⟩, 78) := ⟨⟨by decide +kernel, by decide +kernel⟩, List.mem_of_getElem? (i := 1528) (by decide +kernel), List.mem_of_getElem? (i := 2615) (by decide +kernel), List.mem_of_getElem? (i := 2616) (by decide +kernel)⟩
theorem lw_p267 : lw_okq (⟨"FilterForgeModel", "shiftLeft", "(III)V"⟩, 78) := ⟨⟨by decide +kernel, by decide +kernel⟩, List.mem_of_getElem? (i := 1528) (by decide +kernel), List.mem_of_getElem? (i := 2619) (by decide +kernel), List.mem_of_getElem? (i := 2620) (by decide +kernel)⟩
theorem lw_p268 : lw_okq (⟨"FilterForgeModel", "wayWords", "(J)V"⟩, 78) := ⟨⟨by decide +kernel, by decide +kernel⟩, List.mem_of_getElem? (i := 1528) (by decide +kernel), List.mem_of_getElem? (i := 2623) (by decide +kernel), List.mem_of_getElem? (i := 2624) (by decide +kernel)⟩
theorem lw_p269 : lw_okq (⟨"FilterForgeModel", "notWord", "(III)V"⟩, 78) := ⟨⟨by decide +kernel, by decide +kernel⟩, List.mem_of_getElem? (i := 1528) (by decide +kernel), List.mem_of_getElem? (i := 2628) (by decide +kernel), List.mem_of_getElem? (i := 2629) (by decide +kernel)⟩
theorem lw_p270 : lw_okq (⟨"FilterForgeModel", "memoryWords", "(J)V"⟩, 78) := ⟨⟨by decide +kernel, by decide +kernel⟩, List.mem_of_getElem? (i := 1528) (by decide +kernel), List.mem_of_getElem? (i := 2633) (by decide +kernel), List.mem_of_getElem? (i := 2634) (by decide +kernel)⟩
theorem lw_p271 : lw_okq (⟨"FilterForgeModel", "add", "(III)V"⟩, 78) := ⟨⟨by decide +kernel, by decide +kernel⟩, List.mem_of_getElem? (i := 1528) (by decide +kernel), List.mem_of_getElem? (i := 2637) (by decide +kernel), List.mem_of_getElem? (i := 2638) (by decide +kernel)⟩
def lw_privs_17 : List (MethodName × Nat) := [(⟨"FilterForgeModel", "arithmeticWords", "(J)V"⟩, 78), (⟨"FilterForgeModel", "number", "(II)V"⟩, 78), (⟨"FilterForgeModel", "addNumber", "(III)V"⟩, 78), (⟨"FilterForgeModel", "immediate", "(IIIII)V"⟩, 78), (⟨"FilterForgeModel", "emitWord", "(J)V"⟩, 78), (⟨"FilterForgeModel", "addNumberWord", "(III)V"⟩, 78), (⟨"FilterForgeModel", "divideWords", "(ZII)V"⟩, 78), (⟨"FilterForgeModel", "branch", "(IIII)V"⟩, 78), (⟨"FilterForgeModel", "three", "(IIIIII)V"⟩, 78), (⟨"FilterForgeModel", "sumWord", "(IZII)V"⟩, 78), (⟨"FilterForgeModel", "zeroHigh", "(I)V"⟩, 78), (⟨"FilterForgeModel", "shiftLeft", "(III)V"⟩, 78), (⟨"FilterForgeModel", "wayWords", "(J)V"⟩, 78), (⟨"FilterForgeModel", "notWord", "(III)V"⟩, 78), (⟨"FilterForgeModel", "memoryWords", "(J)V"⟩, 78), (⟨"FilterForgeModel", "add", "(III)V"⟩, 78)]
theorem lw_r17 : ∀ q ∈ lw_privs_17, lw_okq q := List.forall_mem_cons.mpr ⟨lw_p256, List.forall_mem_cons.mpr ⟨lw_p257, List.forall_mem_cons.mpr ⟨lw_p258, List.forall_mem_cons.mpr ⟨lw_p259, List.forall_mem_cons.mpr ⟨lw_p260, List.forall_mem_cons.mpr ⟨lw_p261, List.forall_mem_cons.mpr ⟨lw_p262, List.forall_mem_cons.mpr ⟨lw_p263, List.forall_mem_cons.mpr ⟨lw_p264, List.forall_mem_cons.mpr ⟨lw_p265, List.forall_mem_cons.mpr ⟨lw_p266, List.forall_mem_cons.mpr ⟨lw_p267, List.forall_mem_cons.mpr ⟨lw_p268, List.forall_mem_cons.mpr ⟨lw_p269, List.forall_mem_cons.mpr ⟨lw_p270, List.forall_mem_cons.mpr ⟨lw_p271, fun _ h => absurd h List.not_mem_nil⟩⟩⟩⟩⟩⟩⟩⟩⟩⟩⟩⟩⟩⟩⟩⟩
theorem lw_p272 : lw_okq (⟨"FilterForgeModel", "storeWord", "(IIII)V"⟩, 78) := ⟨⟨by decide +kernel, by decide +kernel⟩, List.mem_of_getElem? (i := 1528) (by decide +kernel), List.mem_of_getElem? (i := 2641) (by decide +kernel), List.mem_of_getElem? (i := 2642) (by decide +kernel)⟩
theorem lw_p273 : lw_okq (⟨"FilterForgeModel", "readWords", "(J)V"⟩, 78) := ⟨⟨by decide +kernel, by decide +kernel⟩, List.mem_of_getElem? (i := 1528) (by decide +kernel), List.mem_of_getElem? (i := 2646) (by decide +kernel), List.mem_of_getElem? (i := 2647) (by decide +kernel)⟩
theorem lw_p274 : lw_okq (⟨"FilterForgeModel", "takeObject", "(I)V"⟩, 78) := ⟨⟨by decide +kernel, by decide +kernel⟩, List.mem_of_getElem? (i := 1528) (by decide +kernel), List.mem_of_getElem? (i := 2650) (by decide +kernel), List.mem_of_getElem? (i := 2651) (by decide +kernel)⟩
theorem lw_p275 : lw_okq (⟨"FilterForgeModel", "one", "(IIJ)Z"⟩, 78) := ⟨⟨by decide +kernel, by decide +kernel⟩, List.mem_of_getElem? (i := 1528) (by decide +kernel), List.mem_of_getElem? (i := 2668) (by decide +kernel), List.mem_of_getElem? (i := 2669) (by decide +kernel)⟩
theorem lw_p276 : lw_okq (⟨"FilterForgeModel", "set", "(IJ)V"⟩, 78) := ⟨⟨by decide +kernel, by decide +kernel⟩, List.mem_of_getElem? (i := 1528) (by decide +kernel), List.mem_of_getElem? (i := 2672) (by decide +kernel), List.mem_of_getElem? (i := 2673) (by decide +kernel)⟩
theorem lw_p277 : lw_okq (⟨"FilterForgeModel", "jumpWord", "(IJ)V"⟩, 78) := ⟨⟨by decide +kernel, by decide +kernel⟩, List.mem_of_getElem? (i := 1528) (by decide +kernel), List.mem_of_getElem? (i := 2676) (by decide +kernel), List.mem_of_getElem? (i := 2677) (by decide +kernel)⟩
theorem lw_p278 : lw_okq (⟨"FilterForgeModel", "jumpRegister", "(IJ)V"⟩, 78) := ⟨⟨by decide +kernel, by decide +kernel⟩, List.mem_of_getElem? (i := 1528) (by decide +kernel), List.mem_of_getElem? (i := 2680) (by decide +kernel), List.mem_of_getElem? (i := 2681) (by decide +kernel)⟩
theorem lw_p279 : lw_okq (⟨"FilterForgeModel", "branchWord", "(IJ)V"⟩, 78) := ⟨⟨by decide +kernel, by decide +kernel⟩, List.mem_of_getElem? (i := 1528) (by decide +kernel), List.mem_of_getElem? (i := 2684) (by decide +kernel), List.mem_of_getElem? (i := 2685) (by decide +kernel)⟩
theorem lw_p280 : lw_okq (⟨"FilterForgeModel", "loadWord", "(II)V"⟩, 78) := ⟨⟨by decide +kernel, by decide +kernel⟩, List.mem_of_getElem? (i := 1528) (by decide +kernel), List.mem_of_getElem? (i := 2688) (by decide +kernel), List.mem_of_getElem? (i := 2689) (by decide +kernel)⟩
theorem lw_p281 : lw_okq (⟨"FilterForgeModel", "isThere", "(IJIZ)Z"⟩, 78) := ⟨⟨by decide +kernel, by decide +kernel⟩, List.mem_of_getElem? (i := 1528) (by decide +kernel), List.mem_of_getElem? (i := 2692) (by decide +kernel), List.mem_of_getElem? (i := 2693) (by decide +kernel)⟩
theorem lw_p282 : lw_okq (⟨"FilterForgeModel", "loaded", "(IJI)J"⟩, 78) := ⟨⟨by decide +kernel, by decide +kernel⟩, List.mem_of_getElem? (i := 1528) (by decide +kernel), List.mem_of_getElem? (i := 2696) (by decide +kernel), List.mem_of_getElem? (i := 2697) (by decide +kernel)⟩
theorem lw_p283 : lw_okq (⟨"FilterForgeModel", "storeWord", "(II)V"⟩, 78) := ⟨⟨by decide +kernel, by decide +kernel⟩, List.mem_of_getElem? (i := 1528) (by decide +kernel), List.mem_of_getElem? (i := 2703) (by decide +kernel), List.mem_of_getElem? (i := 2704) (by decide +kernel)⟩
theorem lw_p284 : lw_okq (⟨"FilterForgeModel", "numberWord", "(I)V"⟩, 78) := ⟨⟨by decide +kernel, by decide +kernel⟩, List.mem_of_getElem? (i := 1528) (by decide +kernel), List.mem_of_getElem? (i := 2707) (by decide +kernel), List.mem_of_getElem? (i := 2708) (by decide +kernel)⟩
theorem lw_p285 : lw_okq (⟨"FilterForgeModel", "numberWordShort", "(I)V"⟩, 78) := ⟨⟨by decide +kernel, by decide +kernel⟩, List.mem_of_getElem? (i := 1528) (by decide +kernel), List.mem_of_getElem? (i := 2711) (by decide +kernel), List.mem_of_getElem? (i := 2712) (by decide +kernel)⟩
theorem lw_p286 : lw_okq (⟨"FilterForgeModel", "registerWord", "(I)V"⟩, 78) := ⟨⟨by decide +kernel, by decide +kernel⟩, List.mem_of_getElem? (i := 1528) (by decide +kernel), List.mem_of_getElem? (i := 2715) (by decide +kernel), List.mem_of_getElem? (i := 2716) (by decide +kernel)⟩
theorem lw_p287 : lw_okq (⟨"FilterForgeModel", "registerWordShort", "(I)V"⟩, 78) := ⟨⟨by decide +kernel, by decide +kernel⟩, List.mem_of_getElem? (i := 1528) (by decide +kernel), List.mem_of_getElem? (i := 2719) (by decide +kernel), List.mem_of_getElem? (i := 2720) (by decide +kernel)⟩
def lw_privs_18 : List (MethodName × Nat) := [(⟨"FilterForgeModel", "storeWord", "(IIII)V"⟩, 78), (⟨"FilterForgeModel", "readWords", "(J)V"⟩, 78), (⟨"FilterForgeModel", "takeObject", "(I)V"⟩, 78), (⟨"FilterForgeModel", "one", "(IIJ)Z"⟩, 78), (⟨"FilterForgeModel", "set", "(IJ)V"⟩, 78), (⟨"FilterForgeModel", "jumpWord", "(IJ)V"⟩, 78), (⟨"FilterForgeModel", "jumpRegister", "(IJ)V"⟩, 78), (⟨"FilterForgeModel", "branchWord", "(IJ)V"⟩, 78), (⟨"FilterForgeModel", "loadWord", "(II)V"⟩, 78), (⟨"FilterForgeModel", "isThere", "(IJIZ)Z"⟩, 78), (⟨"FilterForgeModel", "loaded", "(IJI)J"⟩, 78), (⟨"FilterForgeModel", "storeWord", "(II)V"⟩, 78), (⟨"FilterForgeModel", "numberWord", "(I)V"⟩, 78), (⟨"FilterForgeModel", "numberWordShort", "(I)V"⟩, 78), (⟨"FilterForgeModel", "registerWord", "(I)V"⟩, 78), (⟨"FilterForgeModel", "registerWordShort", "(I)V"⟩, 78)]
theorem lw_r18 : ∀ q ∈ lw_privs_18, lw_okq q := List.forall_mem_cons.mpr ⟨lw_p272, List.forall_mem_cons.mpr ⟨lw_p273, List.forall_mem_cons.mpr ⟨lw_p274, List.forall_mem_cons.mpr ⟨lw_p275, List.forall_mem_cons.mpr ⟨lw_p276, List.forall_mem_cons.mpr ⟨lw_p277, List.forall_mem_cons.mpr ⟨lw_p278, List.forall_mem_cons.mpr ⟨lw_p279, List.forall_mem_cons.mpr ⟨lw_p280, List.forall_mem_cons.mpr ⟨lw_p281, List.forall_mem_cons.mpr ⟨lw_p282, List.forall_mem_cons.mpr ⟨lw_p283, List.forall_mem_cons.mpr ⟨lw_p284, List.forall_mem_cons.mpr ⟨lw_p285, List.forall_mem_cons.mpr ⟨lw_p286, List.forall_mem_cons.mpr ⟨lw_p287, fun _ h => absurd h List.not_mem_nil⟩⟩⟩⟩⟩⟩⟩⟩⟩⟩⟩⟩⟩⟩⟩⟩
def lw_privs : List (MethodName × Nat) := lw_privs_1 ++ (lw_privs_2 ++ (lw_privs_3 ++ (lw_privs_4 ++ (lw_privs_5 ++ (lw_privs_6 ++ (lw_privs_7 ++ (lw_privs_8 ++ (lw_privs_9 ++ (lw_privs_10 ++ (lw_privs_11 ++ (lw_privs_12 ++ (lw_privs_13 ++ (lw_privs_14 ++ (lw_privs_15 ++ (lw_privs_16 ++ (lw_privs_17 ++ (lw_privs_18)))))))))))))))))
def lw_tbl : List Cond := k2_sels lw_privs ++ tables_1
theorem lw_privs_ok : ∀ q ∈ lw_privs, lw_okq q := by
  show ∀ q ∈ lw_privs_1 ++ (lw_privs_2 ++ (lw_privs_3 ++ (lw_privs_4 ++ (lw_privs_5 ++ (lw_privs_6 ++ (lw_privs_7 ++ (lw_privs_8 ++ (lw_privs_9 ++ (lw_privs_10 ++ (lw_privs_11 ++ (lw_privs_12 ++ (lw_privs_13 ++ (lw_privs_14 ++ (lw_privs_15 ++ (lw_privs_16 ++ (lw_privs_17 ++ (lw_privs_18))))))))))))))))), lw_okq q
  exact List.forall_mem_append.mpr ⟨lw_r1, List.forall_mem_append.mpr ⟨lw_r2, List.forall_mem_append.mpr ⟨lw_r3, List.forall_mem_append.mpr ⟨lw_r4, List.forall_mem_append.mpr ⟨lw_r5, List.forall_mem_append.mpr ⟨lw_r6, List.forall_mem_append.mpr ⟨lw_r7, List.forall_mem_append.mpr ⟨lw_r8, List.forall_mem_append.mpr ⟨lw_r9, List.forall_mem_append.mpr ⟨lw_r10, List.forall_mem_append.mpr ⟨lw_r11, List.forall_mem_append.mpr ⟨lw_r12, List.forall_mem_append.mpr ⟨lw_r13, List.forall_mem_append.mpr ⟨lw_r14, List.forall_mem_append.mpr ⟨lw_r15, List.forall_mem_append.mpr ⟨lw_r16, List.forall_mem_append.mpr ⟨lw_r17, lw_r18⟩⟩⟩⟩⟩⟩⟩⟩⟩⟩⟩⟩⟩⟩⟩⟩⟩
end
section
def RX0 : String := "FilterForge$Coder"
def TX0 : u_T := fun k => match k with
  | 0 => ("FilterForge$Coder", "starts", "[I", true)
  | 1 => ("FilterForge$Coder", "goals", "[I", true)
  | 2 => ("FilterForge$Coder", "filter", "LFilterForge$Filter;", false)
  | 3 => ("FilterForge$Coder", "made", "LFilterForge$Program;", false)
  | _ => ("FilterForge$Coder", "length", "I", false)
def tyX0 : Nat → FieldType := fun k => match k with
  | 0 => .array .int
  | 1 => .array .int
  | 2 => .object "FilterForge$Filter"
  | 3 => .object "FilterForge$Program"
  | _ => .int
abbrev wsX00 : List Cond := u_ws RX0 TX0 5
theorem nmX0 : ∀ a, a < 5 → ∀ b, b < 5 → a ≠ b → (TX0 a).2.1 ≠ (TX0 b).2.1 := by decide +kernel
theorem tyX0_ok : ∀ k, k < 5 → parseFieldDescriptor (TX0 k).2.2.1 = some (tyX0 k) := by decide +kernel
def RX1 : String := "FilterForge$Fact"
def TX1 : u_T := fun k => match k with
  | 0 => ("FilterForge$Fact", "kind", "I", false)
  | 1 => ("FilterForge$Fact", "low", "J", false)
  | 2 => ("FilterForge$Fact", "high", "J", false)
  | 3 => ("FilterForge$Fact", "sure", "J", false)
  | _ => ("FilterForge$Fact", "ones", "J", false)
def tyX1 : Nat → FieldType := fun k => match k with
  | 0 => .int
  | 1 => .long
  | 2 => .long
  | 3 => .long
  | _ => .long
abbrev wsX10 : List Cond := u_ws RX1 TX1 5
theorem nmX1 : ∀ a, a < 5 → ∀ b, b < 5 → a ≠ b → (TX1 a).2.1 ≠ (TX1 b).2.1 := by decide +kernel
theorem tyX1_ok : ∀ k, k < 5 → parseFieldDescriptor (TX1 k).2.2.1 = some (tyX1 k) := by decide +kernel
def RX2 : String := "FilterForge$Filter"
def TX2 : u_T := fun k => match k with
  | 0 => ("FilterForge$Filter", "kinds", "[I", true)
  | 1 => ("FilterForge$Filter", "hows", "[I", true)
  | 2 => ("FilterForge$Filter", "numbers", "[I", true)
  | 3 => ("FilterForge$Filter", "itemCount", "I", false)
  | 4 => ("FilterForge$Filter", "from", "[I", true)
  | 5 => ("FilterForge$Filter", "middle", "[I", true)
  | 6 => ("FilterForge$Filter", "until", "[I", true)
  | 7 => ("FilterForge$Filter", "ops", "[I", true)
  | 8 => ("FilterForge$Filter", "yes", "[I", true)
  | 9 => ("FilterForge$Filter", "no", "[I", true)
  | 10 => ("FilterForge$Filter", "kept", "[Z", true)
  | 11 => ("FilterForge$Filter", "blockCount", "I", false)
  | 12 => ("FilterForge$Filter", "leftOut", "I", false)
  | 13 => ("FilterForge$Filter", "labels", "[I", true)
  | 14 => ("FilterForge$Filter", "labelCount", "I", false)
  | 15 => ("FilterForge$Filter", "asked", "[I", true)
  | 16 => ("FilterForge$Filter", "askedCount", "I", false)
  | _ => ("FilterForge$Filter", "pushed", "[J", true)
def tyX2 : Nat → FieldType := fun k => match k with
  | 0 => .array .int
  | 1 => .array .int
  | 2 => .array .int
  | 3 => .int
  | 4 => .array .int
  | 5 => .array .int
  | 6 => .array .int
  | 7 => .array .int
  | 8 => .array .int
  | 9 => .array .int
  | 10 => .array .boolean
  | 11 => .int
  | 12 => .int
  | 13 => .array .int
  | 14 => .int
  | 15 => .array .int
  | 16 => .int
  | _ => .array .long
abbrev wsX20 : List Cond := u_ws RX2 TX2 18
theorem nmX2 : ∀ a, a < 18 → ∀ b, b < 18 → a ≠ b → (TX2 a).2.1 ≠ (TX2 b).2.1 := by decide +kernel
theorem tyX2_ok : ∀ k, k < 18 → parseFieldDescriptor (TX2 k).2.2.1 = some (tyX2 k) := by decide +kernel
def RX3 : String := "FilterForge$Inspector"
def TX3 : u_T := fun k => match k with
  | 0 => ("FilterForge$Inspector", "kinds", "[B", false)
  | 1 => ("FilterForge$Inspector", "lows", "[J", false)
  | 2 => ("FilterForge$Inspector", "highs", "[J", false)
  | 3 => ("FilterForge$Inspector", "sures", "[J", false)
  | 4 => ("FilterForge$Inspector", "oneBits", "[J", false)
  | 5 => ("FilterForge$Inspector", "sets", "[J", false)
  | 6 => ("FilterForge$Inspector", "reached", "[Z", false)
  | 7 => ("FilterForge$Inspector", "now", "[LFilterForge$Fact;", true)
  | 8 => ("FilterForge$Inspector", "side", "LFilterForge$Fact;", true)
  | 9 => ("FilterForge$Inspector", "place", "LFilterForge$Fact;", true)
  | 10 => ("FilterForge$Inspector", "former", "LFilterForge$Fact;", true)
  | 11 => ("FilterForge$Inspector", "nowSet", "J", false)
  | 12 => ("FilterForge$Inspector", "program", "LFilterForge$Program;", false)
  | _ => ("FilterForge$Inspector", "lastTold", "I", false)
def tyX3 : Nat → FieldType := fun k => match k with
  | 0 => .array .byte
  | 1 => .array .long
  | 2 => .array .long
  | 3 => .array .long
  | 4 => .array .long
  | 5 => .array .long
  | 6 => .array .boolean
  | 7 => .array (.object "FilterForge$Fact")
  | 8 => .object "FilterForge$Fact"
  | 9 => .object "FilterForge$Fact"
  | 10 => .object "FilterForge$Fact"
  | 11 => .long
  | 12 => .object "FilterForge$Program"
  | _ => .int
abbrev wsX30 : List Cond := u_ws RX3 TX3 14
theorem nmX3 : ∀ a, a < 14 → ∀ b, b < 14 → a ≠ b → (TX3 a).2.1 ≠ (TX3 b).2.1 := by decide +kernel
theorem tyX3_ok : ∀ k, k < 14 → parseFieldDescriptor (TX3 k).2.2.1 = some (tyX3 k) := by decide +kernel
def RX4 : String := "FilterForge$Machine"
def TX4 : u_T := fun k => match k with
  | 0 => ("FilterForge$Machine", "registers", "[J", true)
  | 1 => ("FilterForge$Machine", "stackRow", "[B", true)
  | 2 => ("FilterForge$Machine", "packets", "LFilterForge$Packets;", true)
  | 3 => ("FilterForge$Machine", "packet", "I", false)
  | 4 => ("FilterForge$Machine", "shown", "I", false)
  | 5 => ("FilterForge$Machine", "trap", "I", false)
  | 6 => ("FilterForge$Machine", "steps", "I", false)
  | 7 => ("FilterForge$Machine", "place", "I", false)
  | 8 => ("FilterForge$Machine", "next", "J", false)
  | _ => ("FilterForge$Machine", "over", "Z", false)
def tyX4 : Nat → FieldType := fun k => match k with
  | 0 => .array .long
  | 1 => .array .byte
  | 2 => .object "FilterForge$Packets"
  | 3 => .int
  | 4 => .int
  | 5 => .int
  | 6 => .int
  | 7 => .int
  | 8 => .long
  | _ => .boolean
abbrev wsX40 : List Cond := u_ws RX4 TX4 10
theorem nmX4 : ∀ a, a < 10 → ∀ b, b < 10 → a ≠ b → (TX4 a).2.1 ≠ (TX4 b).2.1 := by decide +kernel
theorem tyX4_ok : ∀ k, k < 10 → parseFieldDescriptor (TX4 k).2.2.1 = some (tyX4 k) := by decide +kernel
def RX5 : String := "FilterForge$ObjectCode"
def TX5 : u_T := fun k => match k with
  | 0 => ("FilterForge$ObjectCode", "row", "[I", true)
  | _ => ("FilterForge$ObjectCode", "length", "I", false)
def tyX5 : Nat → FieldType := fun k => match k with
  | 0 => .array .int
  | _ => .int
abbrev wsX50 : List Cond := u_ws RX5 TX5 2
theorem nmX5 : ∀ a, a < 2 → ∀ b, b < 2 → a ≠ b → (TX5 a).2.1 ≠ (TX5 b).2.1 := by decide +kernel
theorem tyX5_ok : ∀ k, k < 2 → parseFieldDescriptor (TX5 k).2.2.1 = some (tyX5 k) := by decide +kernel
def RX6 : String := "FilterForge$Packets"
def TX6 : u_T := fun k => match k with
  | 0 => ("FilterForge$Packets", "cells", "[B", true)
  | 1 => ("FilterForge$Packets", "lengths", "[I", true)
  | _ => ("FilterForge$Packets", "held", "I", false)
def tyX6 : Nat → FieldType := fun k => match k with
  | 0 => .array .byte
  | 1 => .array .int
  | _ => .int
abbrev wsX60 : List Cond := u_ws RX6 TX6 3
theorem nmX6 : ∀ a, a < 3 → ∀ b, b < 3 → a ≠ b → (TX6 a).2.1 ≠ (TX6 b).2.1 := by decide +kernel
theorem tyX6_ok : ∀ k, k < 3 → parseFieldDescriptor (TX6 k).2.2.1 = some (tyX6 k) := by decide +kernel
def RX7 : String := "FilterForge$Program"
def TX7 : u_T := fun k => match k with
  | 0 => ("FilterForge$Program", "row", "[J", true)
  | _ => ("FilterForge$Program", "length", "I", false)
def tyX7 : Nat → FieldType := fun k => match k with
  | 0 => .array .long
  | _ => .int
abbrev wsX70 : List Cond := u_ws RX7 TX7 2
theorem nmX7 : ∀ a, a < 2 → ∀ b, b < 2 → a ≠ b → (TX7 a).2.1 ≠ (TX7 b).2.1 := by decide +kernel
theorem tyX7_ok : ∀ k, k < 2 → parseFieldDescriptor (TX7 k).2.2.1 = some (tyX7 k) := by decide +kernel
def RX8 : String := "FilterForge$Reader"
def TX8 : u_T := fun k => match k with
  | 0 => ("FilterForge$Reader", "text", "LFilterForge$Tape;", true)
  | 1 => ("FilterForge$Reader", "made", "LFilterForge$Filter;", false)
  | 2 => ("FilterForge$Reader", "kind", "I", false)
  | 3 => ("FilterForge$Reader", "first", "I", false)
  | 4 => ("FilterForge$Reader", "behind", "I", false)
  | _ => ("FilterForge$Reader", "wrong", "I", false)
def tyX8 : Nat → FieldType := fun k => match k with
  | 0 => .object "FilterForge$Tape"
  | 1 => .object "FilterForge$Filter"
  | 2 => .int
  | 3 => .int
  | 4 => .int
  | _ => .int
abbrev wsX80 : List Cond := u_ws RX8 TX8 6
theorem nmX8 : ∀ a, a < 6 → ∀ b, b < 6 → a ≠ b → (TX8 a).2.1 ≠ (TX8 b).2.1 := by decide +kernel
theorem tyX8_ok : ∀ k, k < 6 → parseFieldDescriptor (TX8 k).2.2.1 = some (tyX8 k) := by decide +kernel
def RX9 : String := "FilterForge$Tape"
def TX9 : u_T := fun k => match k with
  | 0 => ("FilterForge$Tape", "row", "[B", true)
  | _ => ("FilterForge$Tape", "length", "I", false)
def tyX9 : Nat → FieldType := fun k => match k with
  | 0 => .array .byte
  | _ => .int
abbrev wsX90 : List Cond := u_ws RX9 TX9 2
theorem nmX9 : ∀ a, a < 2 → ∀ b, b < 2 → a ≠ b → (TX9 a).2.1 ≠ (TX9 b).2.1 := by decide +kernel
theorem tyX9_ok : ∀ k, k < 2 → parseFieldDescriptor (TX9 k).2.2.1 = some (tyX9 k) := by decide +kernel
def RX10 : String := "FilterForge$Translator"
def TX10 : u_T := fun k => match k with
  | 0 => ("FilterForge$Translator", "starts", "[I", true)
  | 1 => ("FilterForge$Translator", "made", "LFilterForge$ObjectCode;", true)
  | 2 => ("FilterForge$Translator", "source", "LFilterForge$Program;", false)
  | 3 => ("FilterForge$Translator", "writes", "Z", false)
  | _ => ("FilterForge$Translator", "length", "I", false)
def tyX10 : Nat → FieldType := fun k => match k with
  | 0 => .array .int
  | 1 => .object "FilterForge$ObjectCode"
  | 2 => .object "FilterForge$Program"
  | 3 => .boolean
  | _ => .int
abbrev wsX100 : List Cond := u_ws RX10 TX10 5
theorem nmX10 : ∀ a, a < 5 → ∀ b, b < 5 → a ≠ b → (TX10 a).2.1 ≠ (TX10 b).2.1 := by decide +kernel
theorem tyX10_ok : ∀ k, k < 5 → parseFieldDescriptor (TX10 k).2.2.1 = some (tyX10 k) := by decide +kernel
def RX11 : String := "FilterForge"
def TX11 : u_T := fun k => match k with
  | 0 => ("FilterForge", "tape", "LFilterForge$Tape;", true)
  | 1 => ("FilterForge", "packets", "LFilterForge$Packets;", true)
  | 2 => ("FilterForge", "machine", "LFilterForge$Machine;", true)
  | 3 => ("FilterForge", "object", "LFilterForge$ObjectCode;", true)
  | 4 => ("FilterForge", "filter", "LFilterForge$Filter;", false)
  | 5 => ("FilterForge", "spareFilter", "LFilterForge$Filter;", false)
  | 6 => ("FilterForge", "program", "LFilterForge$Program;", false)
  | 7 => ("FilterForge", "spareProgram", "LFilterForge$Program;", false)
  | 8 => ("FilterForge", "filterRead", "Z", false)
  | 9 => ("FilterForge", "reader", "LFilterForge$Reader;", true)
  | 10 => ("FilterForge", "coder", "LFilterForge$Coder;", true)
  | 11 => ("FilterForge", "translator", "LFilterForge$Translator;", true)
  | 12 => ("FilterForge", "inspector", "LFilterForge$Inspector;", true)
  | _ => ("FilterForge", "gatekeeper", "LFilterForge$Inspector;", true)
def tyX11 : Nat → FieldType := fun k => match k with
  | 0 => .object "FilterForge$Tape"
  | 1 => .object "FilterForge$Packets"
  | 2 => .object "FilterForge$Machine"
  | 3 => .object "FilterForge$ObjectCode"
  | 4 => .object "FilterForge$Filter"
  | 5 => .object "FilterForge$Filter"
  | 6 => .object "FilterForge$Program"
  | 7 => .object "FilterForge$Program"
  | 8 => .boolean
  | 9 => .object "FilterForge$Reader"
  | 10 => .object "FilterForge$Coder"
  | 11 => .object "FilterForge$Translator"
  | 12 => .object "FilterForge$Inspector"
  | _ => .object "FilterForge$Inspector"
abbrev wsX110 : List Cond := u_ws RX11 TX11 14
theorem nmX11 : ∀ a, a < 14 → ∀ b, b < 14 → a ≠ b → (TX11 a).2.1 ≠ (TX11 b).2.1 := by decide +kernel
theorem tyX11_ok : ∀ k, k < 14 → parseFieldDescriptor (TX11 k).2.2.1 = some (tyX11 k) := by decide +kernel
def RX12 : String := "FilterForgeModel$Filter"
def TX12 : u_T := fun k => match k with
  | 0 => ("FilterForgeModel$Filter", "kind", "I", true)
  | 1 => ("FilterForgeModel$Filter", "a", "LFilterForgeModel$Filter;", true)
  | 2 => ("FilterForgeModel$Filter", "b", "LFilterForgeModel$Filter;", true)
  | 3 => ("FilterForgeModel$Filter", "left", "LFilterForgeModel$Sum;", true)
  | 4 => ("FilterForgeModel$Filter", "right", "LFilterForgeModel$Sum;", true)
  | 5 => ("FilterForgeModel$Filter", "sign", "I", true)
  | _ => ("FilterForgeModel$Filter", "first", "I", false)
def tyX12 : Nat → FieldType := fun k => match k with
  | 0 => .int
  | 1 => .object "FilterForgeModel$Filter"
  | 2 => .object "FilterForgeModel$Filter"
  | 3 => .object "FilterForgeModel$Sum"
  | 4 => .object "FilterForgeModel$Sum"
  | 5 => .int
  | _ => .int
abbrev wsX120 : List Cond := u_ws RX12 TX12 7
theorem nmX12 : ∀ a, a < 7 → ∀ b, b < 7 → a ≠ b → (TX12 a).2.1 ≠ (TX12 b).2.1 := by decide +kernel
theorem tyX12_ok : ∀ k, k < 7 → parseFieldDescriptor (TX12 k).2.2.1 = some (tyX12 k) := by decide +kernel
def RX13 : String := "FilterForgeModel$Never"
def TX13 : u_T := fun k => match k with
  | 0 => ("java/lang/Throwable", "cause", "Ljava/lang/Throwable;", false)
  | 1 => ("java/lang/Throwable", "stackTrace", "[Ljava/lang/StackTraceElement;", false)
  | 2 => ("java/lang/Throwable", "suppressedExceptions", "Ljava/util/List;", false)
  | 3 => ("java/lang/Throwable", "detailMessage", "Ljava/lang/String;", false)
  | 4 => ("java/lang/Throwable", "backtrace", "Ljava/lang/Object;", false)
  | _ => ("java/lang/Throwable", "depth", "I", false)
def tyX13 : Nat → FieldType := fun k => match k with
  | 0 => .object "java/lang/Throwable"
  | 1 => .array (.object "java/lang/StackTraceElement")
  | 2 => .object "java/util/List"
  | 3 => .object "java/lang/String"
  | 4 => .object "java/lang/Object"
  | _ => .int
abbrev wsX130 : List Cond := u_ws RX13 TX13 6
theorem nmX13 : ∀ a, a < 6 → ∀ b, b < 6 → a ≠ b → (TX13 a).2.1 ≠ (TX13 b).2.1 := by decide +kernel
theorem tyX13_ok : ∀ k, k < 6 → parseFieldDescriptor (TX13 k).2.2.1 = some (tyX13 k) := by decide +kernel
def RX14 : String := "FilterForgeModel$Sum"
def TX14 : u_T := fun k => match k with
  | 0 => ("FilterForgeModel$Sum", "kind", "I", true)
  | 1 => ("FilterForgeModel$Sum", "value", "J", true)
  | 2 => ("FilterForgeModel$Sum", "a", "LFilterForgeModel$Sum;", true)
  | 3 => ("FilterForgeModel$Sum", "b", "LFilterForgeModel$Sum;", true)
  | _ => ("FilterForgeModel$Sum", "size", "I", true)
def tyX14 : Nat → FieldType := fun k => match k with
  | 0 => .int
  | 1 => .long
  | 2 => .object "FilterForgeModel$Sum"
  | 3 => .object "FilterForgeModel$Sum"
  | _ => .int
abbrev wsX140 : List Cond := u_ws RX14 TX14 5
theorem nmX14 : ∀ a, a < 5 → ∀ b, b < 5 → a ≠ b → (TX14 a).2.1 ≠ (TX14 b).2.1 := by decide +kernel
theorem tyX14_ok : ∀ k, k < 5 → parseFieldDescriptor (TX14 k).2.2.1 = some (tyX14 k) := by decide +kernel
def RX15 : String := "FilterForgeModel$Wrong"
def TX15 : u_T := fun k => match k with
  | 0 => ("java/lang/Throwable", "cause", "Ljava/lang/Throwable;", false)
  | 1 => ("java/lang/Throwable", "stackTrace", "[Ljava/lang/StackTraceElement;", false)
  | 2 => ("java/lang/Throwable", "suppressedExceptions", "Ljava/util/List;", false)
  | 3 => ("java/lang/Throwable", "detailMessage", "Ljava/lang/String;", false)
  | 4 => ("java/lang/Throwable", "backtrace", "Ljava/lang/Object;", false)
  | 5 => ("java/lang/Throwable", "depth", "I", false)
  | _ => ("FilterForgeModel$Wrong", "place", "I", true)
def tyX15 : Nat → FieldType := fun k => match k with
  | 0 => .object "java/lang/Throwable"
  | 1 => .array (.object "java/lang/StackTraceElement")
  | 2 => .object "java/util/List"
  | 3 => .object "java/lang/String"
  | 4 => .object "java/lang/Object"
  | 5 => .int
  | _ => .int
abbrev wsX150 : List Cond := u_ws RX15 TX15 7
theorem nmX15 : ∀ a, a < 7 → ∀ b, b < 7 → a ≠ b → (TX15 a).2.1 ≠ (TX15 b).2.1 := by decide +kernel
theorem tyX15_ok : ∀ k, k < 7 → parseFieldDescriptor (TX15 k).2.2.1 = some (tyX15 k) := by decide +kernel
def RX16 : String := "FilterForgeModel"
def TX16 : u_T := fun k => match k with
  | 0 => ("FilterForgeModel", "tape", "[I", true)
  | 1 => ("FilterForgeModel", "fed", "I", false)
  | 2 => ("FilterForgeModel", "packetBytes", "[I", true)
  | 3 => ("FilterForgeModel", "packetLengths", "[I", true)
  | 4 => ("FilterForgeModel", "packets", "I", false)
  | 5 => ("FilterForgeModel", "wordKind", "I", false)
  | 6 => ("FilterForgeModel", "wordFrom", "I", false)
  | 7 => ("FilterForgeModel", "wordTo", "I", false)
  | 8 => ("FilterForgeModel", "textEnd", "I", false)
  | 9 => ("FilterForgeModel", "openFilters", "I", false)
  | 10 => ("FilterForgeModel", "openSums", "I", false)
  | 11 => ("FilterForgeModel", "pending", "I", false)
  | 12 => ("FilterForgeModel", "guards", "[I", true)
  | 13 => ("FilterForgeModel", "guardMany", "I", false)
  | 14 => ("FilterForgeModel", "tests", "[LFilterForgeModel$Filter;", false)
  | 15 => ("FilterForgeModel", "testMany", "I", false)
  | 16 => ("FilterForgeModel", "yes", "[I", false)
  | 17 => ("FilterForgeModel", "no", "[I", false)
  | 18 => ("FilterForgeModel", "wasRead", "Z", false)
  | 19 => ("FilterForgeModel", "leftOut", "I", false)
  | 20 => ("FilterForgeModel", "pile", "[LFilterForgeModel$Filter;", false)
  | 21 => ("FilterForgeModel", "pileYes", "[I", false)
  | 22 => ("FilterForgeModel", "pileNo", "[I", false)
  | 23 => ("FilterForgeModel", "piled", "I", false)
  | 24 => ("FilterForgeModel", "spine", "[LFilterForgeModel$Sum;", false)
  | 25 => ("FilterForgeModel", "spined", "I", false)
  | 26 => ("FilterForgeModel", "program", "[J", false)
  | 27 => ("FilterForgeModel", "hasProgram", "Z", false)
  | 28 => ("FilterForgeModel", "code", "[J", false)
  | 29 => ("FilterForgeModel", "coded", "I", false)
  | 30 => ("FilterForgeModel", "wantsAt", "[I", false)
  | 31 => ("FilterForgeModel", "wantsWhat", "[I", false)
  | 32 => ("FilterForgeModel", "wants", "I", false)
  | 33 => ("FilterForgeModel", "registers", "[J", true)
  | 34 => ("FilterForgeModel", "stackBytes", "[I", true)
  | 35 => ("FilterForgeModel", "trap", "I", false)
  | 36 => ("FilterForgeModel", "steps", "I", false)
  | 37 => ("FilterForgeModel", "endedAt", "I", false)
  | 38 => ("FilterForgeModel", "wasEmulated", "Z", false)
  | 39 => ("FilterForgeModel", "kinds", "[I", false)
  | 40 => ("FilterForgeModel", "lows", "[J", false)
  | 41 => ("FilterForgeModel", "highs", "[J", false)
  | 42 => ("FilterForgeModel", "knowns", "[J", false)
  | 43 => ("FilterForgeModel", "ones", "[J", false)
  | 44 => ("FilterForgeModel", "sets", "[J", false)
  | 45 => ("FilterForgeModel", "comes", "[Z", false)
  | 46 => ("FilterForgeModel", "looked", "I", false)
  | 47 => ("FilterForgeModel", "low", "J", false)
  | 48 => ("FilterForgeModel", "high", "J", false)
  | 49 => ("FilterForgeModel", "known", "J", false)
  | 50 => ("FilterForgeModel", "one", "J", false)
  | 51 => ("FilterForgeModel", "yLow", "J", false)
  | 52 => ("FilterForgeModel", "yHigh", "J", false)
  | 53 => ("FilterForgeModel", "yKnown", "J", false)
  | 54 => ("FilterForgeModel", "yOne", "J", false)
  | 55 => ("FilterForgeModel", "kind", "[I", true)
  | 56 => ("FilterForgeModel", "l", "[J", true)
  | 57 => ("FilterForgeModel", "h", "[J", true)
  | 58 => ("FilterForgeModel", "k", "[J", true)
  | 59 => ("FilterForgeModel", "o", "[J", true)
  | 60 => ("FilterForgeModel", "set", "J", false)
  | 61 => ("FilterForgeModel", "otherKinds", "[I", false)
  | 62 => ("FilterForgeModel", "otherLows", "[J", false)
  | 63 => ("FilterForgeModel", "otherHighs", "[J", false)
  | 64 => ("FilterForgeModel", "otherKnowns", "[J", false)
  | 65 => ("FilterForgeModel", "otherOnes", "[J", false)
  | 66 => ("FilterForgeModel", "otherSets", "[J", false)
  | 67 => ("FilterForgeModel", "otherComes", "[Z", false)
  | 68 => ("FilterForgeModel", "otherLooked", "I", false)
  | 69 => ("FilterForgeModel", "object", "[I", true)
  | 70 => ("FilterForgeModel", "objectMany", "I", false)
  | 71 => ("FilterForgeModel", "hasObject", "Z", false)
  | 72 => ("FilterForgeModel", "words", "[I", true)
  | 73 => ("FilterForgeModel", "wordMany", "I", false)
  | 74 => ("FilterForgeModel", "wordOf", "[I", true)
  | 75 => ("FilterForgeModel", "goesTo", "J", false)
  | 76 => ("FilterForgeModel", "isBad", "Z", false)
  | _ => ("FilterForgeModel", "noMemory", "Z", false)
def tyX16 : Nat → FieldType := fun k => match k with
  | 0 => .array .int
  | 1 => .int
  | 2 => .array .int
  | 3 => .array .int
  | 4 => .int
  | 5 => .int
  | 6 => .int
  | 7 => .int
  | 8 => .int
  | 9 => .int
  | 10 => .int
  | 11 => .int
  | 12 => .array .int
  | 13 => .int
  | 14 => .array (.object "FilterForgeModel$Filter")
  | 15 => .int
  | 16 => .array .int
  | 17 => .array .int
  | 18 => .boolean
  | 19 => .int
  | 20 => .array (.object "FilterForgeModel$Filter")
  | 21 => .array .int
  | 22 => .array .int
  | 23 => .int
  | 24 => .array (.object "FilterForgeModel$Sum")
  | 25 => .int
  | 26 => .array .long
  | 27 => .boolean
  | 28 => .array .long
  | 29 => .int
  | 30 => .array .int
  | 31 => .array .int
  | 32 => .int
  | 33 => .array .long
  | 34 => .array .int
  | 35 => .int
  | 36 => .int
  | 37 => .int
  | 38 => .boolean
  | 39 => .array .int
  | 40 => .array .long
  | 41 => .array .long
  | 42 => .array .long
  | 43 => .array .long
  | 44 => .array .long
  | 45 => .array .boolean
  | 46 => .int
  | 47 => .long
  | 48 => .long
  | 49 => .long
  | 50 => .long
  | 51 => .long
  | 52 => .long
  | 53 => .long
  | 54 => .long
  | 55 => .array .int
  | 56 => .array .long
  | 57 => .array .long
  | 58 => .array .long
  | 59 => .array .long
  | 60 => .long
  | 61 => .array .int
  | 62 => .array .long
  | 63 => .array .long
  | 64 => .array .long
  | 65 => .array .long
  | 66 => .array .long
  | 67 => .array .boolean
  | 68 => .int
  | 69 => .array .int
  | 70 => .int
  | 71 => .boolean
  | 72 => .array .int
  | 73 => .int
  | 74 => .array .int
  | 75 => .long
  | 76 => .boolean
  | _ => .boolean
abbrev wsX160 : List Cond := u_ws RX16 TX16 78
theorem nmX16 : ∀ a, a < 78 → ∀ b, b < 78 → a ≠ b → (TX16 a).2.1 ≠ (TX16 b).2.1 := by decide +kernel
theorem tyX16_ok : ∀ k, k < 78 → parseFieldDescriptor (TX16 k).2.2.1 = some (tyX16 k) := by decide +kernel
abbrev cX0_init : ByteArray := prog_2_method_1_code
def yX0_init : MethodName := ⟨RX0, "<init>", "(LFilterForge$Filter;LFilterForge$Program;)V"⟩
abbrev cX1_init : ByteArray := prog_3_method_1_code
def yX1_init : MethodName := ⟨RX1, "<init>", "()V"⟩
abbrev cX2_init : ByteArray := prog_4_method_1_code
def yX2_init : MethodName := ⟨RX2, "<init>", "()V"⟩
abbrev cX3_init : ByteArray := prog_5_method_1_code
def yX3_init : MethodName := ⟨RX3, "<init>", "(LFilterForge$Program;)V"⟩
abbrev cX4_init : ByteArray := prog_6_method_1_code
def yX4_init : MethodName := ⟨RX4, "<init>", "(LFilterForge$Packets;)V"⟩
abbrev cX5_init : ByteArray := prog_7_method_1_code
def yX5_init : MethodName := ⟨RX5, "<init>", "()V"⟩
abbrev cX5_takeTape : ByteArray := prog_7_method_2_code
def yX5_takeTape : MethodName := ⟨RX5, "takeTape", "(LFilterForge$Tape;)I"⟩
abbrev cX5_at : ByteArray := prog_7_method_3_code
def yX5_at : MethodName := ⟨RX5, "at", "(I)I"⟩
abbrev cX6_init : ByteArray := prog_8_method_1_code
def yX6_init : MethodName := ⟨RX6, "<init>", "()V"⟩
abbrev cX6_add : ByteArray := prog_8_method_2_code
def yX6_add : MethodName := ⟨RX6, "add", "(LFilterForge$Tape;)I"⟩
abbrev cX6_lengthOf : ByteArray := prog_8_method_3_code
def yX6_lengthOf : MethodName := ⟨RX6, "lengthOf", "(I)I"⟩
abbrev cX6_at : ByteArray := prog_8_method_4_code
def yX6_at : MethodName := ⟨RX6, "at", "(IJ)I"⟩
abbrev cX6_eightFrom : ByteArray := prog_8_method_5_code
def yX6_eightFrom : MethodName := ⟨RX6, "eightFrom", "(II)J"⟩
abbrev cX7_init : ByteArray := prog_9_method_1_code
def yX7_init : MethodName := ⟨RX7, "<init>", "()V"⟩
abbrev cX7_takeTape : ByteArray := prog_9_method_2_code
def yX7_takeTape : MethodName := ⟨RX7, "takeTape", "(LFilterForge$Tape;)I"⟩
abbrev cX7_at : ByteArray := prog_9_method_3_code
def yX7_at : MethodName := ⟨RX7, "at", "(I)J"⟩
abbrev cX8_init : ByteArray := prog_10_method_1_code
def yX8_init : MethodName := ⟨RX8, "<init>", "(LFilterForge$Tape;LFilterForge$Filter;)V"⟩
abbrev cX9_init : ByteArray := prog_11_method_1_code
def yX9_init : MethodName := ⟨RX9, "<init>", "()V"⟩
abbrev cX9_hasRoom : ByteArray := prog_11_method_2_code
def yX9_hasRoom : MethodName := ⟨RX9, "hasRoom", "(I)Z"⟩
abbrev cX9_put : ByteArray := prog_11_method_3_code
def yX9_put : MethodName := ⟨RX9, "put", "(I)V"⟩
abbrev cX9_at : ByteArray := prog_11_method_4_code
def yX9_at : MethodName := ⟨RX9, "at", "(I)I"⟩
abbrev cX10_init : ByteArray := prog_12_method_1_code
def yX10_init : MethodName := ⟨RX10, "<init>", "(LFilterForge$Program;LFilterForge$ObjectCode;)V"⟩
abbrev cX11_init : ByteArray := prog_1_method_1_code
def yX11_init : MethodName := ⟨RX11, "<init>", "()V"⟩
theorem mhX0_init : (yX0_init.cls ≠ "java/lang/invoke/MethodHandle" ∧ yX0_init.cls ≠ "java/lang/invoke/VarHandle" ∧ (parseMethodDescriptor yX0_init.desc).map (fun d => d.parameters.length) = some 2) := by decide +kernel
theorem mhX1_init : (yX1_init.cls ≠ "java/lang/invoke/MethodHandle" ∧ yX1_init.cls ≠ "java/lang/invoke/VarHandle" ∧ (parseMethodDescriptor yX1_init.desc).map (fun d => d.parameters.length) = some 0) := by decide +kernel
theorem mhX2_init : (yX2_init.cls ≠ "java/lang/invoke/MethodHandle" ∧ yX2_init.cls ≠ "java/lang/invoke/VarHandle" ∧ (parseMethodDescriptor yX2_init.desc).map (fun d => d.parameters.length) = some 0) := by decide +kernel
theorem mhX3_init : (yX3_init.cls ≠ "java/lang/invoke/MethodHandle" ∧ yX3_init.cls ≠ "java/lang/invoke/VarHandle" ∧ (parseMethodDescriptor yX3_init.desc).map (fun d => d.parameters.length) = some 1) := by decide +kernel
theorem mhX4_init : (yX4_init.cls ≠ "java/lang/invoke/MethodHandle" ∧ yX4_init.cls ≠ "java/lang/invoke/VarHandle" ∧ (parseMethodDescriptor yX4_init.desc).map (fun d => d.parameters.length) = some 1) := by decide +kernel
theorem mhX5_init : (yX5_init.cls ≠ "java/lang/invoke/MethodHandle" ∧ yX5_init.cls ≠ "java/lang/invoke/VarHandle" ∧ (parseMethodDescriptor yX5_init.desc).map (fun d => d.parameters.length) = some 0) := by decide +kernel
theorem mhX5_takeTape : (yX5_takeTape.cls ≠ "java/lang/invoke/MethodHandle" ∧ yX5_takeTape.cls ≠ "java/lang/invoke/VarHandle" ∧ (parseMethodDescriptor yX5_takeTape.desc).map (fun d => d.parameters.length) = some 1) := by decide +kernel
theorem mhX5_at : (yX5_at.cls ≠ "java/lang/invoke/MethodHandle" ∧ yX5_at.cls ≠ "java/lang/invoke/VarHandle" ∧ (parseMethodDescriptor yX5_at.desc).map (fun d => d.parameters.length) = some 1) := by decide +kernel
theorem mhX6_init : (yX6_init.cls ≠ "java/lang/invoke/MethodHandle" ∧ yX6_init.cls ≠ "java/lang/invoke/VarHandle" ∧ (parseMethodDescriptor yX6_init.desc).map (fun d => d.parameters.length) = some 0) := by decide +kernel
theorem mhX6_add : (yX6_add.cls ≠ "java/lang/invoke/MethodHandle" ∧ yX6_add.cls ≠ "java/lang/invoke/VarHandle" ∧ (parseMethodDescriptor yX6_add.desc).map (fun d => d.parameters.length) = some 1) := by decide +kernel
theorem mhX6_lengthOf : (yX6_lengthOf.cls ≠ "java/lang/invoke/MethodHandle" ∧ yX6_lengthOf.cls ≠ "java/lang/invoke/VarHandle" ∧ (parseMethodDescriptor yX6_lengthOf.desc).map (fun d => d.parameters.length) = some 1) := by decide +kernel
theorem mhX6_at : (yX6_at.cls ≠ "java/lang/invoke/MethodHandle" ∧ yX6_at.cls ≠ "java/lang/invoke/VarHandle" ∧ (parseMethodDescriptor yX6_at.desc).map (fun d => d.parameters.length) = some 2) := by decide +kernel
theorem mhX6_eightFrom : (yX6_eightFrom.cls ≠ "java/lang/invoke/MethodHandle" ∧ yX6_eightFrom.cls ≠ "java/lang/invoke/VarHandle" ∧ (parseMethodDescriptor yX6_eightFrom.desc).map (fun d => d.parameters.length) = some 2) := by decide +kernel
theorem mhX7_init : (yX7_init.cls ≠ "java/lang/invoke/MethodHandle" ∧ yX7_init.cls ≠ "java/lang/invoke/VarHandle" ∧ (parseMethodDescriptor yX7_init.desc).map (fun d => d.parameters.length) = some 0) := by decide +kernel
theorem mhX7_takeTape : (yX7_takeTape.cls ≠ "java/lang/invoke/MethodHandle" ∧ yX7_takeTape.cls ≠ "java/lang/invoke/VarHandle" ∧ (parseMethodDescriptor yX7_takeTape.desc).map (fun d => d.parameters.length) = some 1) := by decide +kernel
theorem mhX7_at : (yX7_at.cls ≠ "java/lang/invoke/MethodHandle" ∧ yX7_at.cls ≠ "java/lang/invoke/VarHandle" ∧ (parseMethodDescriptor yX7_at.desc).map (fun d => d.parameters.length) = some 1) := by decide +kernel
theorem mhX8_init : (yX8_init.cls ≠ "java/lang/invoke/MethodHandle" ∧ yX8_init.cls ≠ "java/lang/invoke/VarHandle" ∧ (parseMethodDescriptor yX8_init.desc).map (fun d => d.parameters.length) = some 2) := by decide +kernel
theorem mhX9_init : (yX9_init.cls ≠ "java/lang/invoke/MethodHandle" ∧ yX9_init.cls ≠ "java/lang/invoke/VarHandle" ∧ (parseMethodDescriptor yX9_init.desc).map (fun d => d.parameters.length) = some 0) := by decide +kernel
theorem mhX9_hasRoom : (yX9_hasRoom.cls ≠ "java/lang/invoke/MethodHandle" ∧ yX9_hasRoom.cls ≠ "java/lang/invoke/VarHandle" ∧ (parseMethodDescriptor yX9_hasRoom.desc).map (fun d => d.parameters.length) = some 1) := by decide +kernel
theorem mhX9_put : (yX9_put.cls ≠ "java/lang/invoke/MethodHandle" ∧ yX9_put.cls ≠ "java/lang/invoke/VarHandle" ∧ (parseMethodDescriptor yX9_put.desc).map (fun d => d.parameters.length) = some 1) := by decide +kernel
theorem mhX9_at : (yX9_at.cls ≠ "java/lang/invoke/MethodHandle" ∧ yX9_at.cls ≠ "java/lang/invoke/VarHandle" ∧ (parseMethodDescriptor yX9_at.desc).map (fun d => d.parameters.length) = some 1) := by decide +kernel
theorem mhX10_init : (yX10_init.cls ≠ "java/lang/invoke/MethodHandle" ∧ yX10_init.cls ≠ "java/lang/invoke/VarHandle" ∧ (parseMethodDescriptor yX10_init.desc).map (fun d => d.parameters.length) = some 2) := by decide +kernel
theorem mhX11_init : (yX11_init.cls ≠ "java/lang/invoke/MethodHandle" ∧ yX11_init.cls ≠ "java/lang/invoke/VarHandle" ∧ (parseMethodDescriptor yX11_init.desc).map (fun d => d.parameters.length) = some 0) := by decide +kernel
abbrev vwCl : List vw_C := [(RX0, TX0, 5), (RX1, TX1, 5), (RX2, TX2, 18), (RX3, TX3, 14), (RX4, TX4, 10), (RX5, TX5, 2), (RX6, TX6, 3), (RX7, TX7, 2), (RX8, TX8, 6), (RX9, TX9, 2), (RX10, TX10, 5), (RX11, TX11, 14), (RX12, TX12, 7), (RX13, TX13, 6), (RX14, TX14, 5), (RX15, TX15, 7), (RX16, TX16, 78)]
end
section
theorem dX0_init_0 : decode cX0_init 0 = .ok (.aload_n 0, 1) := by decide +kernel
theorem dX0_init_1 : decode cX0_init 1 = .ok (.invokespecial 3, 3) := by decide +kernel
theorem dX0_init_4 : decode cX0_init 4 = .ok (.aload_n 0, 1) := by decide +kernel
theorem dX0_init_5 : decode cX0_init 5 = .ok (.sipush 3002, 3) := by decide +kernel
theorem dX0_init_8 : decode cX0_init 8 = .ok (.newarray .int, 2) := by decide +kernel
theorem dX0_init_10 : decode cX0_init 10 = .ok (.putfield 11, 3) := by decide +kernel
theorem dX0_init_13 : decode cX0_init 13 = .ok (.aload_n 0, 1) := by decide +kernel
theorem dX0_init_14 : decode cX0_init 14 = .ok (.sipush 4000, 3) := by decide +kernel
theorem dX0_init_17 : decode cX0_init 17 = .ok (.newarray .int, 2) := by decide +kernel
theorem dX0_init_19 : decode cX0_init 19 = .ok (.putfield 19, 3) := by decide +kernel
theorem dX0_init_22 : decode cX0_init 22 = .ok (.aload_n 0, 1) := by decide +kernel
theorem dX0_init_23 : decode cX0_init 23 = .ok (.aload_n 1, 1) := by decide +kernel
theorem dX0_init_24 : decode cX0_init 24 = .ok (.putfield 22, 3) := by decide +kernel
theorem dX0_init_27 : decode cX0_init 27 = .ok (.aload_n 0, 1) := by decide +kernel
theorem dX0_init_28 : decode cX0_init 28 = .ok (.aload_n 2, 1) := by decide +kernel
theorem dX0_init_29 : decode cX0_init 29 = .ok (.putfield 26, 3) := by decide +kernel
theorem dX0_init_32 : decode cX0_init 32 = .ok (.return_, 1) := by decide +kernel
theorem dX1_init_0 : decode cX1_init 0 = .ok (.aload_n 0, 1) := by decide +kernel
theorem dX1_init_1 : decode cX1_init 1 = .ok (.invokespecial 3, 3) := by decide +kernel
theorem dX1_init_4 : decode cX1_init 4 = .ok (.return_, 1) := by decide +kernel
theorem dX2_init_0 : decode cX2_init 0 = .ok (.aload_n 0, 1) := by decide +kernel
theorem dX2_init_1 : decode cX2_init 1 = .ok (.invokespecial 3, 3) := by decide +kernel
theorem dX2_init_4 : decode cX2_init 4 = .ok (.aload_n 0, 1) := by decide +kernel
theorem dX2_init_5 : decode cX2_init 5 = .ok (.sipush 7000, 3) := by decide +kernel
theorem dX2_init_8 : decode cX2_init 8 = .ok (.newarray .int, 2) := by decide +kernel
theorem dX2_init_10 : decode cX2_init 10 = .ok (.putfield 11, 3) := by decide +kernel
theorem dX2_init_13 : decode cX2_init 13 = .ok (.aload_n 0, 1) := by decide +kernel
theorem dX2_init_14 : decode cX2_init 14 = .ok (.sipush 7000, 3) := by decide +kernel
theorem dX2_init_17 : decode cX2_init 17 = .ok (.newarray .int, 2) := by decide +kernel
theorem dX2_init_19 : decode cX2_init 19 = .ok (.putfield 15, 3) := by decide +kernel
theorem dX2_init_22 : decode cX2_init 22 = .ok (.aload_n 0, 1) := by decide +kernel
theorem dX2_init_23 : decode cX2_init 23 = .ok (.sipush 7000, 3) := by decide +kernel
theorem dX2_init_26 : decode cX2_init 26 = .ok (.newarray .int, 2) := by decide +kernel
theorem dX2_init_28 : decode cX2_init 28 = .ok (.putfield 18, 3) := by decide +kernel
theorem dX2_init_31 : decode cX2_init 31 = .ok (.aload_n 0, 1) := by decide +kernel
theorem dX2_init_32 : decode cX2_init 32 = .ok (.sipush 3000, 3) := by decide +kernel
theorem dX2_init_35 : decode cX2_init 35 = .ok (.newarray .int, 2) := by decide +kernel
theorem dX2_init_37 : decode cX2_init 37 = .ok (.putfield 21, 3) := by decide +kernel
theorem dX2_init_40 : decode cX2_init 40 = .ok (.aload_n 0, 1) := by decide +kernel
theorem dX2_init_41 : decode cX2_init 41 = .ok (.sipush 3000, 3) := by decide +kernel
theorem dX2_init_44 : decode cX2_init 44 = .ok (.newarray .int, 2) := by decide +kernel
theorem dX2_init_46 : decode cX2_init 46 = .ok (.putfield 24, 3) := by decide +kernel
theorem dX2_init_49 : decode cX2_init 49 = .ok (.aload_n 0, 1) := by decide +kernel
theorem dX2_init_50 : decode cX2_init 50 = .ok (.sipush 3000, 3) := by decide +kernel
theorem dX2_init_53 : decode cX2_init 53 = .ok (.newarray .int, 2) := by decide +kernel
theorem dX2_init_55 : decode cX2_init 55 = .ok (.putfield 27, 3) := by decide +kernel
theorem dX2_init_58 : decode cX2_init 58 = .ok (.aload_n 0, 1) := by decide +kernel
theorem dX2_init_59 : decode cX2_init 59 = .ok (.sipush 3000, 3) := by decide +kernel
theorem dX2_init_62 : decode cX2_init 62 = .ok (.newarray .int, 2) := by decide +kernel
theorem dX2_init_64 : decode cX2_init 64 = .ok (.putfield 30, 3) := by decide +kernel
theorem dX2_init_67 : decode cX2_init 67 = .ok (.aload_n 0, 1) := by decide +kernel
theorem dX2_init_68 : decode cX2_init 68 = .ok (.sipush 3000, 3) := by decide +kernel
theorem dX2_init_71 : decode cX2_init 71 = .ok (.newarray .int, 2) := by decide +kernel
theorem dX2_init_73 : decode cX2_init 73 = .ok (.putfield 33, 3) := by decide +kernel
theorem dX2_init_76 : decode cX2_init 76 = .ok (.aload_n 0, 1) := by decide +kernel
theorem dX2_init_77 : decode cX2_init 77 = .ok (.sipush 3000, 3) := by decide +kernel
theorem dX2_init_80 : decode cX2_init 80 = .ok (.newarray .int, 2) := by decide +kernel
theorem dX2_init_82 : decode cX2_init 82 = .ok (.putfield 36, 3) := by decide +kernel
theorem dX2_init_85 : decode cX2_init 85 = .ok (.aload_n 0, 1) := by decide +kernel
theorem dX2_init_86 : decode cX2_init 86 = .ok (.sipush 3000, 3) := by decide +kernel
theorem dX2_init_89 : decode cX2_init 89 = .ok (.newarray .boolean, 2) := by decide +kernel
theorem dX2_init_91 : decode cX2_init 91 = .ok (.putfield 39, 3) := by decide +kernel
theorem dX2_init_94 : decode cX2_init 94 = .ok (.aload_n 0, 1) := by decide +kernel
theorem dX2_init_95 : decode cX2_init 95 = .ok (.sipush 5000, 3) := by decide +kernel
theorem dX2_init_98 : decode cX2_init 98 = .ok (.newarray .int, 2) := by decide +kernel
theorem dX2_init_100 : decode cX2_init 100 = .ok (.putfield 43, 3) := by decide +kernel
theorem dX2_init_103 : decode cX2_init 103 = .ok (.aload_n 0, 1) := by decide +kernel
theorem dX2_init_104 : decode cX2_init 104 = .ok (.bipush 6, 2) := by decide +kernel
theorem dX2_init_106 : decode cX2_init 106 = .ok (.newarray .int, 2) := by decide +kernel
theorem dX2_init_108 : decode cX2_init 108 = .ok (.putfield 46, 3) := by decide +kernel
theorem dX2_init_111 : decode cX2_init 111 = .ok (.aload_n 0, 1) := by decide +kernel
theorem dX2_init_112 : decode cX2_init 112 = .ok (.bipush 8, 2) := by decide +kernel
theorem dX2_init_114 : decode cX2_init 114 = .ok (.newarray .long, 2) := by decide +kernel
theorem dX2_init_116 : decode cX2_init 116 = .ok (.putfield 49, 3) := by decide +kernel
theorem dX2_init_119 : decode cX2_init 119 = .ok (.return_, 1) := by decide +kernel
theorem dX3_init_0 : decode cX3_init 0 = .ok (.aload_n 0, 1) := by decide +kernel
theorem dX3_init_1 : decode cX3_init 1 = .ok (.invokespecial 3, 3) := by decide +kernel
theorem dX3_init_4 : decode cX3_init 4 = .ok (.aload_n 0, 1) := by decide +kernel
theorem dX3_init_5 : decode cX3_init 5 = .ok (.iconst 0, 1) := by decide +kernel
theorem dX3_init_6 : decode cX3_init 6 = .ok (.newarray .byte, 2) := by decide +kernel
theorem dX3_init_8 : decode cX3_init 8 = .ok (.putfield 9, 3) := by decide +kernel
theorem dX3_init_11 : decode cX3_init 11 = .ok (.aload_n 0, 1) := by decide +kernel
theorem dX3_init_12 : decode cX3_init 12 = .ok (.iconst 0, 1) := by decide +kernel
theorem dX3_init_13 : decode cX3_init 13 = .ok (.newarray .long, 2) := by decide +kernel
theorem dX3_init_15 : decode cX3_init 15 = .ok (.putfield 15, 3) := by decide +kernel
theorem dX3_init_18 : decode cX3_init 18 = .ok (.aload_n 0, 1) := by decide +kernel
theorem dX3_init_19 : decode cX3_init 19 = .ok (.iconst 0, 1) := by decide +kernel
theorem dX3_init_20 : decode cX3_init 20 = .ok (.newarray .long, 2) := by decide +kernel
theorem dX3_init_22 : decode cX3_init 22 = .ok (.putfield 19, 3) := by decide +kernel
theorem dX3_init_25 : decode cX3_init 25 = .ok (.aload_n 0, 1) := by decide +kernel
theorem dX3_init_26 : decode cX3_init 26 = .ok (.iconst 0, 1) := by decide +kernel
theorem dX3_init_27 : decode cX3_init 27 = .ok (.newarray .long, 2) := by decide +kernel
theorem dX3_init_29 : decode cX3_init 29 = .ok (.putfield 22, 3) := by decide +kernel
theorem dX3_init_32 : decode cX3_init 32 = .ok (.aload_n 0, 1) := by decide +kernel
theorem dX3_init_33 : decode cX3_init 33 = .ok (.iconst 0, 1) := by decide +kernel
theorem dX3_init_34 : decode cX3_init 34 = .ok (.newarray .long, 2) := by decide +kernel
theorem dX3_init_36 : decode cX3_init 36 = .ok (.putfield 25, 3) := by decide +kernel
theorem dX3_init_39 : decode cX3_init 39 = .ok (.aload_n 0, 1) := by decide +kernel
theorem dX3_init_40 : decode cX3_init 40 = .ok (.iconst 0, 1) := by decide +kernel
theorem dX3_init_41 : decode cX3_init 41 = .ok (.newarray .long, 2) := by decide +kernel
theorem dX3_init_43 : decode cX3_init 43 = .ok (.putfield 28, 3) := by decide +kernel
theorem dX3_init_46 : decode cX3_init 46 = .ok (.aload_n 0, 1) := by decide +kernel
theorem dX3_init_47 : decode cX3_init 47 = .ok (.iconst 0, 1) := by decide +kernel
theorem dX3_init_48 : decode cX3_init 48 = .ok (.newarray .boolean, 2) := by decide +kernel
theorem dX3_init_50 : decode cX3_init 50 = .ok (.putfield 31, 3) := by decide +kernel
theorem dX3_init_53 : decode cX3_init 53 = .ok (.aload_n 0, 1) := by decide +kernel
theorem dX3_init_54 : decode cX3_init 54 = .ok (.bipush 11, 2) := by decide +kernel
theorem dX3_init_56 : decode cX3_init 56 = .ok (.anewarray 35, 3) := by decide +kernel
theorem dX3_init_59 : decode cX3_init 59 = .ok (.putfield 37, 3) := by decide +kernel
theorem dX3_init_62 : decode cX3_init 62 = .ok (.aload_n 0, 1) := by decide +kernel
theorem dX3_init_63 : decode cX3_init 63 = .ok (.new 35, 3) := by decide +kernel
theorem dX3_init_66 : decode cX3_init 66 = .ok (.dup, 1) := by decide +kernel
theorem dX3_init_67 : decode cX3_init 67 = .ok (.invokespecial 41, 3) := by decide +kernel
theorem dX3_init_70 : decode cX3_init 70 = .ok (.putfield 42, 3) := by decide +kernel
theorem dX3_init_73 : decode cX3_init 73 = .ok (.aload_n 0, 1) := by decide +kernel
theorem dX3_init_74 : decode cX3_init 74 = .ok (.new 35, 3) := by decide +kernel
theorem dX3_init_77 : decode cX3_init 77 = .ok (.dup, 1) := by decide +kernel
theorem dX3_init_78 : decode cX3_init 78 = .ok (.invokespecial 41, 3) := by decide +kernel
theorem dX3_init_81 : decode cX3_init 81 = .ok (.putfield 46, 3) := by decide +kernel
theorem dX3_init_84 : decode cX3_init 84 = .ok (.aload_n 0, 1) := by decide +kernel
theorem dX3_init_85 : decode cX3_init 85 = .ok (.new 35, 3) := by decide +kernel
theorem dX3_init_88 : decode cX3_init 88 = .ok (.dup, 1) := by decide +kernel
theorem dX3_init_89 : decode cX3_init 89 = .ok (.invokespecial 41, 3) := by decide +kernel
theorem dX3_init_92 : decode cX3_init 92 = .ok (.putfield 49, 3) := by decide +kernel
theorem dX3_init_95 : decode cX3_init 95 = .ok (.aload_n 0, 1) := by decide +kernel
theorem dX3_init_96 : decode cX3_init 96 = .ok (.iconst (-1), 1) := by decide +kernel
theorem dX3_init_97 : decode cX3_init 97 = .ok (.putfield 52, 3) := by decide +kernel
theorem dX3_init_100 : decode cX3_init 100 = .ok (.aload_n 0, 1) := by decide +kernel
theorem dX3_init_101 : decode cX3_init 101 = .ok (.aload_n 1, 1) := by decide +kernel
theorem dX3_init_102 : decode cX3_init 102 = .ok (.putfield 56, 3) := by decide +kernel
theorem dX3_init_105 : decode cX3_init 105 = .ok (.iconst 0, 1) := by decide +kernel
theorem dX3_init_106 : decode cX3_init 106 = .ok (.istore_n 2, 1) := by decide +kernel
theorem dX3_init_107 : decode cX3_init 107 = .ok (.iload_n 2, 1) := by decide +kernel
theorem dX3_init_108 : decode cX3_init 108 = .ok (.bipush 11, 2) := by decide +kernel
theorem dX3_init_110 : decode cX3_init 110 = .ok (.if_icmp .ge 22, 3) := by decide +kernel
theorem dX3_init_113 : decode cX3_init 113 = .ok (.aload_n 0, 1) := by decide +kernel
theorem dX3_init_114 : decode cX3_init 114 = .ok (.getfield 37, 3) := by decide +kernel
theorem dX3_init_117 : decode cX3_init 117 = .ok (.iload_n 2, 1) := by decide +kernel
theorem dX3_init_118 : decode cX3_init 118 = .ok (.new 35, 3) := by decide +kernel
theorem dX3_init_121 : decode cX3_init 121 = .ok (.dup, 1) := by decide +kernel
theorem dX3_init_122 : decode cX3_init 122 = .ok (.invokespecial 41, 3) := by decide +kernel
theorem dX3_init_125 : decode cX3_init 125 = .ok (.aastore, 1) := by decide +kernel
theorem dX3_init_126 : decode cX3_init 126 = .ok (.iinc 2 1, 3) := by decide +kernel
theorem dX3_init_129 : decode cX3_init 129 = .ok (.goto (-22), 3) := by decide +kernel
theorem dX3_init_132 : decode cX3_init 132 = .ok (.return_, 1) := by decide +kernel
theorem dX4_init_0 : decode cX4_init 0 = .ok (.aload_n 0, 1) := by decide +kernel
theorem dX4_init_1 : decode cX4_init 1 = .ok (.invokespecial 3, 3) := by decide +kernel
theorem dX4_init_4 : decode cX4_init 4 = .ok (.aload_n 0, 1) := by decide +kernel
theorem dX4_init_5 : decode cX4_init 5 = .ok (.bipush 32, 2) := by decide +kernel
theorem dX4_init_7 : decode cX4_init 7 = .ok (.newarray .long, 2) := by decide +kernel
theorem dX4_init_9 : decode cX4_init 9 = .ok (.putfield 9, 3) := by decide +kernel
theorem dX4_init_12 : decode cX4_init 12 = .ok (.aload_n 0, 1) := by decide +kernel
theorem dX4_init_13 : decode cX4_init 13 = .ok (.bipush 64, 2) := by decide +kernel
theorem dX4_init_15 : decode cX4_init 15 = .ok (.newarray .byte, 2) := by decide +kernel
theorem dX4_init_17 : decode cX4_init 17 = .ok (.putfield 15, 3) := by decide +kernel
theorem dX4_init_20 : decode cX4_init 20 = .ok (.aload_n 0, 1) := by decide +kernel
theorem dX4_init_21 : decode cX4_init 21 = .ok (.aload_n 1, 1) := by decide +kernel
theorem dX4_init_22 : decode cX4_init 22 = .ok (.putfield 19, 3) := by decide +kernel
theorem dX4_init_25 : decode cX4_init 25 = .ok (.return_, 1) := by decide +kernel
theorem dX5_init_0 : decode cX5_init 0 = .ok (.aload_n 0, 1) := by decide +kernel
theorem dX5_init_1 : decode cX5_init 1 = .ok (.invokespecial 3, 3) := by decide +kernel
theorem dX5_init_4 : decode cX5_init 4 = .ok (.aload_n 0, 1) := by decide +kernel
theorem dX5_init_5 : decode cX5_init 5 = .ok (.ldc 11, 2) := by decide +kernel
theorem dX5_init_7 : decode cX5_init 7 = .ok (.newarray .int, 2) := by decide +kernel
theorem dX5_init_9 : decode cX5_init 9 = .ok (.putfield 12, 3) := by decide +kernel
theorem dX5_init_12 : decode cX5_init 12 = .ok (.return_, 1) := by decide +kernel
theorem dX5_takeTape_0 : decode cX5_takeTape 0 = .ok (.aload_n 1, 1) := by decide +kernel
theorem dX5_takeTape_1 : decode cX5_takeTape 1 = .ok (.getfield 16, 3) := by decide +kernel
theorem dX5_takeTape_4 : decode cX5_takeTape 4 = .ok (.ifCond .eq 12, 3) := by decide +kernel
theorem dX5_takeTape_7 : decode cX5_takeTape 7 = .ok (.aload_n 1, 1) := by decide +kernel
theorem dX5_takeTape_8 : decode cX5_takeTape 8 = .ok (.getfield 16, 3) := by decide +kernel
theorem dX5_takeTape_11 : decode cX5_takeTape 11 = .ok (.iconst 4, 1) := by decide +kernel
theorem dX5_takeTape_12 : decode cX5_takeTape 12 = .ok (.irem, 1) := by decide +kernel
theorem dX5_takeTape_13 : decode cX5_takeTape 13 = .ok (.ifCond .eq 5, 3) := by decide +kernel
theorem dX5_takeTape_16 : decode cX5_takeTape 16 = .ok (.iconst (-1), 1) := by decide +kernel
theorem dX5_takeTape_17 : decode cX5_takeTape 17 = .ok (.ireturn, 1) := by decide +kernel
theorem dX5_takeTape_18 : decode cX5_takeTape 18 = .ok (.aload_n 0, 1) := by decide +kernel
theorem dX5_takeTape_19 : decode cX5_takeTape 19 = .ok (.aload_n 1, 1) := by decide +kernel
theorem dX5_takeTape_20 : decode cX5_takeTape 20 = .ok (.getfield 16, 3) := by decide +kernel
theorem dX5_takeTape_23 : decode cX5_takeTape 23 = .ok (.iconst 4, 1) := by decide +kernel
theorem dX5_takeTape_24 : decode cX5_takeTape 24 = .ok (.idiv, 1) := by decide +kernel
theorem dX5_takeTape_25 : decode cX5_takeTape 25 = .ok (.putfield 22, 3) := by decide +kernel
theorem dX5_takeTape_28 : decode cX5_takeTape 28 = .ok (.iconst 0, 1) := by decide +kernel
theorem dX5_takeTape_29 : decode cX5_takeTape 29 = .ok (.istore_n 2, 1) := by decide +kernel
theorem dX5_takeTape_30 : decode cX5_takeTape 30 = .ok (.iload_n 2, 1) := by decide +kernel
theorem dX5_takeTape_31 : decode cX5_takeTape 31 = .ok (.aload_n 0, 1) := by decide +kernel
theorem dX5_takeTape_32 : decode cX5_takeTape 32 = .ok (.getfield 22, 3) := by decide +kernel
theorem dX5_takeTape_35 : decode cX5_takeTape 35 = .ok (.if_icmp .ge 24, 3) := by decide +kernel
theorem dX5_takeTape_38 : decode cX5_takeTape 38 = .ok (.aload_n 0, 1) := by decide +kernel
theorem dX5_takeTape_39 : decode cX5_takeTape 39 = .ok (.getfield 12, 3) := by decide +kernel
theorem dX5_takeTape_42 : decode cX5_takeTape 42 = .ok (.iload_n 2, 1) := by decide +kernel
theorem dX5_takeTape_43 : decode cX5_takeTape 43 = .ok (.aload_n 1, 1) := by decide +kernel
theorem dX5_takeTape_44 : decode cX5_takeTape 44 = .ok (.iconst 4, 1) := by decide +kernel
theorem dX5_takeTape_45 : decode cX5_takeTape 45 = .ok (.iload_n 2, 1) := by decide +kernel
theorem dX5_takeTape_46 : decode cX5_takeTape 46 = .ok (.imul, 1) := by decide +kernel
theorem dX5_takeTape_47 : decode cX5_takeTape 47 = .ok (.iconst 4, 1) := by decide +kernel
theorem dX5_takeTape_48 : decode cX5_takeTape 48 = .ok (.invokevirtual 23, 3) := by decide +kernel
theorem dX5_takeTape_51 : decode cX5_takeTape 51 = .ok (.l2i, 1) := by decide +kernel
theorem dX5_takeTape_52 : decode cX5_takeTape 52 = .ok (.iastore, 1) := by decide +kernel
theorem dX5_takeTape_53 : decode cX5_takeTape 53 = .ok (.iinc 2 1, 3) := by decide +kernel
theorem dX5_takeTape_56 : decode cX5_takeTape 56 = .ok (.goto (-26), 3) := by decide +kernel
theorem dX5_takeTape_59 : decode cX5_takeTape 59 = .ok (.aload_n 0, 1) := by decide +kernel
theorem dX5_takeTape_60 : decode cX5_takeTape 60 = .ok (.getfield 22, 3) := by decide +kernel
theorem dX5_takeTape_63 : decode cX5_takeTape 63 = .ok (.ireturn, 1) := by decide +kernel
theorem dX5_at_0 : decode cX5_at 0 = .ok (.iload_n 1, 1) := by decide +kernel
theorem dX5_at_1 : decode cX5_at 1 = .ok (.ifCond .lt 11, 3) := by decide +kernel
theorem dX5_at_4 : decode cX5_at 4 = .ok (.iload_n 1, 1) := by decide +kernel
theorem dX5_at_5 : decode cX5_at 5 = .ok (.aload_n 0, 1) := by decide +kernel
theorem dX5_at_6 : decode cX5_at 6 = .ok (.getfield 22, 3) := by decide +kernel
theorem dX5_at_9 : decode cX5_at 9 = .ok (.if_icmp .lt 7, 3) := by decide +kernel
theorem dX5_at_12 : decode cX5_at 12 = .ok (.iconst 0, 1) := by decide +kernel
theorem dX5_at_13 : decode cX5_at 13 = .ok (.goto 9, 3) := by decide +kernel
theorem dX5_at_16 : decode cX5_at 16 = .ok (.aload_n 0, 1) := by decide +kernel
theorem dX5_at_17 : decode cX5_at 17 = .ok (.getfield 12, 3) := by decide +kernel
theorem dX5_at_20 : decode cX5_at 20 = .ok (.iload_n 1, 1) := by decide +kernel
theorem dX5_at_21 : decode cX5_at 21 = .ok (.iaload, 1) := by decide +kernel
theorem dX5_at_22 : decode cX5_at 22 = .ok (.ireturn, 1) := by decide +kernel
theorem dX6_init_0 : decode cX6_init 0 = .ok (.aload_n 0, 1) := by decide +kernel
theorem dX6_init_1 : decode cX6_init 1 = .ok (.invokespecial 1, 3) := by decide +kernel
theorem dX6_init_4 : decode cX6_init 4 = .ok (.aload_n 0, 1) := by decide +kernel
theorem dX6_init_5 : decode cX6_init 5 = .ok (.sipush 4096, 3) := by decide +kernel
theorem dX6_init_8 : decode cX6_init 8 = .ok (.newarray .byte, 2) := by decide +kernel
theorem dX6_init_10 : decode cX6_init 10 = .ok (.putfield 9, 3) := by decide +kernel
theorem dX6_init_13 : decode cX6_init 13 = .ok (.aload_n 0, 1) := by decide +kernel
theorem dX6_init_14 : decode cX6_init 14 = .ok (.bipush 16, 2) := by decide +kernel
theorem dX6_init_16 : decode cX6_init 16 = .ok (.newarray .int, 2) := by decide +kernel
theorem dX6_init_18 : decode cX6_init 18 = .ok (.putfield 13, 3) := by decide +kernel
theorem dX6_init_21 : decode cX6_init 21 = .ok (.return_, 1) := by decide +kernel
theorem dX6_add_0 : decode cX6_add 0 = .ok (.aload_n 0, 1) := by decide +kernel
theorem dX6_add_1 : decode cX6_add 1 = .ok (.getfield 17, 3) := by decide +kernel
theorem dX6_add_4 : decode cX6_add 4 = .ok (.bipush 16, 2) := by decide +kernel
theorem dX6_add_6 : decode cX6_add 6 = .ok (.if_icmp .lt 5, 3) := by decide +kernel
theorem dX6_add_9 : decode cX6_add 9 = .ok (.iconst (-1), 1) := by decide +kernel
theorem dX6_add_10 : decode cX6_add 10 = .ok (.ireturn, 1) := by decide +kernel
theorem dX6_add_11 : decode cX6_add 11 = .ok (.aload_n 1, 1) := by decide +kernel
theorem dX6_add_12 : decode cX6_add 12 = .ok (.getfield 21, 3) := by decide +kernel
theorem dX6_add_15 : decode cX6_add 15 = .ok (.sipush 256, 3) := by decide +kernel
theorem dX6_add_18 : decode cX6_add 18 = .ok (.if_icmp .le 6, 3) := by decide +kernel
theorem dX6_add_21 : decode cX6_add 21 = .ok (.bipush (-2), 2) := by decide +kernel
theorem dX6_add_23 : decode cX6_add 23 = .ok (.ireturn, 1) := by decide +kernel
theorem dX6_add_24 : decode cX6_add 24 = .ok (.iconst 0, 1) := by decide +kernel
theorem dX6_add_25 : decode cX6_add 25 = .ok (.istore_n 2, 1) := by decide +kernel
theorem dX6_add_26 : decode cX6_add 26 = .ok (.iload_n 2, 1) := by decide +kernel
theorem dX6_add_27 : decode cX6_add 27 = .ok (.aload_n 1, 1) := by decide +kernel
theorem dX6_add_28 : decode cX6_add 28 = .ok (.getfield 21, 3) := by decide +kernel
theorem dX6_add_31 : decode cX6_add 31 = .ok (.if_icmp .ge 30, 3) := by decide +kernel
theorem dX6_add_34 : decode cX6_add 34 = .ok (.aload_n 0, 1) := by decide +kernel
theorem dX6_add_35 : decode cX6_add 35 = .ok (.getfield 9, 3) := by decide +kernel
theorem dX6_add_38 : decode cX6_add 38 = .ok (.aload_n 0, 1) := by decide +kernel
theorem dX6_add_39 : decode cX6_add 39 = .ok (.getfield 17, 3) := by decide +kernel
theorem dX6_add_42 : decode cX6_add 42 = .ok (.sipush 256, 3) := by decide +kernel
theorem dX6_add_45 : decode cX6_add 45 = .ok (.imul, 1) := by decide +kernel
theorem dX6_add_46 : decode cX6_add 46 = .ok (.iload_n 2, 1) := by decide +kernel
theorem dX6_add_47 : decode cX6_add 47 = .ok (.iadd, 1) := by decide +kernel
theorem dX6_add_48 : decode cX6_add 48 = .ok (.aload_n 1, 1) := by decide +kernel
theorem dX6_add_49 : decode cX6_add 49 = .ok (.iload_n 2, 1) := by decide +kernel
theorem dX6_add_50 : decode cX6_add 50 = .ok (.invokevirtual 26, 3) := by decide +kernel
theorem dX6_add_53 : decode cX6_add 53 = .ok (.i2b, 1) := by decide +kernel
theorem dX6_add_54 : decode cX6_add 54 = .ok (.bastore, 1) := by decide +kernel
theorem dX6_add_55 : decode cX6_add 55 = .ok (.iinc 2 1, 3) := by decide +kernel
theorem dX6_add_58 : decode cX6_add 58 = .ok (.goto (-32), 3) := by decide +kernel
theorem dX6_add_61 : decode cX6_add 61 = .ok (.aload_n 0, 1) := by decide +kernel
theorem dX6_add_62 : decode cX6_add 62 = .ok (.getfield 13, 3) := by decide +kernel
theorem dX6_add_65 : decode cX6_add 65 = .ok (.aload_n 0, 1) := by decide +kernel
theorem dX6_add_66 : decode cX6_add 66 = .ok (.getfield 17, 3) := by decide +kernel
theorem dX6_add_69 : decode cX6_add 69 = .ok (.aload_n 1, 1) := by decide +kernel
theorem dX6_add_70 : decode cX6_add 70 = .ok (.getfield 21, 3) := by decide +kernel
theorem dX6_add_73 : decode cX6_add 73 = .ok (.iastore, 1) := by decide +kernel
theorem dX6_add_74 : decode cX6_add 74 = .ok (.aload_n 0, 1) := by decide +kernel
theorem dX6_add_75 : decode cX6_add 75 = .ok (.dup, 1) := by decide +kernel
theorem dX6_add_76 : decode cX6_add 76 = .ok (.getfield 17, 3) := by decide +kernel
theorem dX6_add_79 : decode cX6_add 79 = .ok (.iconst 1, 1) := by decide +kernel
theorem dX6_add_80 : decode cX6_add 80 = .ok (.iadd, 1) := by decide +kernel
theorem dX6_add_81 : decode cX6_add 81 = .ok (.putfield 17, 3) := by decide +kernel
theorem dX6_add_84 : decode cX6_add 84 = .ok (.aload_n 0, 1) := by decide +kernel
theorem dX6_add_85 : decode cX6_add 85 = .ok (.getfield 17, 3) := by decide +kernel
theorem dX6_add_88 : decode cX6_add 88 = .ok (.iconst 1, 1) := by decide +kernel
theorem dX6_add_89 : decode cX6_add 89 = .ok (.isub, 1) := by decide +kernel
theorem dX6_add_90 : decode cX6_add 90 = .ok (.ireturn, 1) := by decide +kernel
theorem dX6_lengthOf_0 : decode cX6_lengthOf 0 = .ok (.iload_n 1, 1) := by decide +kernel
theorem dX6_lengthOf_1 : decode cX6_lengthOf 1 = .ok (.ifCond .lt 11, 3) := by decide +kernel
theorem dX6_lengthOf_4 : decode cX6_lengthOf 4 = .ok (.iload_n 1, 1) := by decide +kernel
theorem dX6_lengthOf_5 : decode cX6_lengthOf 5 = .ok (.aload_n 0, 1) := by decide +kernel
theorem dX6_lengthOf_6 : decode cX6_lengthOf 6 = .ok (.getfield 17, 3) := by decide +kernel
theorem dX6_lengthOf_9 : decode cX6_lengthOf 9 = .ok (.if_icmp .lt 7, 3) := by decide +kernel
theorem dX6_lengthOf_12 : decode cX6_lengthOf 12 = .ok (.iconst (-1), 1) := by decide +kernel
theorem dX6_lengthOf_13 : decode cX6_lengthOf 13 = .ok (.goto 9, 3) := by decide +kernel
theorem dX6_lengthOf_16 : decode cX6_lengthOf 16 = .ok (.aload_n 0, 1) := by decide +kernel
theorem dX6_lengthOf_17 : decode cX6_lengthOf 17 = .ok (.getfield 13, 3) := by decide +kernel
theorem dX6_lengthOf_20 : decode cX6_lengthOf 20 = .ok (.iload_n 1, 1) := by decide +kernel
theorem dX6_lengthOf_21 : decode cX6_lengthOf 21 = .ok (.iaload, 1) := by decide +kernel
theorem dX6_lengthOf_22 : decode cX6_lengthOf 22 = .ok (.ireturn, 1) := by decide +kernel
theorem dX6_at_0 : decode cX6_at 0 = .ok (.lload_n 2, 1) := by decide +kernel
theorem dX6_at_1 : decode cX6_at 1 = .ok (.lconst 0, 1) := by decide +kernel
theorem dX6_at_2 : decode cX6_at 2 = .ok (.lcmp, 1) := by decide +kernel
theorem dX6_at_3 : decode cX6_at 3 = .ok (.ifCond .lt 14, 3) := by decide +kernel
theorem dX6_at_6 : decode cX6_at 6 = .ok (.lload_n 2, 1) := by decide +kernel
theorem dX6_at_7 : decode cX6_at 7 = .ok (.aload_n 0, 1) := by decide +kernel
theorem dX6_at_8 : decode cX6_at 8 = .ok (.iload_n 1, 1) := by decide +kernel
theorem dX6_at_9 : decode cX6_at 9 = .ok (.invokevirtual 30, 3) := by decide +kernel
theorem dX6_at_12 : decode cX6_at 12 = .ok (.i2l, 1) := by decide +kernel
theorem dX6_at_13 : decode cX6_at 13 = .ok (.lcmp, 1) := by decide +kernel
theorem dX6_at_14 : decode cX6_at 14 = .ok (.ifCond .lt 7, 3) := by decide +kernel
theorem dX6_at_17 : decode cX6_at 17 = .ok (.iconst (-1), 1) := by decide +kernel
theorem dX6_at_18 : decode cX6_at 18 = .ok (.goto 20, 3) := by decide +kernel
theorem dX6_at_21 : decode cX6_at 21 = .ok (.aload_n 0, 1) := by decide +kernel
theorem dX6_at_22 : decode cX6_at 22 = .ok (.getfield 9, 3) := by decide +kernel
theorem dX6_at_25 : decode cX6_at 25 = .ok (.iload_n 1, 1) := by decide +kernel
theorem dX6_at_26 : decode cX6_at 26 = .ok (.sipush 256, 3) := by decide +kernel
theorem dX6_at_29 : decode cX6_at 29 = .ok (.imul, 1) := by decide +kernel
theorem dX6_at_30 : decode cX6_at 30 = .ok (.lload_n 2, 1) := by decide +kernel
theorem dX6_at_31 : decode cX6_at 31 = .ok (.l2i, 1) := by decide +kernel
theorem dX6_at_32 : decode cX6_at 32 = .ok (.iadd, 1) := by decide +kernel
theorem dX6_at_33 : decode cX6_at 33 = .ok (.baload, 1) := by decide +kernel
theorem dX6_at_34 : decode cX6_at 34 = .ok (.sipush 255, 3) := by decide +kernel
theorem dX6_at_37 : decode cX6_at 37 = .ok (.iand, 1) := by decide +kernel
theorem dX6_at_38 : decode cX6_at 38 = .ok (.ireturn, 1) := by decide +kernel
theorem dX6_eightFrom_0 : decode cX6_eightFrom 0 = .ok (.aload_n 0, 1) := by decide +kernel
theorem dX6_eightFrom_1 : decode cX6_eightFrom 1 = .ok (.iload_n 1, 1) := by decide +kernel
theorem dX6_eightFrom_2 : decode cX6_eightFrom 2 = .ok (.iload_n 2, 1) := by decide +kernel
theorem dX6_eightFrom_3 : decode cX6_eightFrom 3 = .ok (.i2l, 1) := by decide +kernel
theorem dX6_eightFrom_4 : decode cX6_eightFrom 4 = .ok (.invokevirtual 33, 3) := by decide +kernel
theorem dX6_eightFrom_7 : decode cX6_eightFrom 7 = .ok (.ifCond .ge 7, 3) := by decide +kernel
theorem dX6_eightFrom_10 : decode cX6_eightFrom 10 = .ok (.ldc2_w 36, 3) := by decide +kernel
theorem dX6_eightFrom_13 : decode cX6_eightFrom 13 = .ok (.lreturn, 1) := by decide +kernel
theorem dX6_eightFrom_14 : decode cX6_eightFrom 14 = .ok (.lconst 0, 1) := by decide +kernel
theorem dX6_eightFrom_15 : decode cX6_eightFrom 15 = .ok (.lstore_n 3, 1) := by decide +kernel
theorem dX6_eightFrom_16 : decode cX6_eightFrom 16 = .ok (.iconst 0, 1) := by decide +kernel
theorem dX6_eightFrom_17 : decode cX6_eightFrom 17 = .ok (.istore 5, 2) := by decide +kernel
theorem dX6_eightFrom_19 : decode cX6_eightFrom 19 = .ok (.iload 5, 2) := by decide +kernel
theorem dX6_eightFrom_21 : decode cX6_eightFrom 21 = .ok (.bipush 8, 2) := by decide +kernel
theorem dX6_eightFrom_23 : decode cX6_eightFrom 23 = .ok (.if_icmp .ge 40, 3) := by decide +kernel
theorem dX6_eightFrom_26 : decode cX6_eightFrom 26 = .ok (.aload_n 0, 1) := by decide +kernel
theorem dX6_eightFrom_27 : decode cX6_eightFrom 27 = .ok (.iload_n 1, 1) := by decide +kernel
theorem dX6_eightFrom_28 : decode cX6_eightFrom 28 = .ok (.iload_n 2, 1) := by decide +kernel
theorem dX6_eightFrom_29 : decode cX6_eightFrom 29 = .ok (.i2l, 1) := by decide +kernel
theorem dX6_eightFrom_30 : decode cX6_eightFrom 30 = .ok (.iload 5, 2) := by decide +kernel
theorem dX6_eightFrom_32 : decode cX6_eightFrom 32 = .ok (.i2l, 1) := by decide +kernel
theorem dX6_eightFrom_33 : decode cX6_eightFrom 33 = .ok (.ladd, 1) := by decide +kernel
theorem dX6_eightFrom_34 : decode cX6_eightFrom 34 = .ok (.invokevirtual 33, 3) := by decide +kernel
theorem dX6_eightFrom_37 : decode cX6_eightFrom 37 = .ok (.istore 6, 2) := by decide +kernel
theorem dX6_eightFrom_39 : decode cX6_eightFrom 39 = .ok (.lload_n 3, 1) := by decide +kernel
theorem dX6_eightFrom_40 : decode cX6_eightFrom 40 = .ok (.bipush 8, 2) := by decide +kernel
theorem dX6_eightFrom_42 : decode cX6_eightFrom 42 = .ok (.lshl, 1) := by decide +kernel
theorem dX6_eightFrom_43 : decode cX6_eightFrom 43 = .ok (.iload 6, 2) := by decide +kernel
theorem dX6_eightFrom_45 : decode cX6_eightFrom 45 = .ok (.ifCond .ge 7, 3) := by decide +kernel
theorem dX6_eightFrom_48 : decode cX6_eightFrom 48 = .ok (.iconst 0, 1) := by decide +kernel
theorem dX6_eightFrom_49 : decode cX6_eightFrom 49 = .ok (.goto 5, 3) := by decide +kernel
theorem dX6_eightFrom_52 : decode cX6_eightFrom 52 = .ok (.iload 6, 2) := by decide +kernel
theorem dX6_eightFrom_54 : decode cX6_eightFrom 54 = .ok (.i2l, 1) := by decide +kernel
theorem dX6_eightFrom_55 : decode cX6_eightFrom 55 = .ok (.lor, 1) := by decide +kernel
theorem dX6_eightFrom_56 : decode cX6_eightFrom 56 = .ok (.lstore_n 3, 1) := by decide +kernel
theorem dX6_eightFrom_57 : decode cX6_eightFrom 57 = .ok (.iinc 5 1, 3) := by decide +kernel
theorem dX6_eightFrom_60 : decode cX6_eightFrom 60 = .ok (.goto (-41), 3) := by decide +kernel
theorem dX6_eightFrom_63 : decode cX6_eightFrom 63 = .ok (.lload_n 3, 1) := by decide +kernel
theorem dX6_eightFrom_64 : decode cX6_eightFrom 64 = .ok (.lreturn, 1) := by decide +kernel
theorem dX7_init_0 : decode cX7_init 0 = .ok (.aload_n 0, 1) := by decide +kernel
theorem dX7_init_1 : decode cX7_init 1 = .ok (.invokespecial 3, 3) := by decide +kernel
theorem dX7_init_4 : decode cX7_init 4 = .ok (.aload_n 0, 1) := by decide +kernel
theorem dX7_init_5 : decode cX7_init 5 = .ok (.sipush 4000, 3) := by decide +kernel
theorem dX7_init_8 : decode cX7_init 8 = .ok (.newarray .long, 2) := by decide +kernel
theorem dX7_init_10 : decode cX7_init 10 = .ok (.putfield 11, 3) := by decide +kernel
theorem dX7_init_13 : decode cX7_init 13 = .ok (.return_, 1) := by decide +kernel
theorem dX7_takeTape_0 : decode cX7_takeTape 0 = .ok (.aload_n 1, 1) := by decide +kernel
theorem dX7_takeTape_1 : decode cX7_takeTape 1 = .ok (.getfield 15, 3) := by decide +kernel
theorem dX7_takeTape_4 : decode cX7_takeTape 4 = .ok (.ifCond .eq 13, 3) := by decide +kernel
theorem dX7_takeTape_7 : decode cX7_takeTape 7 = .ok (.aload_n 1, 1) := by decide +kernel
theorem dX7_takeTape_8 : decode cX7_takeTape 8 = .ok (.getfield 15, 3) := by decide +kernel
theorem dX7_takeTape_11 : decode cX7_takeTape 11 = .ok (.bipush 8, 2) := by decide +kernel
theorem dX7_takeTape_13 : decode cX7_takeTape 13 = .ok (.irem, 1) := by decide +kernel
theorem dX7_takeTape_14 : decode cX7_takeTape 14 = .ok (.ifCond .eq 5, 3) := by decide +kernel
theorem dX7_takeTape_17 : decode cX7_takeTape 17 = .ok (.iconst (-1), 1) := by decide +kernel
theorem dX7_takeTape_18 : decode cX7_takeTape 18 = .ok (.ireturn, 1) := by decide +kernel
theorem dX7_takeTape_19 : decode cX7_takeTape 19 = .ok (.aload_n 0, 1) := by decide +kernel
theorem dX7_takeTape_20 : decode cX7_takeTape 20 = .ok (.aload_n 1, 1) := by decide +kernel
theorem dX7_takeTape_21 : decode cX7_takeTape 21 = .ok (.getfield 15, 3) := by decide +kernel
theorem dX7_takeTape_24 : decode cX7_takeTape 24 = .ok (.bipush 8, 2) := by decide +kernel
theorem dX7_takeTape_26 : decode cX7_takeTape 26 = .ok (.idiv, 1) := by decide +kernel
theorem dX7_takeTape_27 : decode cX7_takeTape 27 = .ok (.putfield 21, 3) := by decide +kernel
theorem dX7_takeTape_30 : decode cX7_takeTape 30 = .ok (.iconst 0, 1) := by decide +kernel
theorem dX7_takeTape_31 : decode cX7_takeTape 31 = .ok (.istore_n 2, 1) := by decide +kernel
theorem dX7_takeTape_32 : decode cX7_takeTape 32 = .ok (.iload_n 2, 1) := by decide +kernel
theorem dX7_takeTape_33 : decode cX7_takeTape 33 = .ok (.aload_n 0, 1) := by decide +kernel
theorem dX7_takeTape_34 : decode cX7_takeTape 34 = .ok (.getfield 21, 3) := by decide +kernel
theorem dX7_takeTape_37 : decode cX7_takeTape 37 = .ok (.if_icmp .ge 25, 3) := by decide +kernel
theorem dX7_takeTape_40 : decode cX7_takeTape 40 = .ok (.aload_n 0, 1) := by decide +kernel
theorem dX7_takeTape_41 : decode cX7_takeTape 41 = .ok (.getfield 11, 3) := by decide +kernel
theorem dX7_takeTape_44 : decode cX7_takeTape 44 = .ok (.iload_n 2, 1) := by decide +kernel
theorem dX7_takeTape_45 : decode cX7_takeTape 45 = .ok (.aload_n 1, 1) := by decide +kernel
theorem dX7_takeTape_46 : decode cX7_takeTape 46 = .ok (.bipush 8, 2) := by decide +kernel
theorem dX7_takeTape_48 : decode cX7_takeTape 48 = .ok (.iload_n 2, 1) := by decide +kernel
theorem dX7_takeTape_49 : decode cX7_takeTape 49 = .ok (.imul, 1) := by decide +kernel
theorem dX7_takeTape_50 : decode cX7_takeTape 50 = .ok (.bipush 8, 2) := by decide +kernel
theorem dX7_takeTape_52 : decode cX7_takeTape 52 = .ok (.invokevirtual 22, 3) := by decide +kernel
theorem dX7_takeTape_55 : decode cX7_takeTape 55 = .ok (.lastore, 1) := by decide +kernel
theorem dX7_takeTape_56 : decode cX7_takeTape 56 = .ok (.iinc 2 1, 3) := by decide +kernel
theorem dX7_takeTape_59 : decode cX7_takeTape 59 = .ok (.goto (-27), 3) := by decide +kernel
theorem dX7_takeTape_62 : decode cX7_takeTape 62 = .ok (.aload_n 0, 1) := by decide +kernel
theorem dX7_takeTape_63 : decode cX7_takeTape 63 = .ok (.getfield 21, 3) := by decide +kernel
theorem dX7_takeTape_66 : decode cX7_takeTape 66 = .ok (.ireturn, 1) := by decide +kernel
theorem dX7_at_0 : decode cX7_at 0 = .ok (.iload_n 1, 1) := by decide +kernel
theorem dX7_at_1 : decode cX7_at 1 = .ok (.ifCond .lt 11, 3) := by decide +kernel
theorem dX7_at_4 : decode cX7_at 4 = .ok (.iload_n 1, 1) := by decide +kernel
theorem dX7_at_5 : decode cX7_at 5 = .ok (.aload_n 0, 1) := by decide +kernel
theorem dX7_at_6 : decode cX7_at 6 = .ok (.getfield 21, 3) := by decide +kernel
theorem dX7_at_9 : decode cX7_at 9 = .ok (.if_icmp .lt 7, 3) := by decide +kernel
theorem dX7_at_12 : decode cX7_at 12 = .ok (.lconst 0, 1) := by decide +kernel
theorem dX7_at_13 : decode cX7_at 13 = .ok (.goto 9, 3) := by decide +kernel
theorem dX7_at_16 : decode cX7_at 16 = .ok (.aload_n 0, 1) := by decide +kernel
theorem dX7_at_17 : decode cX7_at 17 = .ok (.getfield 11, 3) := by decide +kernel
theorem dX7_at_20 : decode cX7_at 20 = .ok (.iload_n 1, 1) := by decide +kernel
theorem dX7_at_21 : decode cX7_at 21 = .ok (.laload, 1) := by decide +kernel
theorem dX7_at_22 : decode cX7_at 22 = .ok (.lreturn, 1) := by decide +kernel
theorem dX8_init_0 : decode cX8_init 0 = .ok (.aload_n 0, 1) := by decide +kernel
theorem dX8_init_1 : decode cX8_init 1 = .ok (.invokespecial 3, 3) := by decide +kernel
theorem dX8_init_4 : decode cX8_init 4 = .ok (.aload_n 0, 1) := by decide +kernel
theorem dX8_init_5 : decode cX8_init 5 = .ok (.aload_n 1, 1) := by decide +kernel
theorem dX8_init_6 : decode cX8_init 6 = .ok (.putfield 9, 3) := by decide +kernel
theorem dX8_init_9 : decode cX8_init 9 = .ok (.aload_n 0, 1) := by decide +kernel
theorem dX8_init_10 : decode cX8_init 10 = .ok (.aload_n 2, 1) := by decide +kernel
theorem dX8_init_11 : decode cX8_init 11 = .ok (.putfield 15, 3) := by decide +kernel
theorem dX8_init_14 : decode cX8_init 14 = .ok (.return_, 1) := by decide +kernel
theorem dX9_init_0 : decode cX9_init 0 = .ok (.aload_n 0, 1) := by decide +kernel
theorem dX9_init_1 : decode cX9_init 1 = .ok (.invokespecial 1, 3) := by decide +kernel
theorem dX9_init_4 : decode cX9_init 4 = .ok (.aload_n 0, 1) := by decide +kernel
theorem dX9_init_5 : decode cX9_init 5 = .ok (.sipush 2000, 3) := by decide +kernel
theorem dX9_init_8 : decode cX9_init 8 = .ok (.newarray .byte, 2) := by decide +kernel
theorem dX9_init_10 : decode cX9_init 10 = .ok (.putfield 9, 3) := by decide +kernel
theorem dX9_init_13 : decode cX9_init 13 = .ok (.return_, 1) := by decide +kernel
theorem dX9_hasRoom_0 : decode cX9_hasRoom 0 = .ok (.aload_n 0, 1) := by decide +kernel
theorem dX9_hasRoom_1 : decode cX9_hasRoom 1 = .ok (.getfield 13, 3) := by decide +kernel
theorem dX9_hasRoom_4 : decode cX9_hasRoom 4 = .ok (.iload_n 1, 1) := by decide +kernel
theorem dX9_hasRoom_5 : decode cX9_hasRoom 5 = .ok (.iadd, 1) := by decide +kernel
theorem dX9_hasRoom_6 : decode cX9_hasRoom 6 = .ok (.sipush 2000, 3) := by decide +kernel
theorem dX9_hasRoom_9 : decode cX9_hasRoom 9 = .ok (.if_icmp .gt 7, 3) := by decide +kernel
theorem dX9_hasRoom_12 : decode cX9_hasRoom 12 = .ok (.iconst 1, 1) := by decide +kernel
theorem dX9_hasRoom_13 : decode cX9_hasRoom 13 = .ok (.goto 4, 3) := by decide +kernel
theorem dX9_hasRoom_16 : decode cX9_hasRoom 16 = .ok (.iconst 0, 1) := by decide +kernel
theorem dX9_hasRoom_17 : decode cX9_hasRoom 17 = .ok (.ireturn, 1) := by decide +kernel
theorem dX9_put_0 : decode cX9_put 0 = .ok (.aload_n 0, 1) := by decide +kernel
theorem dX9_put_1 : decode cX9_put 1 = .ok (.iconst 4, 1) := by decide +kernel
theorem dX9_put_2 : decode cX9_put 2 = .ok (.invokevirtual 17, 3) := by decide +kernel
theorem dX9_put_5 : decode cX9_put 5 = .ok (.ifCond .ne 4, 3) := by decide +kernel
theorem dX9_put_8 : decode cX9_put 8 = .ok (.return_, 1) := by decide +kernel
theorem dX9_put_9 : decode cX9_put 9 = .ok (.bipush 24, 2) := by decide +kernel
theorem dX9_put_11 : decode cX9_put 11 = .ok (.istore_n 2, 1) := by decide +kernel
theorem dX9_put_12 : decode cX9_put 12 = .ok (.iload_n 2, 1) := by decide +kernel
theorem dX9_put_13 : decode cX9_put 13 = .ok (.ifCond .lt 32, 3) := by decide +kernel
theorem dX9_put_16 : decode cX9_put 16 = .ok (.aload_n 0, 1) := by decide +kernel
theorem dX9_put_17 : decode cX9_put 17 = .ok (.getfield 9, 3) := by decide +kernel
theorem dX9_put_20 : decode cX9_put 20 = .ok (.aload_n 0, 1) := by decide +kernel
theorem dX9_put_21 : decode cX9_put 21 = .ok (.getfield 13, 3) := by decide +kernel
theorem dX9_put_24 : decode cX9_put 24 = .ok (.iload_n 1, 1) := by decide +kernel
theorem dX9_put_25 : decode cX9_put 25 = .ok (.iload_n 2, 1) := by decide +kernel
theorem dX9_put_26 : decode cX9_put 26 = .ok (.ishr, 1) := by decide +kernel
theorem dX9_put_27 : decode cX9_put 27 = .ok (.i2b, 1) := by decide +kernel
theorem dX9_put_28 : decode cX9_put 28 = .ok (.bastore, 1) := by decide +kernel
theorem dX9_put_29 : decode cX9_put 29 = .ok (.aload_n 0, 1) := by decide +kernel
theorem dX9_put_30 : decode cX9_put 30 = .ok (.dup, 1) := by decide +kernel
theorem dX9_put_31 : decode cX9_put 31 = .ok (.getfield 13, 3) := by decide +kernel
theorem dX9_put_34 : decode cX9_put 34 = .ok (.iconst 1, 1) := by decide +kernel
theorem dX9_put_35 : decode cX9_put 35 = .ok (.iadd, 1) := by decide +kernel
theorem dX9_put_36 : decode cX9_put 36 = .ok (.putfield 13, 3) := by decide +kernel
theorem dX9_put_39 : decode cX9_put 39 = .ok (.iinc 2 (-8), 3) := by decide +kernel
theorem dX9_put_42 : decode cX9_put 42 = .ok (.goto (-30), 3) := by decide +kernel
theorem dX9_put_45 : decode cX9_put 45 = .ok (.return_, 1) := by decide +kernel
theorem dX9_at_0 : decode cX9_at 0 = .ok (.iload_n 1, 1) := by decide +kernel
theorem dX9_at_1 : decode cX9_at 1 = .ok (.ifCond .lt 18, 3) := by decide +kernel
theorem dX9_at_4 : decode cX9_at 4 = .ok (.iload_n 1, 1) := by decide +kernel
theorem dX9_at_5 : decode cX9_at 5 = .ok (.aload_n 0, 1) := by decide +kernel
theorem dX9_at_6 : decode cX9_at 6 = .ok (.getfield 13, 3) := by decide +kernel
theorem dX9_at_9 : decode cX9_at 9 = .ok (.if_icmp .ge 10, 3) := by decide +kernel
theorem dX9_at_12 : decode cX9_at 12 = .ok (.iload_n 1, 1) := by decide +kernel
theorem dX9_at_13 : decode cX9_at 13 = .ok (.sipush 2000, 3) := by decide +kernel
theorem dX9_at_16 : decode cX9_at 16 = .ok (.if_icmp .lt 7, 3) := by decide +kernel
theorem dX9_at_19 : decode cX9_at 19 = .ok (.iconst (-1), 1) := by decide +kernel
theorem dX9_at_20 : decode cX9_at 20 = .ok (.goto 13, 3) := by decide +kernel
theorem dX9_at_23 : decode cX9_at 23 = .ok (.aload_n 0, 1) := by decide +kernel
theorem dX9_at_24 : decode cX9_at 24 = .ok (.getfield 9, 3) := by decide +kernel
theorem dX9_at_27 : decode cX9_at 27 = .ok (.iload_n 1, 1) := by decide +kernel
theorem dX9_at_28 : decode cX9_at 28 = .ok (.baload, 1) := by decide +kernel
theorem dX9_at_29 : decode cX9_at 29 = .ok (.sipush 255, 3) := by decide +kernel
theorem dX9_at_32 : decode cX9_at 32 = .ok (.iand, 1) := by decide +kernel
theorem dX9_at_33 : decode cX9_at 33 = .ok (.ireturn, 1) := by decide +kernel
theorem dX10_init_0 : decode cX10_init 0 = .ok (.aload_n 0, 1) := by decide +kernel
theorem dX10_init_1 : decode cX10_init 1 = .ok (.invokespecial 3, 3) := by decide +kernel
theorem dX10_init_4 : decode cX10_init 4 = .ok (.aload_n 0, 1) := by decide +kernel
theorem dX10_init_5 : decode cX10_init 5 = .ok (.sipush 4001, 3) := by decide +kernel
theorem dX10_init_8 : decode cX10_init 8 = .ok (.newarray .int, 2) := by decide +kernel
theorem dX10_init_10 : decode cX10_init 10 = .ok (.putfield 11, 3) := by decide +kernel
theorem dX10_init_13 : decode cX10_init 13 = .ok (.aload_n 0, 1) := by decide +kernel
theorem dX10_init_14 : decode cX10_init 14 = .ok (.aload_n 1, 1) := by decide +kernel
theorem dX10_init_15 : decode cX10_init 15 = .ok (.putfield 17, 3) := by decide +kernel
theorem dX10_init_18 : decode cX10_init 18 = .ok (.aload_n 0, 1) := by decide +kernel
theorem dX10_init_19 : decode cX10_init 19 = .ok (.aload_n 2, 1) := by decide +kernel
theorem dX10_init_20 : decode cX10_init 20 = .ok (.putfield 21, 3) := by decide +kernel
theorem dX10_init_23 : decode cX10_init 23 = .ok (.return_, 1) := by decide +kernel
theorem dX11_init_0 : decode cX11_init 0 = .ok (.aload_n 0, 1) := by decide +kernel
theorem dX11_init_1 : decode cX11_init 1 = .ok (.invokespecial 1, 3) := by decide +kernel
theorem dX11_init_4 : decode cX11_init 4 = .ok (.aload_n 0, 1) := by decide +kernel
theorem dX11_init_5 : decode cX11_init 5 = .ok (.new 7, 3) := by decide +kernel
theorem dX11_init_8 : decode cX11_init 8 = .ok (.dup, 1) := by decide +kernel
theorem dX11_init_9 : decode cX11_init 9 = .ok (.invokespecial 9, 3) := by decide +kernel
theorem dX11_init_12 : decode cX11_init 12 = .ok (.putfield 10, 3) := by decide +kernel
theorem dX11_init_15 : decode cX11_init 15 = .ok (.aload_n 0, 1) := by decide +kernel
theorem dX11_init_16 : decode cX11_init 16 = .ok (.new 16, 3) := by decide +kernel
theorem dX11_init_19 : decode cX11_init 19 = .ok (.dup, 1) := by decide +kernel
theorem dX11_init_20 : decode cX11_init 20 = .ok (.invokespecial 18, 3) := by decide +kernel
theorem dX11_init_23 : decode cX11_init 23 = .ok (.putfield 19, 3) := by decide +kernel
theorem dX11_init_26 : decode cX11_init 26 = .ok (.aload_n 0, 1) := by decide +kernel
theorem dX11_init_27 : decode cX11_init 27 = .ok (.new 23, 3) := by decide +kernel
theorem dX11_init_30 : decode cX11_init 30 = .ok (.dup, 1) := by decide +kernel
theorem dX11_init_31 : decode cX11_init 31 = .ok (.aload_n 0, 1) := by decide +kernel
theorem dX11_init_32 : decode cX11_init 32 = .ok (.getfield 19, 3) := by decide +kernel
theorem dX11_init_35 : decode cX11_init 35 = .ok (.invokespecial 25, 3) := by decide +kernel
theorem dX11_init_38 : decode cX11_init 38 = .ok (.putfield 28, 3) := by decide +kernel
theorem dX11_init_41 : decode cX11_init 41 = .ok (.aload_n 0, 1) := by decide +kernel
theorem dX11_init_42 : decode cX11_init 42 = .ok (.new 32, 3) := by decide +kernel
theorem dX11_init_45 : decode cX11_init 45 = .ok (.dup, 1) := by decide +kernel
theorem dX11_init_46 : decode cX11_init 46 = .ok (.invokespecial 34, 3) := by decide +kernel
theorem dX11_init_49 : decode cX11_init 49 = .ok (.putfield 35, 3) := by decide +kernel
theorem dX11_init_52 : decode cX11_init 52 = .ok (.aload_n 0, 1) := by decide +kernel
theorem dX11_init_53 : decode cX11_init 53 = .ok (.new 39, 3) := by decide +kernel
theorem dX11_init_56 : decode cX11_init 56 = .ok (.dup, 1) := by decide +kernel
theorem dX11_init_57 : decode cX11_init 57 = .ok (.invokespecial 41, 3) := by decide +kernel
theorem dX11_init_60 : decode cX11_init 60 = .ok (.putfield 42, 3) := by decide +kernel
theorem dX11_init_63 : decode cX11_init 63 = .ok (.aload_n 0, 1) := by decide +kernel
theorem dX11_init_64 : decode cX11_init 64 = .ok (.new 39, 3) := by decide +kernel
theorem dX11_init_67 : decode cX11_init 67 = .ok (.dup, 1) := by decide +kernel
theorem dX11_init_68 : decode cX11_init 68 = .ok (.invokespecial 41, 3) := by decide +kernel
theorem dX11_init_71 : decode cX11_init 71 = .ok (.putfield 46, 3) := by decide +kernel
theorem dX11_init_74 : decode cX11_init 74 = .ok (.aload_n 0, 1) := by decide +kernel
theorem dX11_init_75 : decode cX11_init 75 = .ok (.new 49, 3) := by decide +kernel
theorem dX11_init_78 : decode cX11_init 78 = .ok (.dup, 1) := by decide +kernel
theorem dX11_init_79 : decode cX11_init 79 = .ok (.invokespecial 51, 3) := by decide +kernel
theorem dX11_init_82 : decode cX11_init 82 = .ok (.putfield 52, 3) := by decide +kernel
theorem dX11_init_85 : decode cX11_init 85 = .ok (.aload_n 0, 1) := by decide +kernel
theorem dX11_init_86 : decode cX11_init 86 = .ok (.new 49, 3) := by decide +kernel
theorem dX11_init_89 : decode cX11_init 89 = .ok (.dup, 1) := by decide +kernel
theorem dX11_init_90 : decode cX11_init 90 = .ok (.invokespecial 51, 3) := by decide +kernel
theorem dX11_init_93 : decode cX11_init 93 = .ok (.putfield 56, 3) := by decide +kernel
theorem dX11_init_96 : decode cX11_init 96 = .ok (.aload_n 0, 1) := by decide +kernel
theorem dX11_init_97 : decode cX11_init 97 = .ok (.new 59, 3) := by decide +kernel
theorem dX11_init_100 : decode cX11_init 100 = .ok (.dup, 1) := by decide +kernel
theorem dX11_init_101 : decode cX11_init 101 = .ok (.aload_n 0, 1) := by decide +kernel
theorem dX11_init_102 : decode cX11_init 102 = .ok (.getfield 10, 3) := by decide +kernel
theorem dX11_init_105 : decode cX11_init 105 = .ok (.aload_n 0, 1) := by decide +kernel
theorem dX11_init_106 : decode cX11_init 106 = .ok (.getfield 46, 3) := by decide +kernel
theorem dX11_init_109 : decode cX11_init 109 = .ok (.invokespecial 61, 3) := by decide +kernel
theorem dX11_init_112 : decode cX11_init 112 = .ok (.putfield 64, 3) := by decide +kernel
theorem dX11_init_115 : decode cX11_init 115 = .ok (.aload_n 0, 1) := by decide +kernel
theorem dX11_init_116 : decode cX11_init 116 = .ok (.new 68, 3) := by decide +kernel
theorem dX11_init_119 : decode cX11_init 119 = .ok (.dup, 1) := by decide +kernel
theorem dX11_init_120 : decode cX11_init 120 = .ok (.aload_n 0, 1) := by decide +kernel
theorem dX11_init_121 : decode cX11_init 121 = .ok (.getfield 46, 3) := by decide +kernel
theorem dX11_init_124 : decode cX11_init 124 = .ok (.aload_n 0, 1) := by decide +kernel
theorem dX11_init_125 : decode cX11_init 125 = .ok (.getfield 56, 3) := by decide +kernel
theorem dX11_init_128 : decode cX11_init 128 = .ok (.invokespecial 70, 3) := by decide +kernel
theorem dX11_init_131 : decode cX11_init 131 = .ok (.putfield 73, 3) := by decide +kernel
theorem dX11_init_134 : decode cX11_init 134 = .ok (.aload_n 0, 1) := by decide +kernel
theorem dX11_init_135 : decode cX11_init 135 = .ok (.new 77, 3) := by decide +kernel
theorem dX11_init_138 : decode cX11_init 138 = .ok (.dup, 1) := by decide +kernel
theorem dX11_init_139 : decode cX11_init 139 = .ok (.aload_n 0, 1) := by decide +kernel
theorem dX11_init_140 : decode cX11_init 140 = .ok (.getfield 52, 3) := by decide +kernel
theorem dX11_init_143 : decode cX11_init 143 = .ok (.aload_n 0, 1) := by decide +kernel
theorem dX11_init_144 : decode cX11_init 144 = .ok (.getfield 35, 3) := by decide +kernel
theorem dX11_init_147 : decode cX11_init 147 = .ok (.invokespecial 79, 3) := by decide +kernel
theorem dX11_init_150 : decode cX11_init 150 = .ok (.putfield 82, 3) := by decide +kernel
theorem dX11_init_153 : decode cX11_init 153 = .ok (.aload_n 0, 1) := by decide +kernel
theorem dX11_init_154 : decode cX11_init 154 = .ok (.new 86, 3) := by decide +kernel
theorem dX11_init_157 : decode cX11_init 157 = .ok (.dup, 1) := by decide +kernel
theorem dX11_init_158 : decode cX11_init 158 = .ok (.aload_n 0, 1) := by decide +kernel
theorem dX11_init_159 : decode cX11_init 159 = .ok (.getfield 52, 3) := by decide +kernel
theorem dX11_init_162 : decode cX11_init 162 = .ok (.invokespecial 88, 3) := by decide +kernel
theorem dX11_init_165 : decode cX11_init 165 = .ok (.putfield 91, 3) := by decide +kernel
theorem dX11_init_168 : decode cX11_init 168 = .ok (.aload_n 0, 1) := by decide +kernel
theorem dX11_init_169 : decode cX11_init 169 = .ok (.new 86, 3) := by decide +kernel
theorem dX11_init_172 : decode cX11_init 172 = .ok (.dup, 1) := by decide +kernel
theorem dX11_init_173 : decode cX11_init 173 = .ok (.aload_n 0, 1) := by decide +kernel
theorem dX11_init_174 : decode cX11_init 174 = .ok (.getfield 52, 3) := by decide +kernel
theorem dX11_init_177 : decode cX11_init 177 = .ok (.invokespecial 88, 3) := by decide +kernel
theorem dX11_init_180 : decode cX11_init 180 = .ok (.putfield 95, 3) := by decide +kernel
theorem dX11_init_183 : decode cX11_init 183 = .ok (.return_, 1) := by decide +kernel
end
section
/-! ===== BEGIN words of one list among another's, by their places ===== -/
theorem goodIn_r {big : List Cond} (ws : List Cond) (ps : List Nat) (hp : ws = ps.filterMap (fun i => big[i]?)) (h : ws.all goodWord = true) : GoodIn big ws := by
  intro w hw
  have h1 := List.all_eq_true.mp h w hw
  rw [hp] at hw
  obtain ⟨i, -, hi⟩ := List.mem_filterMap.mp hw
  have hm : w ∈ big := by first | exact List.mem_of_getElem? hi | exact List.getElem?_mem hi
  exact ⟨hm, good_of_word h1⟩
theorem goodIn_app {big a b : List Cond} (ha : GoodIn big a) (hb : GoodIn big b) : GoodIn big (a ++ b) := fun w h => (List.mem_append.mp h).elim (ha w) (hb w)
theorem goodIn_ca {big a b : List Cond} {c : Cond} (ha : GoodIn big (c :: a)) (hb : GoodIn big b) : GoodIn big (c :: (a ++ b)) := fun w h => (List.mem_cons.mp h).elim (fun e => ha w (List.mem_cons.mpr (Or.inl e))) (fun h => (List.mem_append.mp h).elim (fun h => ha w (List.mem_cons.mpr (Or.inr h))) (hb w))
theorem goodIn_sub {big ws : List Cond} (hm : ∀ w ∈ ws, w ∈ big) (h : ws.all goodWord = true) : GoodIn big ws := fun w hw => ⟨hm w hw, good_of_word (List.all_eq_true.mp h w hw)⟩
/-! ===== END ===== -/
/-! the words of the tables as one premise; worlds over one list of classes and of array classes; calls and ends in few rows -/
def okW (w : Cond) : Bool := goodWord w || (w.onTables && w.keepsH)
def nwOK (U : State) : Prop := (∀ w ∈ lw_tbl, okW w = true → w.before #[] U = true) ∧ (∀ (own : String) (k : Nat) (tx : String), Cond.stringRef own k tx ∈ tables_1 → ∃ a : Nat, vk_R own k tx a U) ∧ va_AO "FilterForge$Fact" U ∧ va_AO "FilterForgeModel$Filter" U ∧ va_AO "FilterForgeModel$Sum" U
theorem okW_at {args a' : Array Value} {s U : State} (hW : s.WarmedH U.vm) {w : Cond} (ho : okW w = true) (h : w.before args s = true) : w.before a' U = true := by
  rcases (Bool.or_eq_true _ _).mp ho with h1 | h1
  · exact word_at hW (good_of_word h1) h
  · have h2 := (Bool.and_eq_true _ _).mp h1
    have h3 := Cond.onTables_warmH (args' := a') (T := U) hW h2.1 h2.2 h
    rwa [State.setVm_self] at h3
theorem nwOK.warm {s U : State} (hW : s.WarmedH U.vm) (h : nwOK s) : nwOK U := ⟨fun w hm ho => okW_at hW ho (h.1 w hm ho), fun own k tx hm => by
  obtain ⟨a, ha⟩ := h.2.1 own k tx hm
  exact ⟨a, vk_R.warm hW ha⟩, h.2.2.1.moved hW.alike, h.2.2.2.1.moved hW.alike, h.2.2.2.2.moved hW.alike⟩
theorem nwOK.same {u U : State} (hv : U.vm = u.vm) (h : nwOK u) : nwOK U := h.warm (by rw [hv]; exact State.WarmedH.refl u)
theorem nwOK.get {s : State} (h : nwOK s) {args : Array Value} {w : Cond} (hm : w ∈ lw_tbl) (ho : okW w = true) : w.before args s = true := okW_at (State.WarmedH.refl s) ho (h.1 w hm ho)
abbrev TY (ct : Nat → ClassId) : List (ClassId × FieldType) := [(ct 0, .byte), (ct 1, .int), (ct 2, .long), (ct 3, .boolean), (ct 4, .object "FilterForge$Fact"), (ct 5, .object "FilterForgeModel$Filter"), (ct 6, .object "FilterForgeModel$Sum")]
def PreC (D : va_G) (ct : Nat → ClassId) (ws : va_W) (sz : Nat) (U : State) : Prop := U.heap.size = sz ∧ va_P D vwCl ws U.heap ∧ va_K D vwCl (TY ct) U ∧ va_D (fun _ => True) ws ∧ nwOK U
def PoC {S : Type} (D : va_G) (A : Nat → Prop) (w1 : S → va_W) : S → State → Prop := fun u t => va_P D vwCl (w1 u) t.heap ∧ va_D A (w1 u)
theorem blindC {av : List Value} {D : va_G} {ct : Nat → ClassId} {wc : va_W} {sz : Nat} : FrameBlind (va_Pc av (PreC D ct wc sz)) := fun a U g mk q => by
  obtain ⟨q0, q1, q2, q3, q4, q5⟩ := q
  exact ⟨q0, q1, q2, va_K.moved (u := U) (U := U.calling g mk a) (Vm.Alike.refl U.vm) q3, q4, nwOK.same (u := U) rfl q5⟩
theorem preC_of {s : State} {H : Heap} {av : List Value} {D : va_G} {ct : Nat → ClassId} {wc : va_W} {A : Nat → Prop} (hP : va_P D vwCl wc H) (hK : va_K D vwCl (TY ct) s) (hD : va_D A wc) (hn : nwOK s) : ∀ U : State, U.heap = H → s.WarmedH U.vm → va_Pc av (PreC D ct wc H.size) av.toArray U := fun U hU hW =>
  ⟨rfl, by rw [hU], by rw [hU]; exact hP, va_K.moved hW.alike hK, hD.weaken (fun _ _ _ _ => trivial), hn.warm hW⟩
/-- contracts: of void, int, long, a reference -/
abbrev KV {S : Type} (l : Launch) (y : MethodName) (b : ByteArray) (nL : Nat) (ret : Option FieldType) (fr lo : Nat) (D : va_G) (ct : Nat → ClassId) (av : List Value) (wc : va_W) (mc ms : Nat) (post : S → Prop) (w1 : S → va_W) : Prop :=
  ∀ sz : Nat, Met l y [Cond.code y b nL ret] ({ frames := fr, cells := mc, slots := ms, locals := lo }) (va_Pc av (PreC D ct wc sz)) (va_Qv post (PoC D (va_A wc sz) w1) (va_A wc sz)) mc ms (va_A wc sz)
abbrev KI {S : Type} (l : Launch) (y : MethodName) (b : ByteArray) (nL : Nat) (ret : Option FieldType) (fr lo : Nat) (D : va_G) (ct : Nat → ClassId) (av : List Value) (wc : va_W) (mc ms : Nat) (post : Int32 → S → Prop) (w1 : S → va_W) : Prop :=
  ∀ sz : Nat, Met l y [Cond.code y b nL ret] ({ frames := fr, cells := mc, slots := ms, locals := lo }) (va_Pc av (PreC D ct wc sz)) (va_Qi post (PoC D (va_A wc sz) w1) (va_A wc sz)) mc ms (va_A wc sz)
abbrev KL {S : Type} (l : Launch) (y : MethodName) (b : ByteArray) (nL : Nat) (ret : Option FieldType) (fr lo : Nat) (D : va_G) (ct : Nat → ClassId) (av : List Value) (wc : va_W) (mc ms : Nat) (post : Int64 → S → Prop) (w1 : S → va_W) : Prop :=
  ∀ sz : Nat, Met l y [Cond.code y b nL ret] ({ frames := fr, cells := mc, slots := ms, locals := lo }) (va_Pc av (PreC D ct wc sz)) (va_Ql post (PoC D (va_A wc sz) w1) (va_A wc sz)) mc ms (va_A wc sz)
/-- what a method's walk begins with -/
def CxB (p : Program) (s : State) (m : MethodId) (meth : Method) (c : Code) (y : MethodName) (b : ByteArray) (nL : Nat) (ret : Option FieldType) (D : va_G) (ct : Nat → ClassId) : Prop :=
  p.tables.exec = Jvm.exec ∧ c.code = b ∧ meth.sig.returnType = ret ∧ s.vm.findClass y.cls = some m.cls ∧ meth.name = y.name ∧ c.maxLocals = nL ∧ meth.locks = false ∧ nwOK s ∧ va_K D vwCl (TY ct) s
theorem K_of {l : Launch} {y : MethodName} {b : ByteArray} {nL : Nat} {ret : Option FieldType} {fr lo mc ms : Nat} {D : va_G} {ct : Nat → ClassId} {av : List Value} {wc : va_W} {Qf : (Nat → Prop) → Array Value → State → Outcome → State → Prop} (sz : Nat) (hy : plainName y.cls = true) (hlen : (lg_sl av).length ≤ nL)
    (body : ∀ (p : Program) (e : Env) (s : State) (m : MethodId) (below : List Frame) (meth : Method) (c : Code) (A : Nat → Prop), CxB p s m meth c y b nL ret D ct → (∀ q, s.heap.size ≤ q → A q) → va_S A s.heap s.heap [] → va_P D vwCl wc s.heap → va_D A wc → ∀ ls : Array Slot, lv_has ls nL (lv_args 0 av) →
      W p l e ({ frames := fr, cells := mc, slots := ms, locals := lo }) s m av.toArray below meth c s.heap [] 0 0 (MQ below (Qf A) av.toArray s mc ms A) (F0 m 0 ls [])) :
    Met l y [Cond.code y b nL ret] ({ frames := fr, cells := mc, slots := ms, locals := lo }) (va_Pc av (PreC D ct wc sz)) (Qf (va_A wc sz)) mc ms (va_A wc sz) := by
  refine Met.ofW (cc := b) (maxL := nL) (ret := ret) hy rfl ?_
  intro p e s m args below meth c s₁ B hml hv
  obtain ⟨rfl, hsz, hP, hK, hD0, hn⟩ := hv
  have hown : s.vm.findClass y.cls = some m.cls := findClass_of_methodNamed B.named
  have hin : meth.name = y.name := (name_of_methodNamed B.named B.method).1
  subst hsz
  have hD := hD0.self (sz := s.heap.size)
  have hl := lv_entry av (n := nL) hlen
  rw [lg_entry_eq]
  exact body p e s m below meth c (va_A wc s.heap.size) ⟨B.exec, B.bytes, B.returns, hown, hin, hml, B.notSynchronized, hn, hK⟩ (fun q h => Or.inr h) va_S.rf hP hD _ hl
section CALLS
variable {p : Program} {l : Launch} {e : Env} {R : Room} {s : State} {m : MethodId} {args : Array Value} {below : List Frame} {meth : Method} {c : Code} {H H0 : Heap} {locs : List Loc} {cells slots : Nat} {Q : State → Prop} {A : Nat → Prop}
variable {D : va_G} {ct : Nat → ClassId} {ws wc wr : va_W} {own : String} {index nL maxL mc ms fr lo n k1 n1 pc : Nat} {y : MethodName} {bytes cc : ByteArray} {ret : Option FieldType} {b : Addr} {As rest : List Value} {ls : Array Slot} {Qc : Array Value → State → Outcome → State → Prop} {free : Addr → Prop}
abbrev okMH (y : MethodName) (n : Nat) : Prop := y.cls ≠ "java/lang/invoke/MethodHandle" ∧ y.cls ≠ "java/lang/invoke/VarHandle" ∧ (parseMethodDescriptor y.desc).map (fun d => d.parameters.length) = some n
theorem cb_of (hn : nwOK s) (hcode : Cond.code y bytes maxL ret ∈ lw_tbl) (hini : Cond.initialized y.cls ∈ lw_tbl) (hl : Cond.methodLink own index y ∈ lw_tbl) (hd : okMH y n) (hR : fr + 1 ≤ R.frames ∧ 8 + (maxL + 11) + lo ≤ R.locals) :
    CallB R s args own index y bytes maxL ret [Cond.code y bytes maxL ret] ({ frames := fr, cells := mc, slots := ms, locals := lo }) mc ms n := by
  refine ⟨rfl, rfl, hR.1, hR.2, fun w hw a' U hW => ?_, List.mem_cons_self, hn.get hcode rfl, hn.get hini rfl, ⟨hd.1, hd.2.1⟩, fun sig h => ?_, hn.get hl rfl⟩
  · have hw' : w = Cond.code y bytes maxL ret := by simpa using hw
    subst hw'
    exact okW_at hW rfl (hn.get (args := args) hcode rfl)
  · have h2 := hd.2.2
    rw [h] at h2
    exact (Option.some.inj h2).symm
theorem cn_of {host : String} (hn : nwOK s) (hcode : Cond.code y bytes maxL ret ∈ lw_tbl) (hini : Cond.initialized y.cls ∈ lw_tbl) (hl : Cond.methodLinkNest own index y host ∈ lw_tbl) (hd : okMH y n) (hR : fr + 1 ≤ R.frames ∧ 8 + (maxL + 11) + lo ≤ R.locals) :
    va_CN R s args own index y host bytes maxL ret [Cond.code y bytes maxL ret] ({ frames := fr, cells := mc, slots := ms, locals := lo }) mc ms n := by
  refine ⟨⟨rfl, rfl, hR.1, hR.2, fun w hw a' U hW => ?_, List.mem_cons_self⟩, hn.get hcode rfl, hn.get hini rfl, ⟨hd.1, hd.2.1⟩, fun sig h => ?_, hn.get hl rfl⟩
  · have hw' : w = Cond.code y bytes maxL ret := by simpa using hw
    subst hw'
    exact okW_at hW rfl (hn.get (args := args) hcode rfl)
  · have h2 := hd.2.2
    rw [h] at h2
    exact (Option.some.inj h2).symm
theorem fix0 (hx : p.tables.exec = Jvm.exec) (hb : c.code = cc) (hml : c.maxLocals = nL) (hown : s.vm.findClass own = some m.cls) : CallFix p m c cc nL s args [] own := ⟨hx, hb, hml, hown, fun _ h => absurd h List.not_mem_nil⟩
/-- a method of the same class, or a public one, by the receiver -/
theorem rn_V (hM : Met l y [Cond.code y bytes maxL ret] ({ frames := fr, cells := mc, slots := ms, locals := lo }) (va_Pc (Value.ref b :: As) (PreC D ct wc H.size)) Qc mc ms free)
    (cb : CallB R s args own index y bytes maxL ret [Cond.code y bytes maxL ret] ({ frames := fr, cells := mc, slots := ms, locals := lo }) mc ms n)
    (hx : p.tables.exec = Jvm.exec) (hb : c.code = cc) (hml : c.maxLocals = nL) (hown : s.vm.findClass own = some m.cls) (hn : nwOK s) (hK : va_K D vwCl (TY ct) s) (hP : va_P D vwCl wc H) (hD : va_D A wc)
    (hinst : Cond.instanceMethod y ∈ lw_tbl) (hsel : Cond.selects y.cls y y ∈ lw_tbl) {ci q0 : Nat} {q : vw_C} {fs : List Value} (hc : vwCl[ci]? = some q) (hq : q.1 = y.cls) (he : wc[q0]? = some (b, .inr (ci, fs)))
    (hln : As.length = n) (hsize : ls.size = nL) (hW : (rest.map fun v => v.category).sum ≤ 8) (hdg : decode cc pc = .ok (.invokevirtual index, 3)) (hf : cells + mc ≤ R.cells ∧ slots + ms ≤ R.slots) :
    va_Run p l e R s m args below meth c H locs cells slots mc ms (F0 m pc ls (As.reverse ++ .ref b :: rest)) rest (Qc (Value.ref b :: As).toArray) free := by
  refine va_runV (C := y.cls) (fix0 hx hb hml hown) hM ⟨cb, hn.get hinst rfl, hn.get hsel rfl⟩ ⟨blindC, ?_, preC_of hP hK hD hn⟩ rfl hln hsize rfl (lv_room hW) hdg hf
  have h := va_recv hK hP hc he
  rw [hq] at h
  exact h
/-- a private method of a nest mate -/
theorem rn_VN {host : String} (hM : Met l y [Cond.code y bytes maxL ret] ({ frames := fr, cells := mc, slots := ms, locals := lo }) (va_Pc (Value.ref b :: As) (PreC D ct wc H.size)) Qc mc ms free)
    (cb : va_CN R s args own index y host bytes maxL ret [Cond.code y bytes maxL ret] ({ frames := fr, cells := mc, slots := ms, locals := lo }) mc ms n)
    (hx : p.tables.exec = Jvm.exec) (hb : c.code = cc) (hml : c.maxLocals = nL) (hown : s.vm.findClass own = some m.cls) (hn : nwOK s) (hK : va_K D vwCl (TY ct) s) (hP : va_P D vwCl wc H) (hD : va_D A wc)
    (hinst : Cond.instanceMethod y ∈ lw_tbl) (hsel : Cond.selects y.cls y y ∈ lw_tbl) {ci q0 : Nat} {q : vw_C} {fs : List Value} (hc : vwCl[ci]? = some q) (hq : q.1 = y.cls) (he : wc[q0]? = some (b, .inr (ci, fs)))
    (hln : As.length = n) (hsize : ls.size = nL) (hW : (rest.map fun v => v.category).sum ≤ 8) (hdg : decode cc pc = .ok (.invokevirtual index, 3)) (hf : cells + mc ≤ R.cells ∧ slots + ms ≤ R.slots) :
    va_Run p l e R s m args below meth c H locs cells slots mc ms (F0 m pc ls (As.reverse ++ .ref b :: rest)) rest (Qc (Value.ref b :: As).toArray) free := by
  refine va_runVN (C := y.cls) (fix0 hx hb hml hown) hM ⟨cb, hn.get hinst rfl, hn.get hsel rfl⟩ ⟨blindC, ?_, preC_of hP hK hD hn⟩ rfl hln hsize rfl (lv_room hW) hdg hf
  have h := va_recv hK hP hc he
  rw [hq] at h
  exact h
theorem rn_S (hM : Met l y [Cond.code y bytes maxL ret] ({ frames := fr, cells := mc, slots := ms, locals := lo }) (va_Pc As (PreC D ct wc H.size)) Qc mc ms free)
    (cb : CallB R s args own index y bytes maxL ret [Cond.code y bytes maxL ret] ({ frames := fr, cells := mc, slots := ms, locals := lo }) mc ms n)
    (hx : p.tables.exec = Jvm.exec) (hb : c.code = cc) (hml : c.maxLocals = nL) (hown : s.vm.findClass own = some m.cls) (hn : nwOK s) (hK : va_K D vwCl (TY ct) s) (hP : va_P D vwCl wc H) (hD : va_D A wc)
    (hstat : Cond.static y ∈ lw_tbl) (hln : As.length = n) (hsize : ls.size = nL) (hW : (rest.map fun v => v.category).sum ≤ 8) (hdg : decode cc pc = .ok (.invokestatic index, 3)) (hf : cells + mc ≤ R.cells ∧ slots + ms ≤ R.slots) :
    va_Run p l e R s m args below meth c H locs cells slots mc ms (F0 m pc ls (As.reverse ++ rest)) rest (Qc As.toArray) free :=
  va_runS (fix0 hx hb hml hown) hM ⟨cb, hn.get hstat rfl⟩ ⟨blindC, preC_of hP hK hD hn⟩ rfl hln hsize rfl (lv_room hW) hdg hf
theorem rn_SN {host : String} (hM : Met l y [Cond.code y bytes maxL ret] ({ frames := fr, cells := mc, slots := ms, locals := lo }) (va_Pc As (PreC D ct wc H.size)) Qc mc ms free)
    (cb : va_CN R s args own index y host bytes maxL ret [Cond.code y bytes maxL ret] ({ frames := fr, cells := mc, slots := ms, locals := lo }) mc ms n)
    (hx : p.tables.exec = Jvm.exec) (hb : c.code = cc) (hml : c.maxLocals = nL) (hown : s.vm.findClass own = some m.cls) (hn : nwOK s) (hK : va_K D vwCl (TY ct) s) (hP : va_P D vwCl wc H) (hD : va_D A wc)
    (hstat : Cond.static y ∈ lw_tbl) (hln : As.length = n) (hsize : ls.size = nL) (hW : (rest.map fun v => v.category).sum ≤ 8) (hdg : decode cc pc = .ok (.invokestatic index, 3)) (hf : cells + mc ≤ R.cells ∧ slots + ms ≤ R.slots) :
    va_Run p l e R s m args below meth c H locs cells slots mc ms (F0 m pc ls (As.reverse ++ rest)) rest (Qc As.toArray) free :=
  va_runSN (fix0 hx hb hml hown) hM ⟨cb, hn.get hstat rfl, trivial⟩ ⟨blindC, preC_of hP hK hD hn⟩ rfl hln hsize rfl (lv_room hW) hdg hf
theorem rn_I (hM : Met l y [Cond.code y bytes maxL none] ({ frames := fr, cells := mc, slots := ms, locals := lo }) (va_Pc (Value.ref b :: As) (PreC D ct wc H.size)) Qc mc ms free)
    (cb : CallB R s args own index y bytes maxL none [Cond.code y bytes maxL none] ({ frames := fr, cells := mc, slots := ms, locals := lo }) mc ms n)
    (hx : p.tables.exec = Jvm.exec) (hb : c.code = cc) (hml : c.maxLocals = nL) (hown : s.vm.findClass own = some m.cls) (hn : nwOK s) (hK : va_K D vwCl (TY ct) s) (hP : va_P D vwCl wc H) (hD : va_D A wc)
    (hinst : Cond.instanceMethod y ∈ lw_tbl) (hin : y.name = "<init>") (hln : As.length = n) (hsize : ls.size = nL) (hW : (rest.map fun v => v.category).sum ≤ 8) (hdg : decode cc pc = .ok (.invokespecial index, 3)) (hf : cells + mc ≤ R.cells ∧ slots + ms ≤ R.slots) :
    va_Run p l e R s m args below meth c H locs cells slots mc ms (F0 m pc ls (As.reverse ++ .ref b :: rest)) rest (Qc (Value.ref b :: As).toArray) free :=
  va_runI (fix0 hx hb hml hown) hM ⟨cb, hin, hn.get hinst rfl⟩ ⟨blindC, preC_of hP hK hD hn⟩ rfl hln hsize rfl (lv_room hW) hdg hf
theorem rn_IN {host : String} (hM : Met l y [Cond.code y bytes maxL none] ({ frames := fr, cells := mc, slots := ms, locals := lo }) (va_Pc (Value.ref b :: As) (PreC D ct wc H.size)) Qc mc ms free)
    (cb : va_CN R s args own index y host bytes maxL none [Cond.code y bytes maxL none] ({ frames := fr, cells := mc, slots := ms, locals := lo }) mc ms n)
    (hx : p.tables.exec = Jvm.exec) (hb : c.code = cc) (hml : c.maxLocals = nL) (hown : s.vm.findClass own = some m.cls) (hn : nwOK s) (hK : va_K D vwCl (TY ct) s) (hP : va_P D vwCl wc H) (hD : va_D A wc)
    (hinst : Cond.instanceMethod y ∈ lw_tbl) (hin : y.name = "<init>") (hln : As.length = n) (hsize : ls.size = nL) (hW : (rest.map fun v => v.category).sum ≤ 8) (hdg : decode cc pc = .ok (.invokespecial index, 3)) (hf : cells + mc ≤ R.cells ∧ slots + ms ≤ R.slots) :
    va_Run p l e R s m args below meth c H locs cells slots mc ms (F0 m pc ls (As.reverse ++ .ref b :: rest)) rest (Qc (Value.ref b :: As).toArray) free :=
  va_runIN (fix0 hx hb hml hown) hM ⟨cb, hin, hn.get hinst rfl⟩ ⟨blindC, preC_of hP hK hD hn⟩ rfl hln hsize rfl (lv_room hW) hdg hf
/-- behind the call: the callee's places isC of the world, the rest's isR -/
theorem go_v {S : Type} {post : S → Prop} {w1 : S → va_W} {a : Array Value} {st0 : List Value} (isC isR : List Nat) (hr : va_Run p l e R s m args below meth c H locs cells slots mc ms (F0 m pc ls st0) rest (va_Qv post (PoC D (va_A wc H.size) w1) (va_A wc H.size) a) (va_A wc H.size))
    (hP : va_P D vwCl ws H) (hD : va_D A ws) (hS : va_S A H0 H locs) (hA : ∀ q, H0.size ≤ q → A q) (hC : isC.map (fun i => ws[i]?) = wc.map some) (hR : isR.map (fun i => ws[i]?) = wr.map some) (hnd : va_nd isR = true) (hdis : ∀ i ∈ isR, i ∉ isC) (h1 : cells + mc ≤ k1) (h2 : slots + ms ≤ n1)
    (kk : ∀ (u : S) (H1 : Heap) (locs1 : List Loc), post u → va_P D vwCl (wr ++ w1 u) H1 → va_D A (wr ++ w1 u) → va_S A H0 H1 locs1 → W p l e R s m args below meth c H1 locs1 k1 n1 Q (F0 m (pc + 3) ls rest)) : W p l e R s m args below meth c H locs cells slots Q (F0 m pc ls st0) := by
  have hF := va_free hD hS hA isC hC
  refine va_callv hr hS (fun q _ h => hF q h) hF (fun u t H1 locs1 ht hvm hpost hB hsz hk hS1 => ?_)
  obtain ⟨hP1, hD1⟩ := hB
  rw [ht] at hP1
  obtain ⟨hP2, hD2⟩ := va_join hP hD isC isR hC hR hnd hdis hk hF hP1 hD1
  exact W.widen h1 h2 (kk u H1 locs1 hpost hP2 hD2 hS1)
theorem go_i {S : Type} {post : Int32 → S → Prop} {w1 : S → va_W} {a : Array Value} {st0 : List Value} (isC isR : List Nat) (hr : va_Run p l e R s m args below meth c H locs cells slots mc ms (F0 m pc ls st0) rest (va_Qi post (PoC D (va_A wc H.size) w1) (va_A wc H.size) a) (va_A wc H.size))
    (hP : va_P D vwCl ws H) (hD : va_D A ws) (hS : va_S A H0 H locs) (hA : ∀ q, H0.size ≤ q → A q) (hC : isC.map (fun i => ws[i]?) = wc.map some) (hR : isR.map (fun i => ws[i]?) = wr.map some) (hnd : va_nd isR = true) (hdis : ∀ i ∈ isR, i ∉ isC) (h1 : cells + mc ≤ k1) (h2 : slots + ms ≤ n1)
    (kk : ∀ (r : Int32) (u : S) (H1 : Heap) (locs1 : List Loc), post r u → va_P D vwCl (wr ++ w1 u) H1 → va_D A (wr ++ w1 u) → va_S A H0 H1 locs1 → W p l e R s m args below meth c H1 locs1 k1 n1 Q (F0 m (pc + 3) ls (.int r :: rest))) : W p l e R s m args below meth c H locs cells slots Q (F0 m pc ls st0) := by
  have hF := va_free hD hS hA isC hC
  refine va_calli hr hS (fun q _ h => hF q h) hF (fun r u t H1 locs1 ht hvm hpost hB hsz hk hS1 => ?_)
  obtain ⟨hP1, hD1⟩ := hB
  rw [ht] at hP1
  obtain ⟨hP2, hD2⟩ := va_join hP hD isC isR hC hR hnd hdis hk hF hP1 hD1
  exact W.widen h1 h2 (kk r u H1 locs1 hpost hP2 hD2 hS1)
theorem go_l {S : Type} {post : Int64 → S → Prop} {w1 : S → va_W} {a : Array Value} {st0 : List Value} (isC isR : List Nat) (hr : va_Run p l e R s m args below meth c H locs cells slots mc ms (F0 m pc ls st0) rest (va_Ql post (PoC D (va_A wc H.size) w1) (va_A wc H.size) a) (va_A wc H.size))
    (hP : va_P D vwCl ws H) (hD : va_D A ws) (hS : va_S A H0 H locs) (hA : ∀ q, H0.size ≤ q → A q) (hC : isC.map (fun i => ws[i]?) = wc.map some) (hR : isR.map (fun i => ws[i]?) = wr.map some) (hnd : va_nd isR = true) (hdis : ∀ i ∈ isR, i ∉ isC) (h1 : cells + mc ≤ k1) (h2 : slots + ms ≤ n1)
    (kk : ∀ (r : Int64) (u : S) (H1 : Heap) (locs1 : List Loc), post r u → va_P D vwCl (wr ++ w1 u) H1 → va_D A (wr ++ w1 u) → va_S A H0 H1 locs1 → W p l e R s m args below meth c H1 locs1 k1 n1 Q (F0 m (pc + 3) ls (.long r :: rest))) : W p l e R s m args below meth c H locs cells slots Q (F0 m pc ls st0) := by
  have hF := va_free hD hS hA isC hC
  refine va_calll hr hS (fun q _ h => hF q h) hF (fun r u t H1 locs1 ht hvm hpost hB hsz hk hS1 => ?_)
  obtain ⟨hP1, hD1⟩ := hB
  rw [ht] at hP1
  obtain ⟨hP2, hD2⟩ := va_join hP hD isC isR hC hR hnd hdis hk hF hP1 hD1
  exact W.widen h1 h2 (kk r u H1 locs1 hpost hP2 hD2 hS1)
/-- the ends -/
theorem end_v {S : Type} {post : S → Prop} {w1 : S → va_W} (hx : p.tables.exec = Jvm.exec) (hb : c.code = cc) (hr : meth.sig.returnType = none) (hlocks : meth.locks = false) (hdg : decode cc pc = .ok (.return_, 1)) (u : S) (hpost : post u) (hP : va_P D vwCl ws H) (hD : va_D A ws) (hS : va_S A s.heap H locs)
    (is : List Nat) (hs : is.filterMap (fun i => ws[i]?) = w1 u) (hnd : va_nd is = true) (hs2 : is.map (fun i => ws[i]?) = (w1 u).map some) (h1 : cells ≤ mc) (h2 : slots ≤ ms) : W p l e R s m args below meth c H locs cells slots (MQ below (va_Qv post (PoC D A w1) A) args s mc ms A) (F0 m pc ls []) := by
  refine W.widen h1 h2 ?_
  exact W.vret hx hb hr (fun t ht hW => ⟨⟨u, rfl, hpost, by rw [ht]; exact hP.sub is hs, hD.sub is hnd hs2⟩, hS.F ht⟩) hS.2.2 hdg
theorem end_i {S : Type} {post : Int32 → S → Prop} {w1 : S → va_W} {ty : FieldType} (hx : p.tables.exec = Jvm.exec) (hb : c.code = cc) (hr : meth.sig.returnType = some ty) (hlocks : meth.locks = false) (hdg : decode cc pc = .ok (.ireturn, 1)) {r : Int32} (hnar : narrow ty (.int r) = .int r) (u : S) (hpost : post r u) (hP : va_P D vwCl ws H) (hD : va_D A ws) (hS : va_S A s.heap H locs)
    (is : List Nat) (hs : is.filterMap (fun i => ws[i]?) = w1 u) (hnd : va_nd is = true) (hs2 : is.map (fun i => ws[i]?) = (w1 u).map some) (h1 : cells ≤ mc) (h2 : slots ≤ ms) : W p l e R s m args below meth c H locs cells slots (MQ below (va_Qi post (PoC D A w1) A) args s mc ms A) (F0 m pc ls [.int r]) := by
  refine W.widen h1 h2 ?_
  exact W.zret hx hb hr hnar (fun t ht hW => ⟨⟨r, u, rfl, hpost, by rw [ht]; exact hP.sub is hs, hD.sub is hnd hs2⟩, hS.F ht⟩) hS.2.2 hdg
theorem end_l {S : Type} {post : Int64 → S → Prop} {w1 : S → va_W} (hx : p.tables.exec = Jvm.exec) (hb : c.code = cc) (hr : meth.sig.returnType = some .long) (hlocks : meth.locks = false) (hdg : decode cc pc = .ok (.lreturn, 1)) {r : Int64} (u : S) (hpost : post r u) (hP : va_P D vwCl ws H) (hD : va_D A ws) (hS : va_S A s.heap H locs)
    (is : List Nat) (hs : is.filterMap (fun i => ws[i]?) = w1 u) (hnd : va_nd is = true) (hs2 : is.map (fun i => ws[i]?) = (w1 u).map some) (h1 : cells ≤ mc) (h2 : slots ≤ ms) : W p l e R s m args below meth c H locs cells slots (MQ below (va_Ql post (PoC D A w1) A) args s mc ms A) (F0 m pc ls [.long r]) := by
  refine W.widen h1 h2 ?_
  exact W.lret hx hb hr (fun t ht hW => ⟨⟨r, u, rfl, hpost, by rw [ht]; exact hP.sub is hs, hD.sub is hnd hs2⟩, hS.F ht⟩) hS.2.2 hdg
/-- a computed number that is known -/
theorem top_c {x v : Int32} (h : x = v) (k : W p l e R s m args below meth c H locs cells slots Q (F0 m pc ls (.int v :: rest))) : W p l e R s m args below meth c H locs cells slots Q (F0 m pc ls (.int x :: rest)) := by
  rw [h]; exact k
theorem top_l {x v : Int64} (h : x = v) (k : W p l e R s m args below meth c H locs cells slots Q (F0 m pc ls (.long v :: rest))) : W p l e R s m args below meth c H locs cells slots Q (F0 m pc ls (.long x :: rest)) := by
  rw [h]; exact k
/-- a new array, of the array class that the tables have -/
theorem na_ty {ty : FieldType} {a b : ClassId} (ha : va_RA s a ty) (hb : va_RA s b ty) : a = b := by
  cases ty with
  | object C =>
    obtain ⟨_, _, -, -, -, h1⟩ := ha
    obtain ⟨_, _, -, -, -, h2⟩ := hb
    exact Option.some.inj (h1.symm.trans h2)
  | _ => exact Option.some.inj (Eq.trans (Eq.symm ha) hb)
theorem na_new (hexec : p.tables.exec = Jvm.exec) (hb : c.code = cc) {atype : ArrayType} {ty : FieldType} (hn0 : nwOK s) (harr : Cond.arrayClass (newarray.typeOf atype) ∈ lw_tbl) (hty : newarray.typeOf atype = ty) (hK : va_K D vwCl (TY ct) s) (hP : va_P D vwCl ws H) (hD : va_D A ws) (hS : va_S A H0 H locs) (hA : ∀ q, H0.size ≤ q → A q)
    (t0 : Nat) {cX : ClassId} (ht : (TY ct)[t0]? = some (cX, ty)) {n : Int32} (N' : Nat) (a0 : vp_A) (ha : ∀ cA : ClassId, vp_cell cA a0 = arrV cA N' (fun _ => defaultValue ty)) (hn : ¬ n < 0) (hN : n.toNatClampNeg = N') (hbytes : N' * componentBytes ty ≤ 536870912) (h1 : cells + 1 ≤ k1) (h2 : slots + N' ≤ n1) (hcells : k1 ≤ R.cells) (hslots : n1 ≤ R.slots) (hdg : decode cc pc = .ok (.newarray atype, 2))
    (kk : ∀ (q : Nat) (H1 : Heap), va_P D vwCl (ws ++ [(q, .inl (cX, a0))]) H1 → va_D A (ws ++ [(q, .inl (cX, a0))]) → va_S A H0 H1 locs → W p l e R s m args below meth c H1 locs k1 n1 Q (F0 m (pc + 2) ls (.ref q :: rest))) : W p l e R s m args below meth c H locs cells slots Q (F0 m pc ls (.int n :: rest)) := by
  refine va_newa (a0 := a0) hexec hb (hn0.get harr rfl) hty hK hP hD hS hA ha hn hN hbytes (Nat.le_trans h1 hcells) (Nat.le_trans h2 hslots) hdg (fun q cA H1 hK1 hP1 hD1 hS1 => ?_)
  have e : cA = cX := na_ty (hK1.2 (TY ct).length (cA, ty) (by simp)).2 (hK.2 t0 (cX, ty) ht).2
  subst e
  exact W.widen h1 h2 (kk q H1 hP1 hD1 hS1)
theorem na_newq (hexec : p.tables.exec = Jvm.exec) (hb : c.code = cc) {C : String} (hn0 : nwOK s) (hown : s.vm.findClass own = some m.cls) (hclink : Cond.classLink own index C ∈ lw_tbl) (hover : va_AO C s) (hK : va_K D vwCl (TY ct) s) (hP : va_P D vwCl ws H) (hD : va_D A ws) (hS : va_S A H0 H locs) (hA : ∀ q, H0.size ≤ q → A q)
    (t0 : Nat) {cX : ClassId} (ht : (TY ct)[t0]? = some (cX, .object C)) {n : Int32} (N' : Nat) (hn : ¬ n < 0) (hN : n.toNatClampNeg = N') (hbytes : N' * 4 ≤ 536870912) (h1 : cells + 1 ≤ k1) (h2 : slots + N' ≤ n1) (hcells : k1 ≤ R.cells) (hslots : n1 ≤ R.slots) (hdg : decode cc pc = .ok (.anewarray index, 3))
    (kk : ∀ (q : Nat) (H1 : Heap), va_P D vwCl (ws ++ [(q, .inl (cX, N', .inr (.inr (.inr (.inr (fun _ => none))))))]) H1 → va_D A (ws ++ [(q, .inl (cX, N', .inr (.inr (.inr (.inr (fun _ => none))))))]) → va_S A H0 H1 locs → W p l e R s m args below meth c H1 locs k1 n1 Q (F0 m (pc + 3) ls (.ref q :: rest))) : W p l e R s m args below meth c H locs cells slots Q (F0 m pc ls (.int n :: rest)) := by
  refine va_newq hexec hb hown (hn0.get hclink rfl) hover hK hP hD hS hA hn hN hbytes (Nat.le_trans h1 hcells) (Nat.le_trans h2 hslots) hdg (fun q cA H1 hK1 hP1 hD1 hS1 => ?_)
  have e : cA = cX := na_ty (hK1.2 (TY ct).length (cA, .object C) (by simp)).2 (hK.2 t0 (cX, .object C) ht).2
  subst e
  exact W.widen h1 h2 (kk q H1 hP1 hD1 hS1)
end CALLS
/-! small facts of numbers -/
theorem nn_lt {x y : Int32} {a b : Nat} (hx : x = nI a) (hy : y = nI b) (ha : a < 2 ^ 31) (hb : b < 2 ^ 31) : x < y ↔ a < b := by
  subst hx; subst hy; exact nI_ltI ha hb
theorem nn_le {x y : Int32} {a b : Nat} (hx : x = nI a) (hy : y = nI b) (ha : a < 2 ^ 31) (hb : b < 2 ^ 31) : x ≤ y ↔ a ≤ b := by
  subst hx; subst hy; exact nI_leI ha hb
theorem nn_nlt {x y : Int32} {a b : Nat} (hx : x = nI a) (hy : y = nI b) (ha : a < 2 ^ 31) (hb : b < 2 ^ 31) (h : b ≤ a) : ¬ x < y := fun h1 => absurd ((nn_lt hx hy ha hb).mp h1) (Nat.not_lt.mpr h)
theorem nle_of_nlt {x y : Int32} (h : ¬ x < y) : y ≤ x := Int32.not_lt.mp h
theorem cmp_m1 {j : Int64} {z1 z2 : Int32} (e1 : z1 = lg_cmp j 0) (e2 : z2 = lg_cmp j (-1)) (h : ¬ z1 < 0) : ¬ z2 < 0 := by
  subst e1; subst e2
  intro h2
  have h3 : 0 ≤ lg_cmp j 0 := Int32.not_lt.mp h
  have h4 := (lg_cmp_ge j 0).mp h3
  have h5 : ¬ 0 ≤ lg_cmp j (-1) := Int32.not_le.mpr h2
  refine h5 ((lg_cmp_ge j (-1)).mpr ?_)
  rw [Int64.le_iff_toInt_le] at h4 ⊢
  have a : (0 : Int64).toInt = 0 := by decide
  have b : (-1 : Int64).toInt = -1 := by decide
  omega
theorem fs_ne {fs : List Value} {j k : Nat} {v w : Value} (h : j ≠ k) (hj : fs[j]? = some w) : (fs.set k v)[j]? = some w := by
  rw [List.getElem?_set_ne (fun e => h e.symm)]; exact hj
theorem fs_eq {fs : List Value} {k : Nat} {v : Value} (h : k < fs.length) : (fs.set k v)[k]? = some v := by
  rw [List.getElem?_set_self h]

theorem i_eq0 {n : Int32} (h1 : ¬ n < 0) (h2 : ¬ 0 < n) : n = 0 := Int32.le_antisymm (Int32.not_lt.mp h2) (Int32.not_lt.mp h1)
def exEnd (n : Int32) : Int32 := if n = 0 then 0 else -1
theorem exEnd_n {n : Int32} (h : n < 0) : -1 = exEnd n := by
  have : n ≠ 0 := fun e => by subst e; exact absurd h (by decide)
  simp [exEnd, this]
theorem exEnd_p {n : Int32} (h : 0 < n) : -1 = exEnd n := by
  have : n ≠ 0 := fun e => by subst e; exact absurd h (by decide)
  simp [exEnd, this]
theorem exEnd_0 {n : Int32} (h1 : ¬ n < 0) (h2 : ¬ 0 < n) : n = exEnd n := by
  have := i_eq0 h1 h2
  subst this; rfl
def exStack (i : Int32) : Int32 := if i < 0 then -1 else if i < 64 then 0 else -1
def exKnown (w : Int32) : Int64 := if w = 0 then -1 else 0
def exCount (w : Int32) : Int32 := if w.toInt < 0 ∨ 5 < w.toInt then -1 else 0
theorem sw_2 (x : Int32) : x = 0 ∨ x = 1 ∨ x = 2 ∨ (x.toInt < 0 ∨ 2 < x.toInt) := by
  by_cases h0 : x = 0
  · exact Or.inl h0
  by_cases h1 : x = 1
  · exact Or.inr (Or.inl h1)
  by_cases h2 : x = 2
  · exact Or.inr (Or.inr (Or.inl h2))
  have n0 : x.toInt ≠ 0 := fun h => h0 (Int32.toInt_inj.mp (h.trans (by decide)))
  have n1 : x.toInt ≠ 1 := fun h => h1 (Int32.toInt_inj.mp (h.trans (by decide)))
  have n2 : x.toInt ≠ 2 := fun h => h2 (Int32.toInt_inj.mp (h.trans (by decide)))
  exact Or.inr (Or.inr (Or.inr (by omega)))
theorem sw_5 (x : Int32) : x = 0 ∨ x = 1 ∨ x = 2 ∨ x = 3 ∨ x = 4 ∨ x = 5 ∨ (x.toInt < 0 ∨ 5 < x.toInt) := by
  by_cases h0 : x = 0
  · exact Or.inl h0
  by_cases h1 : x = 1
  · exact Or.inr (Or.inl h1)
  by_cases h2 : x = 2
  · exact Or.inr (Or.inr (Or.inl h2))
  by_cases h3 : x = 3
  · exact Or.inr (Or.inr (Or.inr (Or.inl h3)))
  by_cases h4 : x = 4
  · exact Or.inr (Or.inr (Or.inr (Or.inr (Or.inl h4))))
  by_cases h5 : x = 5
  · exact Or.inr (Or.inr (Or.inr (Or.inr (Or.inr (Or.inl h5)))))
  have n0 : x.toInt ≠ 0 := fun h => h0 (Int32.toInt_inj.mp (h.trans (by decide)))
  have n1 : x.toInt ≠ 1 := fun h => h1 (Int32.toInt_inj.mp (h.trans (by decide)))
  have n2 : x.toInt ≠ 2 := fun h => h2 (Int32.toInt_inj.mp (h.trans (by decide)))
  have n3 : x.toInt ≠ 3 := fun h => h3 (Int32.toInt_inj.mp (h.trans (by decide)))
  have n4 : x.toInt ≠ 4 := fun h => h4 (Int32.toInt_inj.mp (h.trans (by decide)))
  have n5 : x.toInt ≠ 5 := fun h => h5 (Int32.toInt_inj.mp (h.trans (by decide)))
  exact Or.inr (Or.inr (Or.inr (Or.inr (Or.inr (Or.inr (by omega))))))
theorem sw_18 (x : Int32) : x = 0 ∨ x = 1 ∨ x = 2 ∨ x = 3 ∨ x = 4 ∨ x = 5 ∨ x = 6 ∨ x = 7 ∨ x = 8 ∨ x = 9 ∨ x = 10 ∨ x = 11 ∨ x = 12 ∨ x = 13 ∨ x = 14 ∨ x = 15 ∨ x = 16 ∨ x = 17 ∨ x = 18 ∨ (x.toInt < 0 ∨ 18 < x.toInt) := by
  by_cases h0 : x = 0
  · exact Or.inl h0
  by_cases h1 : x = 1
  · exact Or.inr (Or.inl h1)
  by_cases h2 : x = 2
  · exact Or.inr (Or.inr (Or.inl h2))
  by_cases h3 : x = 3
  · exact Or.inr (Or.inr (Or.inr (Or.inl h3)))
  by_cases h4 : x = 4
  · exact Or.inr (Or.inr (Or.inr (Or.inr (Or.inl h4))))
  by_cases h5 : x = 5
  · exact Or.inr (Or.inr (Or.inr (Or.inr (Or.inr (Or.inl h5)))))
  by_cases h6 : x = 6
  · exact Or.inr (Or.inr (Or.inr (Or.inr (Or.inr (Or.inr (Or.inl h6))))))
  by_cases h7 : x = 7
  · exact Or.inr (Or.inr (Or.inr (Or.inr (Or.inr (Or.inr (Or.inr (Or.inl h7)))))))
  by_cases h8 : x = 8
  · exact Or.inr (Or.inr (Or.inr (Or.inr (Or.inr (Or.inr (Or.inr (Or.inr (Or.inl h8))))))))
  by_cases h9 : x = 9
  · exact Or.inr (Or.inr (Or.inr (Or.inr (Or.inr (Or.inr (Or.inr (Or.inr (Or.inr (Or.inl h9)))))))))
  by_cases h10 : x = 10
  · exact Or.inr (Or.inr (Or.inr (Or.inr (Or.inr (Or.inr (Or.inr (Or.inr (Or.inr (Or.inr (Or.inl h10))))))))))
  by_cases h11 : x = 11
  · exact Or.inr (Or.inr (Or.inr (Or.inr (Or.inr (Or.inr (Or.inr (Or.inr (Or.inr (Or.inr (Or.inr (Or.inl h11)))))))))))
  by_cases h12 : x = 12
  · exact Or.inr (Or.inr (Or.inr (Or.inr (Or.inr (Or.inr (Or.inr (Or.inr (Or.inr (Or.inr (Or.inr (Or.inr (Or.inl h12))))))))))))
  by_cases h13 : x = 13
  · exact Or.inr (Or.inr (Or.inr (Or.inr (Or.inr (Or.inr (Or.inr (Or.inr (Or.inr (Or.inr (Or.inr (Or.inr (Or.inr (Or.inl h13)))))))))))))
  by_cases h14 : x = 14
  · exact Or.inr (Or.inr (Or.inr (Or.inr (Or.inr (Or.inr (Or.inr (Or.inr (Or.inr (Or.inr (Or.inr (Or.inr (Or.inr (Or.inr (Or.inl h14))))))))))))))
  by_cases h15 : x = 15
  · exact Or.inr (Or.inr (Or.inr (Or.inr (Or.inr (Or.inr (Or.inr (Or.inr (Or.inr (Or.inr (Or.inr (Or.inr (Or.inr (Or.inr (Or.inr (Or.inl h15)))))))))))))))
  by_cases h16 : x = 16
  · exact Or.inr (Or.inr (Or.inr (Or.inr (Or.inr (Or.inr (Or.inr (Or.inr (Or.inr (Or.inr (Or.inr (Or.inr (Or.inr (Or.inr (Or.inr (Or.inr (Or.inl h16))))))))))))))))
  by_cases h17 : x = 17
  · exact Or.inr (Or.inr (Or.inr (Or.inr (Or.inr (Or.inr (Or.inr (Or.inr (Or.inr (Or.inr (Or.inr (Or.inr (Or.inr (Or.inr (Or.inr (Or.inr (Or.inr (Or.inl h17)))))))))))))))))
  by_cases h18 : x = 18
  · exact Or.inr (Or.inr (Or.inr (Or.inr (Or.inr (Or.inr (Or.inr (Or.inr (Or.inr (Or.inr (Or.inr (Or.inr (Or.inr (Or.inr (Or.inr (Or.inr (Or.inr (Or.inr (Or.inl h18))))))))))))))))))
  have n0 : x.toInt ≠ 0 := fun h => h0 (Int32.toInt_inj.mp (h.trans (by decide)))
  have n1 : x.toInt ≠ 1 := fun h => h1 (Int32.toInt_inj.mp (h.trans (by decide)))
  have n2 : x.toInt ≠ 2 := fun h => h2 (Int32.toInt_inj.mp (h.trans (by decide)))
  have n3 : x.toInt ≠ 3 := fun h => h3 (Int32.toInt_inj.mp (h.trans (by decide)))
  have n4 : x.toInt ≠ 4 := fun h => h4 (Int32.toInt_inj.mp (h.trans (by decide)))
  have n5 : x.toInt ≠ 5 := fun h => h5 (Int32.toInt_inj.mp (h.trans (by decide)))
  have n6 : x.toInt ≠ 6 := fun h => h6 (Int32.toInt_inj.mp (h.trans (by decide)))
  have n7 : x.toInt ≠ 7 := fun h => h7 (Int32.toInt_inj.mp (h.trans (by decide)))
  have n8 : x.toInt ≠ 8 := fun h => h8 (Int32.toInt_inj.mp (h.trans (by decide)))
  have n9 : x.toInt ≠ 9 := fun h => h9 (Int32.toInt_inj.mp (h.trans (by decide)))
  have n10 : x.toInt ≠ 10 := fun h => h10 (Int32.toInt_inj.mp (h.trans (by decide)))
  have n11 : x.toInt ≠ 11 := fun h => h11 (Int32.toInt_inj.mp (h.trans (by decide)))
  have n12 : x.toInt ≠ 12 := fun h => h12 (Int32.toInt_inj.mp (h.trans (by decide)))
  have n13 : x.toInt ≠ 13 := fun h => h13 (Int32.toInt_inj.mp (h.trans (by decide)))
  have n14 : x.toInt ≠ 14 := fun h => h14 (Int32.toInt_inj.mp (h.trans (by decide)))
  have n15 : x.toInt ≠ 15 := fun h => h15 (Int32.toInt_inj.mp (h.trans (by decide)))
  have n16 : x.toInt ≠ 16 := fun h => h16 (Int32.toInt_inj.mp (h.trans (by decide)))
  have n17 : x.toInt ≠ 17 := fun h => h17 (Int32.toInt_inj.mp (h.trans (by decide)))
  have n18 : x.toInt ≠ 18 := fun h => h18 (Int32.toInt_inj.mp (h.trans (by decide)))
  exact Or.inr (Or.inr (Or.inr (Or.inr (Or.inr (Or.inr (Or.inr (Or.inr (Or.inr (Or.inr (Or.inr (Or.inr (Or.inr (Or.inr (Or.inr (Or.inr (Or.inr (Or.inr (Or.inr (by omega)))))))))))))))))))
theorem okW_of {w : Cond} (h : (w.onTables && w.keeps) = true ∨ ∃ ty, w = .arrayClass ty) : okW w = true := by
  unfold okW
  rcases h with h | ⟨ty, rfl⟩
  · have : goodWord w = true := by
      cases w <;> first | rfl | exact h
    rw [this]; rfl
  · rfl
end
section
theorem mw_2 : Cond.initialized RX9 ∈ lw_tbl := List.mem_append_right _ (List.mem_of_getElem? (i := 2) (by decide +kernel))
theorem mw_3 : Cond.initialized RX6 ∈ lw_tbl := List.mem_append_right _ (List.mem_of_getElem? (i := 3) (by decide +kernel))
theorem mw_4 : Cond.initialized RX4 ∈ lw_tbl := List.mem_append_right _ (List.mem_of_getElem? (i := 4) (by decide +kernel))
theorem mw_5 : Cond.initialized RX5 ∈ lw_tbl := List.mem_append_right _ (List.mem_of_getElem? (i := 5) (by decide +kernel))
theorem mw_6 : Cond.initialized RX2 ∈ lw_tbl := List.mem_append_right _ (List.mem_of_getElem? (i := 6) (by decide +kernel))
theorem mw_7 : Cond.initialized RX7 ∈ lw_tbl := List.mem_append_right _ (List.mem_of_getElem? (i := 7) (by decide +kernel))
theorem mw_8 : Cond.initialized RX8 ∈ lw_tbl := List.mem_append_right _ (List.mem_of_getElem? (i := 8) (by decide +kernel))
theorem mw_9 : Cond.initialized RX0 ∈ lw_tbl := List.mem_append_right _ (List.mem_of_getElem? (i := 9) (by decide +kernel))
theorem mw_10 : Cond.initialized RX10 ∈ lw_tbl := List.mem_append_right _ (List.mem_of_getElem? (i := 10) (by decide +kernel))
theorem mw_11 : Cond.initialized RX3 ∈ lw_tbl := List.mem_append_right _ (List.mem_of_getElem? (i := 11) (by decide +kernel))
theorem mw_12 : Cond.initialized RX1 ∈ lw_tbl := List.mem_append_right _ (List.mem_of_getElem? (i := 12) (by decide +kernel))
theorem mw_32 : Cond.code yX11_init cX11_init 1 none ∈ lw_tbl := List.mem_append_right _ (List.mem_of_getElem? (i := 32) (by decide +kernel))
theorem mw_33 : Cond.methodLink RX11 1 Lib.objectInit ∈ lw_tbl := List.mem_append_right _ (List.mem_of_getElem? (i := 33) (by decide +kernel))
theorem mw_34 : Cond.instanceMethod Lib.objectInit ∈ lw_tbl := List.mem_append_right _ (List.mem_of_getElem? (i := 34) (by decide +kernel))
theorem mw_35 : Cond.code Lib.objectInit ⟨#[0xb1]⟩ 1 none ∈ lw_tbl := List.mem_append_right _ (List.mem_of_getElem? (i := 35) (by decide +kernel))
theorem mw_36 : Cond.classLink RX11 7 RX9 ∈ lw_tbl := List.mem_append_right _ (List.mem_of_getElem? (i := 36) (by decide +kernel))
theorem mw_37 : Cond.instantiable RX9 2 ∈ lw_tbl := List.mem_append_right _ (List.mem_of_getElem? (i := 37) (by decide +kernel))
theorem mw_38 : Cond.methodLinkNest RX11 9 yX9_init "FilterForge" ∈ lw_tbl := List.mem_append_right _ (List.mem_of_getElem? (i := 38) (by decide +kernel))
theorem mw_39 : Cond.instanceMethod yX9_init ∈ lw_tbl := List.mem_append_right _ (List.mem_of_getElem? (i := 39) (by decide +kernel))
theorem mw_40 : Cond.code yX9_init cX9_init 1 none ∈ lw_tbl := List.mem_append_right _ (List.mem_of_getElem? (i := 40) (by decide +kernel))
theorem mw_41 : Cond.methodLink RX9 1 Lib.objectInit ∈ lw_tbl := List.mem_append_right _ (List.mem_of_getElem? (i := 41) (by decide +kernel))
theorem mw_42 : Cond.fieldLink RX9 9 "FilterForge$Tape" "row" "[B" ∈ lw_tbl := List.mem_append_right _ (List.mem_of_getElem? (i := 42) (by decide +kernel))
theorem mw_43 : Cond.fieldLink RX9 13 "FilterForge$Tape" "length" "I" ∈ lw_tbl := List.mem_append_right _ (List.mem_of_getElem? (i := 43) (by decide +kernel))
theorem mw_44 : Cond.fieldLinkNest RX7 15 "FilterForge$Tape" "length" "I" "FilterForge" ∈ lw_tbl := List.mem_append_right _ (List.mem_of_getElem? (i := 44) (by decide +kernel))
theorem mw_45 : Cond.fieldLinkNest RX5 16 "FilterForge$Tape" "length" "I" "FilterForge" ∈ lw_tbl := List.mem_append_right _ (List.mem_of_getElem? (i := 45) (by decide +kernel))
theorem mw_46 : Cond.fieldLinkNest RX6 21 "FilterForge$Tape" "length" "I" "FilterForge" ∈ lw_tbl := List.mem_append_right _ (List.mem_of_getElem? (i := 46) (by decide +kernel))
theorem mw_54 : Cond.arrayClass .byte ∈ lw_tbl := List.mem_append_right _ (List.mem_of_getElem? (i := 54) (by decide +kernel))
theorem mw_55 : Cond.classLink RX11 16 RX6 ∈ lw_tbl := List.mem_append_right _ (List.mem_of_getElem? (i := 55) (by decide +kernel))
theorem mw_56 : Cond.instantiable RX6 3 ∈ lw_tbl := List.mem_append_right _ (List.mem_of_getElem? (i := 56) (by decide +kernel))
theorem mw_57 : Cond.methodLinkNest RX11 18 yX6_init "FilterForge" ∈ lw_tbl := List.mem_append_right _ (List.mem_of_getElem? (i := 57) (by decide +kernel))
theorem mw_58 : Cond.instanceMethod yX6_init ∈ lw_tbl := List.mem_append_right _ (List.mem_of_getElem? (i := 58) (by decide +kernel))
theorem mw_59 : Cond.code yX6_init cX6_init 1 none ∈ lw_tbl := List.mem_append_right _ (List.mem_of_getElem? (i := 59) (by decide +kernel))
theorem mw_60 : Cond.methodLink RX6 1 Lib.objectInit ∈ lw_tbl := List.mem_append_right _ (List.mem_of_getElem? (i := 60) (by decide +kernel))
theorem mw_61 : Cond.fieldLink RX6 9 "FilterForge$Packets" "cells" "[B" ∈ lw_tbl := List.mem_append_right _ (List.mem_of_getElem? (i := 61) (by decide +kernel))
theorem mw_62 : Cond.fieldLink RX6 13 "FilterForge$Packets" "lengths" "[I" ∈ lw_tbl := List.mem_append_right _ (List.mem_of_getElem? (i := 62) (by decide +kernel))
theorem mw_63 : Cond.fieldLink RX6 17 "FilterForge$Packets" "held" "I" ∈ lw_tbl := List.mem_append_right _ (List.mem_of_getElem? (i := 63) (by decide +kernel))
theorem mw_72 : Cond.arrayClass .int ∈ lw_tbl := List.mem_append_right _ (List.mem_of_getElem? (i := 72) (by decide +kernel))
theorem mw_73 : Cond.classLink RX11 23 RX4 ∈ lw_tbl := List.mem_append_right _ (List.mem_of_getElem? (i := 73) (by decide +kernel))
theorem mw_74 : Cond.instantiable RX4 10 ∈ lw_tbl := List.mem_append_right _ (List.mem_of_getElem? (i := 74) (by decide +kernel))
theorem mw_75 : Cond.methodLinkNest RX11 25 yX4_init "FilterForge" ∈ lw_tbl := List.mem_append_right _ (List.mem_of_getElem? (i := 75) (by decide +kernel))
theorem mw_76 : Cond.instanceMethod yX4_init ∈ lw_tbl := List.mem_append_right _ (List.mem_of_getElem? (i := 76) (by decide +kernel))
theorem mw_77 : Cond.code yX4_init cX4_init 2 none ∈ lw_tbl := List.mem_append_right _ (List.mem_of_getElem? (i := 77) (by decide +kernel))
theorem mw_78 : Cond.methodLink RX4 3 Lib.objectInit ∈ lw_tbl := List.mem_append_right _ (List.mem_of_getElem? (i := 78) (by decide +kernel))
theorem mw_79 : Cond.fieldLink RX4 9 "FilterForge$Machine" "registers" "[J" ∈ lw_tbl := List.mem_append_right _ (List.mem_of_getElem? (i := 79) (by decide +kernel))
theorem mw_80 : Cond.fieldLink RX4 15 "FilterForge$Machine" "stackRow" "[B" ∈ lw_tbl := List.mem_append_right _ (List.mem_of_getElem? (i := 80) (by decide +kernel))
theorem mw_82 : Cond.fieldLink RX4 19 "FilterForge$Machine" "packets" "LFilterForge$Packets;" ∈ lw_tbl := List.mem_append_right _ (List.mem_of_getElem? (i := 82) (by decide +kernel))
theorem mw_s0 : Cond.selects RX9 yX9_hasRoom yX9_hasRoom ∈ lw_tbl := List.mem_append_left _ (List.mem_of_getElem? (i := 0) (by decide +kernel))
theorem mw_s5 : Cond.selects RX6 yX6_at yX6_at ∈ lw_tbl := List.mem_append_left _ (List.mem_of_getElem? (i := 5) (by decide +kernel))
theorem mw_s6 : Cond.selects RX6 yX6_lengthOf yX6_lengthOf ∈ lw_tbl := List.mem_append_left _ (List.mem_of_getElem? (i := 6) (by decide +kernel))
theorem mw_123 : Cond.arrayClass .long ∈ lw_tbl := List.mem_append_right _ (List.mem_of_getElem? (i := 123) (by decide +kernel))
theorem mw_124 : Cond.classLink RX11 32 RX5 ∈ lw_tbl := List.mem_append_right _ (List.mem_of_getElem? (i := 124) (by decide +kernel))
theorem mw_125 : Cond.instantiable RX5 2 ∈ lw_tbl := List.mem_append_right _ (List.mem_of_getElem? (i := 125) (by decide +kernel))
theorem mw_126 : Cond.methodLinkNest RX11 34 yX5_init "FilterForge" ∈ lw_tbl := List.mem_append_right _ (List.mem_of_getElem? (i := 126) (by decide +kernel))
theorem mw_127 : Cond.instanceMethod yX5_init ∈ lw_tbl := List.mem_append_right _ (List.mem_of_getElem? (i := 127) (by decide +kernel))
theorem mw_128 : Cond.code yX5_init cX5_init 1 none ∈ lw_tbl := List.mem_append_right _ (List.mem_of_getElem? (i := 128) (by decide +kernel))
theorem mw_129 : Cond.methodLink RX5 3 Lib.objectInit ∈ lw_tbl := List.mem_append_right _ (List.mem_of_getElem? (i := 129) (by decide +kernel))
theorem mw_130 : Cond.constant RX5 11 (60000) ∈ lw_tbl := List.mem_append_right _ (List.mem_of_getElem? (i := 130) (by decide +kernel))
theorem mw_131 : Cond.fieldLink RX5 12 "FilterForge$ObjectCode" "row" "[I" ∈ lw_tbl := List.mem_append_right _ (List.mem_of_getElem? (i := 131) (by decide +kernel))
theorem mw_133 : Cond.fieldLink RX5 22 "FilterForge$ObjectCode" "length" "I" ∈ lw_tbl := List.mem_append_right _ (List.mem_of_getElem? (i := 133) (by decide +kernel))
theorem mw_141 : Cond.classLink RX11 39 RX2 ∈ lw_tbl := List.mem_append_right _ (List.mem_of_getElem? (i := 141) (by decide +kernel))
theorem mw_142 : Cond.instantiable RX2 18 ∈ lw_tbl := List.mem_append_right _ (List.mem_of_getElem? (i := 142) (by decide +kernel))
theorem mw_143 : Cond.methodLinkNest RX11 41 yX2_init "FilterForge" ∈ lw_tbl := List.mem_append_right _ (List.mem_of_getElem? (i := 143) (by decide +kernel))
theorem mw_144 : Cond.instanceMethod yX2_init ∈ lw_tbl := List.mem_append_right _ (List.mem_of_getElem? (i := 144) (by decide +kernel))
theorem mw_145 : Cond.code yX2_init cX2_init 1 none ∈ lw_tbl := List.mem_append_right _ (List.mem_of_getElem? (i := 145) (by decide +kernel))
theorem mw_146 : Cond.methodLink RX2 3 Lib.objectInit ∈ lw_tbl := List.mem_append_right _ (List.mem_of_getElem? (i := 146) (by decide +kernel))
theorem mw_147 : Cond.fieldLink RX2 11 "FilterForge$Filter" "kinds" "[I" ∈ lw_tbl := List.mem_append_right _ (List.mem_of_getElem? (i := 147) (by decide +kernel))
theorem mw_149 : Cond.fieldLink RX2 15 "FilterForge$Filter" "hows" "[I" ∈ lw_tbl := List.mem_append_right _ (List.mem_of_getElem? (i := 149) (by decide +kernel))
theorem mw_151 : Cond.fieldLink RX2 18 "FilterForge$Filter" "numbers" "[I" ∈ lw_tbl := List.mem_append_right _ (List.mem_of_getElem? (i := 151) (by decide +kernel))
theorem mw_155 : Cond.fieldLink RX2 21 "FilterForge$Filter" "from" "[I" ∈ lw_tbl := List.mem_append_right _ (List.mem_of_getElem? (i := 155) (by decide +kernel))
theorem mw_157 : Cond.fieldLink RX2 24 "FilterForge$Filter" "middle" "[I" ∈ lw_tbl := List.mem_append_right _ (List.mem_of_getElem? (i := 157) (by decide +kernel))
theorem mw_159 : Cond.fieldLink RX2 27 "FilterForge$Filter" "until" "[I" ∈ lw_tbl := List.mem_append_right _ (List.mem_of_getElem? (i := 159) (by decide +kernel))
theorem mw_161 : Cond.fieldLink RX2 30 "FilterForge$Filter" "ops" "[I" ∈ lw_tbl := List.mem_append_right _ (List.mem_of_getElem? (i := 161) (by decide +kernel))
theorem mw_163 : Cond.fieldLink RX2 33 "FilterForge$Filter" "yes" "[I" ∈ lw_tbl := List.mem_append_right _ (List.mem_of_getElem? (i := 163) (by decide +kernel))
theorem mw_165 : Cond.fieldLink RX2 36 "FilterForge$Filter" "no" "[I" ∈ lw_tbl := List.mem_append_right _ (List.mem_of_getElem? (i := 165) (by decide +kernel))
theorem mw_167 : Cond.fieldLink RX2 39 "FilterForge$Filter" "kept" "[Z" ∈ lw_tbl := List.mem_append_right _ (List.mem_of_getElem? (i := 167) (by decide +kernel))
theorem mw_174 : Cond.fieldLink RX2 43 "FilterForge$Filter" "labels" "[I" ∈ lw_tbl := List.mem_append_right _ (List.mem_of_getElem? (i := 174) (by decide +kernel))
theorem mw_176 : Cond.fieldLink RX2 46 "FilterForge$Filter" "asked" "[I" ∈ lw_tbl := List.mem_append_right _ (List.mem_of_getElem? (i := 176) (by decide +kernel))
theorem mw_178 : Cond.fieldLink RX2 49 "FilterForge$Filter" "pushed" "[J" ∈ lw_tbl := List.mem_append_right _ (List.mem_of_getElem? (i := 178) (by decide +kernel))
theorem mw_216 : Cond.arrayClass .boolean ∈ lw_tbl := List.mem_append_right _ (List.mem_of_getElem? (i := 216) (by decide +kernel))
theorem mw_217 : Cond.classLink RX11 49 RX7 ∈ lw_tbl := List.mem_append_right _ (List.mem_of_getElem? (i := 217) (by decide +kernel))
theorem mw_218 : Cond.instantiable RX7 2 ∈ lw_tbl := List.mem_append_right _ (List.mem_of_getElem? (i := 218) (by decide +kernel))
theorem mw_219 : Cond.methodLinkNest RX11 51 yX7_init "FilterForge" ∈ lw_tbl := List.mem_append_right _ (List.mem_of_getElem? (i := 219) (by decide +kernel))
theorem mw_220 : Cond.instanceMethod yX7_init ∈ lw_tbl := List.mem_append_right _ (List.mem_of_getElem? (i := 220) (by decide +kernel))
theorem mw_221 : Cond.code yX7_init cX7_init 1 none ∈ lw_tbl := List.mem_append_right _ (List.mem_of_getElem? (i := 221) (by decide +kernel))
theorem mw_222 : Cond.methodLink RX7 3 Lib.objectInit ∈ lw_tbl := List.mem_append_right _ (List.mem_of_getElem? (i := 222) (by decide +kernel))
theorem mw_223 : Cond.fieldLink RX7 11 "FilterForge$Program" "row" "[J" ∈ lw_tbl := List.mem_append_right _ (List.mem_of_getElem? (i := 223) (by decide +kernel))
theorem mw_226 : Cond.fieldLink RX7 21 "FilterForge$Program" "length" "I" ∈ lw_tbl := List.mem_append_right _ (List.mem_of_getElem? (i := 226) (by decide +kernel))
theorem mw_235 : Cond.classLink RX11 59 RX8 ∈ lw_tbl := List.mem_append_right _ (List.mem_of_getElem? (i := 235) (by decide +kernel))
theorem mw_236 : Cond.instantiable RX8 6 ∈ lw_tbl := List.mem_append_right _ (List.mem_of_getElem? (i := 236) (by decide +kernel))
theorem mw_237 : Cond.methodLinkNest RX11 61 yX8_init "FilterForge" ∈ lw_tbl := List.mem_append_right _ (List.mem_of_getElem? (i := 237) (by decide +kernel))
theorem mw_238 : Cond.instanceMethod yX8_init ∈ lw_tbl := List.mem_append_right _ (List.mem_of_getElem? (i := 238) (by decide +kernel))
theorem mw_239 : Cond.code yX8_init cX8_init 3 none ∈ lw_tbl := List.mem_append_right _ (List.mem_of_getElem? (i := 239) (by decide +kernel))
theorem mw_240 : Cond.methodLink RX8 3 Lib.objectInit ∈ lw_tbl := List.mem_append_right _ (List.mem_of_getElem? (i := 240) (by decide +kernel))
theorem mw_241 : Cond.fieldLink RX8 9 "FilterForge$Reader" "text" "LFilterForge$Tape;" ∈ lw_tbl := List.mem_append_right _ (List.mem_of_getElem? (i := 241) (by decide +kernel))
theorem mw_242 : Cond.fieldLink RX8 15 "FilterForge$Reader" "made" "LFilterForge$Filter;" ∈ lw_tbl := List.mem_append_right _ (List.mem_of_getElem? (i := 242) (by decide +kernel))
theorem mw_260 : Cond.classLink RX11 68 RX0 ∈ lw_tbl := List.mem_append_right _ (List.mem_of_getElem? (i := 260) (by decide +kernel))
theorem mw_261 : Cond.instantiable RX0 5 ∈ lw_tbl := List.mem_append_right _ (List.mem_of_getElem? (i := 261) (by decide +kernel))
theorem mw_262 : Cond.methodLinkNest RX11 70 yX0_init "FilterForge" ∈ lw_tbl := List.mem_append_right _ (List.mem_of_getElem? (i := 262) (by decide +kernel))
theorem mw_263 : Cond.instanceMethod yX0_init ∈ lw_tbl := List.mem_append_right _ (List.mem_of_getElem? (i := 263) (by decide +kernel))
theorem mw_264 : Cond.code yX0_init cX0_init 3 none ∈ lw_tbl := List.mem_append_right _ (List.mem_of_getElem? (i := 264) (by decide +kernel))
theorem mw_265 : Cond.methodLink RX0 3 Lib.objectInit ∈ lw_tbl := List.mem_append_right _ (List.mem_of_getElem? (i := 265) (by decide +kernel))
theorem mw_266 : Cond.fieldLink RX0 11 "FilterForge$Coder" "starts" "[I" ∈ lw_tbl := List.mem_append_right _ (List.mem_of_getElem? (i := 266) (by decide +kernel))
theorem mw_267 : Cond.fieldLink RX0 19 "FilterForge$Coder" "goals" "[I" ∈ lw_tbl := List.mem_append_right _ (List.mem_of_getElem? (i := 267) (by decide +kernel))
theorem mw_268 : Cond.fieldLink RX0 22 "FilterForge$Coder" "filter" "LFilterForge$Filter;" ∈ lw_tbl := List.mem_append_right _ (List.mem_of_getElem? (i := 268) (by decide +kernel))
theorem mw_269 : Cond.fieldLink RX0 26 "FilterForge$Coder" "made" "LFilterForge$Program;" ∈ lw_tbl := List.mem_append_right _ (List.mem_of_getElem? (i := 269) (by decide +kernel))
theorem mw_282 : Cond.classLink RX11 77 RX10 ∈ lw_tbl := List.mem_append_right _ (List.mem_of_getElem? (i := 282) (by decide +kernel))
theorem mw_283 : Cond.instantiable RX10 5 ∈ lw_tbl := List.mem_append_right _ (List.mem_of_getElem? (i := 283) (by decide +kernel))
theorem mw_284 : Cond.methodLinkNest RX11 79 yX10_init "FilterForge" ∈ lw_tbl := List.mem_append_right _ (List.mem_of_getElem? (i := 284) (by decide +kernel))
theorem mw_285 : Cond.instanceMethod yX10_init ∈ lw_tbl := List.mem_append_right _ (List.mem_of_getElem? (i := 285) (by decide +kernel))
theorem mw_286 : Cond.code yX10_init cX10_init 3 none ∈ lw_tbl := List.mem_append_right _ (List.mem_of_getElem? (i := 286) (by decide +kernel))
theorem mw_287 : Cond.methodLink RX10 3 Lib.objectInit ∈ lw_tbl := List.mem_append_right _ (List.mem_of_getElem? (i := 287) (by decide +kernel))
theorem mw_288 : Cond.fieldLink RX10 11 "FilterForge$Translator" "starts" "[I" ∈ lw_tbl := List.mem_append_right _ (List.mem_of_getElem? (i := 288) (by decide +kernel))
theorem mw_289 : Cond.fieldLink RX10 21 "FilterForge$Translator" "made" "LFilterForge$ObjectCode;" ∈ lw_tbl := List.mem_append_right _ (List.mem_of_getElem? (i := 289) (by decide +kernel))
theorem mw_290 : Cond.fieldLink RX10 17 "FilterForge$Translator" "source" "LFilterForge$Program;" ∈ lw_tbl := List.mem_append_right _ (List.mem_of_getElem? (i := 290) (by decide +kernel))
theorem mw_304 : Cond.classLink RX11 86 RX3 ∈ lw_tbl := List.mem_append_right _ (List.mem_of_getElem? (i := 304) (by decide +kernel))
theorem mw_305 : Cond.instantiable RX3 14 ∈ lw_tbl := List.mem_append_right _ (List.mem_of_getElem? (i := 305) (by decide +kernel))
theorem mw_306 : Cond.methodLinkNest RX11 88 yX3_init "FilterForge" ∈ lw_tbl := List.mem_append_right _ (List.mem_of_getElem? (i := 306) (by decide +kernel))
theorem mw_307 : Cond.instanceMethod yX3_init ∈ lw_tbl := List.mem_append_right _ (List.mem_of_getElem? (i := 307) (by decide +kernel))
theorem mw_308 : Cond.code yX3_init cX3_init 3 none ∈ lw_tbl := List.mem_append_right _ (List.mem_of_getElem? (i := 308) (by decide +kernel))
theorem mw_309 : Cond.methodLink RX3 3 Lib.objectInit ∈ lw_tbl := List.mem_append_right _ (List.mem_of_getElem? (i := 309) (by decide +kernel))
theorem mw_310 : Cond.classLink RX3 35 RX1 ∈ lw_tbl := List.mem_append_right _ (List.mem_of_getElem? (i := 310) (by decide +kernel))
theorem mw_312 : Cond.instantiable RX1 5 ∈ lw_tbl := List.mem_append_right _ (List.mem_of_getElem? (i := 312) (by decide +kernel))
theorem mw_313 : Cond.methodLinkNest RX3 41 yX1_init "FilterForge" ∈ lw_tbl := List.mem_append_right _ (List.mem_of_getElem? (i := 313) (by decide +kernel))
theorem mw_314 : Cond.instanceMethod yX1_init ∈ lw_tbl := List.mem_append_right _ (List.mem_of_getElem? (i := 314) (by decide +kernel))
theorem mw_315 : Cond.code yX1_init cX1_init 1 none ∈ lw_tbl := List.mem_append_right _ (List.mem_of_getElem? (i := 315) (by decide +kernel))
theorem mw_316 : Cond.methodLink RX1 3 Lib.objectInit ∈ lw_tbl := List.mem_append_right _ (List.mem_of_getElem? (i := 316) (by decide +kernel))
theorem mw_338 : Cond.fieldLink RX3 9 "FilterForge$Inspector" "kinds" "[B" ∈ lw_tbl := List.mem_append_right _ (List.mem_of_getElem? (i := 338) (by decide +kernel))
theorem mw_339 : Cond.fieldLink RX3 15 "FilterForge$Inspector" "lows" "[J" ∈ lw_tbl := List.mem_append_right _ (List.mem_of_getElem? (i := 339) (by decide +kernel))
theorem mw_340 : Cond.fieldLink RX3 19 "FilterForge$Inspector" "highs" "[J" ∈ lw_tbl := List.mem_append_right _ (List.mem_of_getElem? (i := 340) (by decide +kernel))
theorem mw_341 : Cond.fieldLink RX3 22 "FilterForge$Inspector" "sures" "[J" ∈ lw_tbl := List.mem_append_right _ (List.mem_of_getElem? (i := 341) (by decide +kernel))
theorem mw_342 : Cond.fieldLink RX3 25 "FilterForge$Inspector" "oneBits" "[J" ∈ lw_tbl := List.mem_append_right _ (List.mem_of_getElem? (i := 342) (by decide +kernel))
theorem mw_343 : Cond.fieldLink RX3 28 "FilterForge$Inspector" "sets" "[J" ∈ lw_tbl := List.mem_append_right _ (List.mem_of_getElem? (i := 343) (by decide +kernel))
theorem mw_344 : Cond.fieldLink RX3 31 "FilterForge$Inspector" "reached" "[Z" ∈ lw_tbl := List.mem_append_right _ (List.mem_of_getElem? (i := 344) (by decide +kernel))
theorem mw_345 : Cond.fieldLink RX3 37 "FilterForge$Inspector" "now" "[LFilterForge$Fact;" ∈ lw_tbl := List.mem_append_right _ (List.mem_of_getElem? (i := 345) (by decide +kernel))
theorem mw_346 : Cond.fieldLink RX3 42 "FilterForge$Inspector" "side" "LFilterForge$Fact;" ∈ lw_tbl := List.mem_append_right _ (List.mem_of_getElem? (i := 346) (by decide +kernel))
theorem mw_347 : Cond.fieldLink RX3 46 "FilterForge$Inspector" "place" "LFilterForge$Fact;" ∈ lw_tbl := List.mem_append_right _ (List.mem_of_getElem? (i := 347) (by decide +kernel))
theorem mw_348 : Cond.fieldLink RX3 49 "FilterForge$Inspector" "former" "LFilterForge$Fact;" ∈ lw_tbl := List.mem_append_right _ (List.mem_of_getElem? (i := 348) (by decide +kernel))
theorem mw_350 : Cond.fieldLink RX3 56 "FilterForge$Inspector" "program" "LFilterForge$Program;" ∈ lw_tbl := List.mem_append_right _ (List.mem_of_getElem? (i := 350) (by decide +kernel))
theorem mw_351 : Cond.fieldLink RX3 52 "FilterForge$Inspector" "lastTold" "I" ∈ lw_tbl := List.mem_append_right _ (List.mem_of_getElem? (i := 351) (by decide +kernel))
theorem mw_381 : Cond.fieldLink RX11 10 "FilterForge" "tape" "LFilterForge$Tape;" ∈ lw_tbl := List.mem_append_right _ (List.mem_of_getElem? (i := 381) (by decide +kernel))
theorem mw_382 : Cond.fieldLink RX11 19 "FilterForge" "packets" "LFilterForge$Packets;" ∈ lw_tbl := List.mem_append_right _ (List.mem_of_getElem? (i := 382) (by decide +kernel))
theorem mw_383 : Cond.fieldLink RX11 28 "FilterForge" "machine" "LFilterForge$Machine;" ∈ lw_tbl := List.mem_append_right _ (List.mem_of_getElem? (i := 383) (by decide +kernel))
theorem mw_384 : Cond.fieldLink RX11 35 "FilterForge" "object" "LFilterForge$ObjectCode;" ∈ lw_tbl := List.mem_append_right _ (List.mem_of_getElem? (i := 384) (by decide +kernel))
theorem mw_385 : Cond.fieldLink RX11 42 "FilterForge" "filter" "LFilterForge$Filter;" ∈ lw_tbl := List.mem_append_right _ (List.mem_of_getElem? (i := 385) (by decide +kernel))
theorem mw_386 : Cond.fieldLink RX11 46 "FilterForge" "spareFilter" "LFilterForge$Filter;" ∈ lw_tbl := List.mem_append_right _ (List.mem_of_getElem? (i := 386) (by decide +kernel))
theorem mw_387 : Cond.fieldLink RX11 52 "FilterForge" "program" "LFilterForge$Program;" ∈ lw_tbl := List.mem_append_right _ (List.mem_of_getElem? (i := 387) (by decide +kernel))
theorem mw_388 : Cond.fieldLink RX11 56 "FilterForge" "spareProgram" "LFilterForge$Program;" ∈ lw_tbl := List.mem_append_right _ (List.mem_of_getElem? (i := 388) (by decide +kernel))
theorem mw_390 : Cond.fieldLink RX11 64 "FilterForge" "reader" "LFilterForge$Reader;" ∈ lw_tbl := List.mem_append_right _ (List.mem_of_getElem? (i := 390) (by decide +kernel))
theorem mw_391 : Cond.fieldLink RX11 73 "FilterForge" "coder" "LFilterForge$Coder;" ∈ lw_tbl := List.mem_append_right _ (List.mem_of_getElem? (i := 391) (by decide +kernel))
theorem mw_392 : Cond.fieldLink RX11 82 "FilterForge" "translator" "LFilterForge$Translator;" ∈ lw_tbl := List.mem_append_right _ (List.mem_of_getElem? (i := 392) (by decide +kernel))
theorem mw_393 : Cond.fieldLink RX11 91 "FilterForge" "inspector" "LFilterForge$Inspector;" ∈ lw_tbl := List.mem_append_right _ (List.mem_of_getElem? (i := 393) (by decide +kernel))
theorem mw_394 : Cond.fieldLink RX11 95 "FilterForge" "gatekeeper" "LFilterForge$Inspector;" ∈ lw_tbl := List.mem_append_right _ (List.mem_of_getElem? (i := 394) (by decide +kernel))
theorem mw_430 : Cond.instanceMethod yX9_hasRoom ∈ lw_tbl := List.mem_append_right _ (List.mem_of_getElem? (i := 430) (by decide +kernel))
theorem mw_431 : Cond.code yX9_hasRoom cX9_hasRoom 2 (some .boolean) ∈ lw_tbl := List.mem_append_right _ (List.mem_of_getElem? (i := 431) (by decide +kernel))
theorem mw_435 : Cond.code yX9_put cX9_put 3 none ∈ lw_tbl := List.mem_append_right _ (List.mem_of_getElem? (i := 435) (by decide +kernel))
theorem mw_436 : Cond.methodLink RX9 17 yX9_hasRoom ∈ lw_tbl := List.mem_append_right _ (List.mem_of_getElem? (i := 436) (by decide +kernel))
theorem mw_448 : Cond.code yX6_add cX6_add 3 (some .int) ∈ lw_tbl := List.mem_append_right _ (List.mem_of_getElem? (i := 448) (by decide +kernel))
theorem mw_452 : Cond.code yX9_at cX9_at 2 (some .int) ∈ lw_tbl := List.mem_append_right _ (List.mem_of_getElem? (i := 452) (by decide +kernel))
theorem mw_460 : Cond.code yX6_eightFrom cX6_eightFrom 7 (some .long) ∈ lw_tbl := List.mem_append_right _ (List.mem_of_getElem? (i := 460) (by decide +kernel))
theorem mw_461 : Cond.methodLink RX6 33 yX6_at ∈ lw_tbl := List.mem_append_right _ (List.mem_of_getElem? (i := 461) (by decide +kernel))
theorem mw_463 : Cond.instanceMethod yX6_at ∈ lw_tbl := List.mem_append_right _ (List.mem_of_getElem? (i := 463) (by decide +kernel))
theorem mw_464 : Cond.code yX6_at cX6_at 4 (some .int) ∈ lw_tbl := List.mem_append_right _ (List.mem_of_getElem? (i := 464) (by decide +kernel))
theorem mw_465 : Cond.methodLink RX6 30 yX6_lengthOf ∈ lw_tbl := List.mem_append_right _ (List.mem_of_getElem? (i := 465) (by decide +kernel))
theorem mw_467 : Cond.instanceMethod yX6_lengthOf ∈ lw_tbl := List.mem_append_right _ (List.mem_of_getElem? (i := 467) (by decide +kernel))
theorem mw_468 : Cond.code yX6_lengthOf cX6_lengthOf 2 (some .int) ∈ lw_tbl := List.mem_append_right _ (List.mem_of_getElem? (i := 468) (by decide +kernel))
theorem mw_469 : Cond.constantLong RX6 36 (-1) ∈ lw_tbl := List.mem_append_right _ (List.mem_of_getElem? (i := 469) (by decide +kernel))
theorem mw_924 : Cond.code yX7_takeTape cX7_takeTape 3 (some .int) ∈ lw_tbl := List.mem_append_right _ (List.mem_of_getElem? (i := 924) (by decide +kernel))
theorem mw_937 : Cond.code yX7_at cX7_at 2 (some .long) ∈ lw_tbl := List.mem_append_right _ (List.mem_of_getElem? (i := 937) (by decide +kernel))
theorem mw_1391 : Cond.code yX5_takeTape cX5_takeTape 3 (some .int) ∈ lw_tbl := List.mem_append_right _ (List.mem_of_getElem? (i := 1391) (by decide +kernel))
theorem mw_1400 : Cond.code yX5_at cX5_at 2 (some .int) ∈ lw_tbl := List.mem_append_right _ (List.mem_of_getElem? (i := 1400) (by decide +kernel))
theorem mw_oi : Cond.code Lib.objectInit ⟨#[0xb1]⟩ 1 none ∈ lw_tbl := mw_35
theorem guX0 : GoodIn lw_tbl (u_ws RX0 TX0 5) := goodIn_r (u_ws RX0 TX0 5) [559, 561, 563, 565, 567] (by decide +kernel) (by decide +kernel)
theorem htX0 {s : State} (hn : nwOK s) {args : Array Value} : ∀ w ∈ u_ws RX0 TX0 5, w.before args s = true := fun w h => hn.get (guX0 w h).1 (okW_of (guX0 w h).2)
theorem dfX0 : ∀ j, j < 5 → defaultValue (tyX0 j) = vp_V [.null, .null, .null, .null, .int 0] j := by decide +kernel
theorem guX1 : GoodIn lw_tbl (u_ws RX1 TX1 5) := goodIn_r (u_ws RX1 TX1 5) [615, 617, 619, 621, 623] (by decide +kernel) (by decide +kernel)
theorem htX1 {s : State} (hn : nwOK s) {args : Array Value} : ∀ w ∈ u_ws RX1 TX1 5, w.before args s = true := fun w h => hn.get (guX1 w h).1 (okW_of (guX1 w h).2)
theorem dfX1 : ∀ j, j < 5 → defaultValue (tyX1 j) = vp_V [.int 0, .long 0, .long 0, .long 0, .long 0] j := by decide +kernel
theorem guX2 : GoodIn lw_tbl (u_ws RX2 TX2 18) := goodIn_r (u_ws RX2 TX2 18) [467, 469, 471, 473, 475, 477, 479, 481, 483, 485, 487, 489, 491, 493, 495, 497, 499, 501] (by decide +kernel) (by decide +kernel)
theorem htX2 {s : State} (hn : nwOK s) {args : Array Value} : ∀ w ∈ u_ws RX2 TX2 18, w.before args s = true := fun w h => hn.get (guX2 w h).1 (okW_of (guX2 w h).2)
theorem dfX2 : ∀ j, j < 18 → defaultValue (tyX2 j) = vp_V [.null, .null, .null, .int 0, .null, .null, .null, .null, .null, .null, .null, .int 0, .int 0, .null, .int 0, .null, .int 0, .null] j := by decide +kernel
theorem guX3 : GoodIn lw_tbl (u_ws RX3 TX3 14) := goodIn_r (u_ws RX3 TX3 14) [640, 642, 644, 646, 648, 650, 652, 654, 656, 658, 660, 662, 664, 666] (by decide +kernel) (by decide +kernel)
theorem htX3 {s : State} (hn : nwOK s) {args : Array Value} : ∀ w ∈ u_ws RX3 TX3 14, w.before args s = true := fun w h => hn.get (guX3 w h).1 (okW_of (guX3 w h).2)
theorem dfX3 : ∀ j, j < 14 → defaultValue (tyX3 j) = vp_V [.null, .null, .null, .null, .null, .null, .null, .null, .null, .null, .null, .long 0, .null, .int 0] j := by decide +kernel
theorem guX4 : GoodIn lw_tbl (u_ws RX4 TX4 10) := goodIn_r (u_ws RX4 TX4 10) [390, 392, 394, 396, 398, 400, 402, 404, 406, 408] (by decide +kernel) (by decide +kernel)
theorem htX4 {s : State} (hn : nwOK s) {args : Array Value} : ∀ w ∈ u_ws RX4 TX4 10, w.before args s = true := fun w h => hn.get (guX4 w h).1 (okW_of (guX4 w h).2)
theorem dfX4 : ∀ j, j < 10 → defaultValue (tyX4 j) = vp_V [.null, .null, .null, .int 0, .int 0, .int 0, .int 0, .int 0, .long 0, .int 0] j := by decide +kernel
theorem guX5 : GoodIn lw_tbl (u_ws RX5 TX5 2) := goodIn_r (u_ws RX5 TX5 2) [424, 426] (by decide +kernel) (by decide +kernel)
theorem htX5 {s : State} (hn : nwOK s) {args : Array Value} : ∀ w ∈ u_ws RX5 TX5 2, w.before args s = true := fun w h => hn.get (guX5 w h).1 (okW_of (guX5 w h).2)
theorem dfX5 : ∀ j, j < 2 → defaultValue (tyX5 j) = vp_V [.null, .int 0] j := by decide +kernel
theorem guX6 : GoodIn lw_tbl (u_ws RX6 TX6 3) := goodIn_r (u_ws RX6 TX6 3) [353, 355, 357] (by decide +kernel) (by decide +kernel)
theorem htX6 {s : State} (hn : nwOK s) {args : Array Value} : ∀ w ∈ u_ws RX6 TX6 3, w.before args s = true := fun w h => hn.get (guX6 w h).1 (okW_of (guX6 w h).2)
theorem dfX6 : ∀ j, j < 3 → defaultValue (tyX6 j) = vp_V [.null, .null, .int 0] j := by decide +kernel
theorem guX7 : GoodIn lw_tbl (u_ws RX7 TX7 2) := goodIn_r (u_ws RX7 TX7 2) [518, 520] (by decide +kernel) (by decide +kernel)
theorem htX7 {s : State} (hn : nwOK s) {args : Array Value} : ∀ w ∈ u_ws RX7 TX7 2, w.before args s = true := fun w h => hn.get (guX7 w h).1 (okW_of (guX7 w h).2)
theorem dfX7 : ∀ j, j < 2 → defaultValue (tyX7 j) = vp_V [.null, .int 0] j := by decide +kernel
theorem guX8 : GoodIn lw_tbl (u_ws RX8 TX8 6) := goodIn_r (u_ws RX8 TX8 6) [535, 537, 539, 541, 543, 545] (by decide +kernel) (by decide +kernel)
theorem htX8 {s : State} (hn : nwOK s) {args : Array Value} : ∀ w ∈ u_ws RX8 TX8 6, w.before args s = true := fun w h => hn.get (guX8 w h).1 (okW_of (guX8 w h).2)
theorem dfX8 : ∀ j, j < 6 → defaultValue (tyX8 j) = vp_V [.null, .null, .int 0, .int 0, .int 0, .int 0] j := by decide +kernel
theorem guX9 : GoodIn lw_tbl (u_ws RX9 TX9 2) := goodIn_r (u_ws RX9 TX9 2) [337, 339] (by decide +kernel) (by decide +kernel)
theorem htX9 {s : State} (hn : nwOK s) {args : Array Value} : ∀ w ∈ u_ws RX9 TX9 2, w.before args s = true := fun w h => hn.get (guX9 w h).1 (okW_of (guX9 w h).2)
theorem dfX9 : ∀ j, j < 2 → defaultValue (tyX9 j) = vp_V [.null, .int 0] j := by decide +kernel
theorem guX10 : GoodIn lw_tbl (u_ws RX10 TX10 5) := goodIn_r (u_ws RX10 TX10 5) [581, 583, 585, 587, 589] (by decide +kernel) (by decide +kernel)
theorem htX10 {s : State} (hn : nwOK s) {args : Array Value} : ∀ w ∈ u_ws RX10 TX10 5, w.before args s = true := fun w h => hn.get (guX10 w h).1 (okW_of (guX10 w h).2)
theorem dfX10 : ∀ j, j < 5 → defaultValue (tyX10 j) = vp_V [.null, .null, .null, .int 0, .int 0] j := by decide +kernel
theorem guX11 : GoodIn lw_tbl (u_ws RX11 TX11 14) := goodIn_r (u_ws RX11 TX11 14) [683, 685, 687, 689, 691, 693, 695, 697, 699, 701, 703, 705, 707, 709] (by decide +kernel) (by decide +kernel)
theorem htX11 {s : State} (hn : nwOK s) {args : Array Value} : ∀ w ∈ u_ws RX11 TX11 14, w.before args s = true := fun w h => hn.get (guX11 w h).1 (okW_of (guX11 w h).2)
theorem dfX11 : ∀ j, j < 14 → defaultValue (tyX11 j) = vp_V [.null, .null, .null, .null, .null, .null, .null, .null, .int 0, .null, .null, .null, .null, .null] j := by decide +kernel
end
section
set_option maxHeartbeats 4000000 in
set_option maxRecDepth 100000 in
theorem c_X9_init (l : Launch) (D : va_G) (ct : Nat → ClassId) (h0 : Nat)  : KV (S := Nat) l yX9_init cX9_init 1 none 2 20 D ct [.ref h0] [(h0, .inr (9, [.null, .int 0]))] 1 2000 (fun _ => True) (fun (r : Nat) => [(h0, .inr (9, [.ref r, .int 0])), (r, .inl (ct 0, 2000, .inl (fun _ => 0)))]) := by
  intro sz
  refine K_of (Qf := fun A => va_Qv (fun _ => True) (PoC D A (fun (r : Nat) => [(h0, .inr (9, [.ref r, .int 0])), (r, .inl (ct 0, 2000, .inl (fun _ => 0)))])) A) sz (by decide) (Nat.le_of_ble_eq_true rfl) (fun p e s m below meth c A C0 hA hS hP hD ls hl => ?_)
  obtain ⟨hx, hb, hr, hown, hin, hml, hlocks, hn, hK⟩ := C0
  have hl : lv_has ls 1 [(0, .ref h0)] := hl
  refine lv_aload_n hx hb dX9_init_0 rfl (lv_at hl 0 rfl) ?_
  refine W.objInit hx hb hown (hn.get mw_41 rfl) (hn.get mw_34 rfl) (hn.get mw_oi rfl) rfl (by rw [hml]; exact hl.1) rfl dX9_init_1 (Nat.le_of_ble_eq_true rfl) (Nat.le_of_ble_eq_true rfl) ?_
  refine W.eq (g2 := F0 m 4 ls []) rfl ?_
  refine lv_aload_n hx hb dX9_init_4 rfl (lv_at hl 0 rfl) ?_
  refine lv_sipush (v := 2000) hx hb dX9_init_5 (by decide) ?_
  refine na_new (atype := .byte) (k1 := 1) (n1 := 2000) hx hb hn mw_54 rfl hK hP hD hS hA 0 rfl 2000 (2000, .inl (fun _ => 0)) (fun _ => rfl) (by decide) (by decide) (Nat.le_of_ble_eq_true rfl) (Nat.le_of_ble_eq_true rfl) (Nat.le_of_ble_eq_true rfl) (Nat.le_of_ble_eq_true rfl) (Nat.le_of_ble_eq_true rfl) dX9_init_8 (fun q_1 H hP hD hS => ?_)
  have hP : va_P D vwCl [(h0, .inr (9, [.null, .int 0])), (q_1, .inl (ct 0, 2000, .inl (fun _ => 0)))] _ := hP
  have hD : va_D A [(h0, .inr (9, [.null, .int 0])), (q_1, .inl (ct 0, 2000, .inl (fun _ => 0)))] := hD
  refine va_putF (D := D) (ci := 9) (v := .ref q_1) (ty := .array .byte) (C := RX9) (T := TX9) (N := 2) hx hb (htX9 hn) (fun _ h => h) tyX9 tyX9_ok nmX9 hown hK hP hD hS 0 rfl rfl 0 (by decide) (hn.get mw_42 rfl) (fun _ h9 => h9) rfl hin rfl (by decide +kernel) rfl rfl (Nat.le_of_ble_eq_true rfl) dX9_init_10 (fun H locs hP hD hS => ?_)
  have hP : va_P D vwCl [(h0, .inr (9, [.ref q_1, .int 0])), (q_1, .inl (ct 0, 2000, .inl (fun _ => 0)))] _ := hP
  have hD : va_D A [(h0, .inr (9, [.ref q_1, .int 0])), (q_1, .inl (ct 0, 2000, .inl (fun _ => 0)))] := hD
  exact end_v hx hb hr hlocks dX9_init_13 q_1 trivial hP hD hS [0, 1] rfl (by decide) rfl (Nat.le_of_ble_eq_true rfl) (Nat.le_of_ble_eq_true rfl)
set_option maxHeartbeats 4000000 in
set_option maxRecDepth 100000 in
theorem c_X9_hasRoom (l : Launch) (D : va_G) (ct : Nat → ClassId) (h0 : Nat) (r : Nat) (k : Nat) (j : Nat) (hk : k + j ≤ 2000) : KI (S := Unit) l yX9_hasRoom cX9_hasRoom 2 (some .boolean) 1 20 D ct [.ref h0, .int (nI j)] [(h0, .inr (9, [.ref r, .int (nI k)]))] 0 0 (fun r _ => r = 1) (fun (_ : Unit) => [(h0, .inr (9, [.ref r, .int (nI k)]))]) := by
  intro sz
  refine K_of (Qf := fun A => va_Qi (fun r _ => r = 1) (PoC D A (fun (_ : Unit) => [(h0, .inr (9, [.ref r, .int (nI k)]))])) A) sz (by decide) (Nat.le_of_ble_eq_true rfl) (fun p e s m below meth c A C0 hA hS hP hD ls hl => ?_)
  obtain ⟨hx, hb, hr, hown, hin, hml, hlocks, hn, hK⟩ := C0
  have hl : lv_has ls 2 [(0, .ref h0), (1, .int (nI j))] := hl
  refine lv_aload_n hx hb dX9_hasRoom_0 rfl (lv_at hl 0 rfl) ?_
  refine va_get (D := D) (ci := 9) (v := .int (nI k)) (C := RX9) (T := TX9) (N := 2) hx hb (htX9 hn) (fun _ h => h) hown hK hP 0 rfl rfl 1 (by decide) (hn.get mw_43 rfl) (fun _ h9 => h9) rfl dX9_hasRoom_1 ?_
  refine lv_iload_n hx hb dX9_hasRoom_4 rfl (lv_at hl 1 rfl) ?_
  refine lv_iadd hx hb dX9_hasRoom_5 ?_
  refine top_c (v := nI (k + j)) (nI_add k j) ?_
  refine lv_sipush (v := 2000) hx hb dX9_hasRoom_6 (by decide) ?_
  refine lv_icmp_gt (tgt := 16) hx hb dX9_hasRoom_9 (by decide) (fun c_1 => absurd c_1 (nn_nlt (a := 2000) (b := k + j) rfl rfl (by decide) (by omega) hk)) (fun c_1 => ?_)
  refine lv_iconst (v := 1) hx hb dX9_hasRoom_12 (by decide) ?_
  refine lv_goto (tgt := 17) hx hb dX9_hasRoom_13 (by decide) ?_
  exact end_i hx hb hr hlocks dX9_hasRoom_17 (by decide) () rfl hP hD hS [0] rfl (by decide) rfl (Nat.le_of_ble_eq_true rfl) (Nat.le_of_ble_eq_true rfl)
set_option maxHeartbeats 4000000 in
set_option maxRecDepth 100000 in
theorem c_X9_put (l : Launch) (D : va_G) (ct : Nat → ClassId) (h0 : Nat) (r : Nat) (k : Nat) (v : Int32) (f : Nat → Int32) (hk : k + 4 ≤ 2000) : KV (S := Nat → Int32) l yX9_put cX9_put 3 none 2 41 D ct [.ref h0, .int v] [(h0, .inr (9, [.ref r, .int (nI k)])), (r, .inl (ct 0, 2000, .inl f))] 0 0 (fun _ => True) (fun (g : Nat → Int32) => [(h0, .inr (9, [.ref r, .int (nI (k + 4))])), (r, .inl (ct 0, 2000, .inl g))]) := by
  intro sz
  refine K_of (Qf := fun A => va_Qv (fun _ => True) (PoC D A (fun (g : Nat → Int32) => [(h0, .inr (9, [.ref r, .int (nI (k + 4))])), (r, .inl (ct 0, 2000, .inl g))])) A) sz (by decide) (Nat.le_of_ble_eq_true rfl) (fun p e s m below meth c A C0 hA hS hP hD ls hl => ?_)
  obtain ⟨hx, hb, hr, hown, hin, hml, hlocks, hn, hK⟩ := C0
  have hl : lv_has ls 3 [(0, .ref h0), (1, .int v)] := hl
  refine lv_aload_n hx hb dX9_put_0 rfl (lv_at hl 0 rfl) ?_
  refine lv_iconst (v := 4) hx hb dX9_put_1 (by decide) ?_
  have hPc := hP.sub (ws' := [(h0, .inr (9, [.ref r, .int (nI k)]))]) [0] rfl
  have hDc := hD.sub (ws' := [(h0, .inr (9, [.ref r, .int (nI k)]))]) [0] (by decide) rfl
  refine go_i (k1 := 0) (n1 := 0) (wr := [(r, .inl (ct 0, 2000, .inl f))]) [0] [1] (rn_V (As := [.int 4]) (rest := []) (c_X9_hasRoom l D ct h0 r k 4 hk _) (cb_of (n := 1) hn mw_431 mw_2 mw_436 mhX9_hasRoom ⟨Nat.le_of_ble_eq_true rfl, Nat.le_of_ble_eq_true rfl⟩) hx hb hml hown hn hK hPc hDc mw_430 mw_s0 (ci := 9) (q0 := 0) rfl rfl rfl rfl hl.1 (Nat.le_of_ble_eq_true rfl) dX9_put_2 ⟨(Nat.le_of_ble_eq_true rfl), (Nat.le_of_ble_eq_true rfl)⟩) hP hD hS hA rfl rfl (by decide) (by decide) (Nat.le_of_ble_eq_true rfl) (Nat.le_of_ble_eq_true rfl) (fun r_1 u_2 H locs hp_3 hP hD hS => ?_)
  have hr_1 := hp_3
  rw [show r_1 = 1 from hr_1]
  have hP : va_P D vwCl [(r, .inl (ct 0, 2000, .inl f)), (h0, .inr (9, [.ref r, .int (nI k)]))] _ := hP
  have hD : va_D A [(r, .inl (ct 0, 2000, .inl f)), (h0, .inr (9, [.ref r, .int (nI k)]))] := hD
  refine lv_if_ne (tgt := 9) hx hb dX9_put_5 (by decide) (fun c_4 => ?_) (fun c_4 => absurd c_4 (by decide))
  refine lv_bipush (v := 24) hx hb dX9_put_9 (by decide) ?_
  refine lv_istore_n (lv' := [(2, .int 24), (0, .ref h0), (1, .int v)]) hx hb dX9_put_11 rfl hl (by decide) rfl (fun ls hl => ?_)
  refine lv_iload_n hx hb dX9_put_12 rfl (lv_at hl 0 rfl) ?_
  refine lv_if_lt (tgt := 45) hx hb dX9_put_13 (by decide) (fun c_5 => absurd c_5 (by decide)) (fun c_5 => ?_)
  refine lv_aload_n hx hb dX9_put_16 rfl (lv_at hl 1 rfl) ?_
  refine va_get (D := D) (ci := 9) (v := .ref r) (C := RX9) (T := TX9) (N := 2) hx hb (htX9 hn) (fun _ h => h) hown hK hP 1 rfl rfl 0 (by decide) (hn.get mw_42 rfl) (fun _ h9 => h9) rfl dX9_put_17 ?_
  refine lv_aload_n hx hb dX9_put_20 rfl (lv_at hl 1 rfl) ?_
  refine va_get (D := D) (ci := 9) (v := .int (nI k)) (C := RX9) (T := TX9) (N := 2) hx hb (htX9 hn) (fun _ h => h) hown hK hP 1 rfl rfl 1 (by decide) (hn.get mw_43 rfl) (fun _ h9 => h9) rfl dX9_put_21 ?_
  refine lv_iload_n hx hb dX9_put_24 rfl (lv_at hl 2 rfl) ?_
  refine lv_iload_n hx hb dX9_put_25 rfl (lv_at hl 0 rfl) ?_
  refine lv_ishr hx hb dX9_put_26 ?_
  refine lv_topi (fun z_6 ez_6 => ?_)
  refine lv_i2b hx hb dX9_put_27 rfl ?_
  refine lv_topi (fun z_7 ez_7 => ?_)
  refine va_bast hx hb hK hP hD hS 0 0 rfl rfl (vp_in_nI (by omega) (by decide)) dX9_put_28 (fun H locs hP hD hS => ?_)
  have hP : va_P D vwCl [(r, .inl (ct 0, 2000, .inl (upd f (nI k).toNatClampNeg (vp_nar .byte z_7)))), (h0, .inr (9, [.ref r, .int (nI k)]))] _ := hP
  have hD : va_D A [(r, .inl (ct 0, 2000, .inl (upd f (nI k).toNatClampNeg (vp_nar .byte z_7)))), (h0, .inr (9, [.ref r, .int (nI k)]))] := hD
  generalize (upd f (nI k).toNatClampNeg (vp_nar .byte z_7)) = f_8 at hP hD
  refine lv_aload_n hx hb dX9_put_29 rfl (lv_at hl 1 rfl) ?_
  refine lv_dup hx hb dX9_put_30 rfl ?_
  refine va_get (D := D) (ci := 9) (v := .int (nI k)) (C := RX9) (T := TX9) (N := 2) hx hb (htX9 hn) (fun _ h => h) hown hK hP 1 rfl rfl 1 (by decide) (hn.get mw_43 rfl) (fun _ h9 => h9) rfl dX9_put_31 ?_
  refine lv_iconst (v := 1) hx hb dX9_put_34 (by decide) ?_
  refine lv_iadd hx hb dX9_put_35 ?_
  refine top_c (v := nI (k + 1)) (nI_1 _) ?_
  refine va_put (D := D) (ci := 9) (v := .int (nI (k + 1))) (ty := .int) (C := RX9) (T := TX9) (N := 2) hx hb (htX9 hn) (fun _ h => h) tyX9 tyX9_ok nmX9 hown hK hP hD hS 1 rfl rfl 1 (by decide) (hn.get mw_43 rfl) (fun _ h9 => h9) rfl (by decide +kernel) rfl rfl (Nat.le_of_ble_eq_true rfl) dX9_put_36 (fun H locs hP hD hS => ?_)
  have hP : va_P D vwCl [(r, .inl (ct 0, 2000, .inl f_8)), (h0, .inr (9, [.ref r, .int (nI (k + 1))]))] _ := hP
  have hD : va_D A [(r, .inl (ct 0, 2000, .inl f_8)), (h0, .inr (9, [.ref r, .int (nI (k + 1))]))] := hD
  refine lv_iinc (v := 16) (lv' := [(2, .int 16), (0, .ref h0), (1, .int v)]) hx hb dX9_put_39 hl (k := 0) rfl (by decide) (by decide) rfl (fun ls hl => ?_)
  refine lv_goto (tgt := 12) hx hb dX9_put_42 (by decide) ?_
  refine lv_iload_n hx hb dX9_put_12 rfl (lv_at hl 0 rfl) ?_
  refine lv_if_lt (tgt := 45) hx hb dX9_put_13 (by decide) (fun c_9 => absurd c_9 (by decide)) (fun c_9 => ?_)
  refine lv_aload_n hx hb dX9_put_16 rfl (lv_at hl 1 rfl) ?_
  refine va_get (D := D) (ci := 9) (v := .ref r) (C := RX9) (T := TX9) (N := 2) hx hb (htX9 hn) (fun _ h => h) hown hK hP 1 rfl rfl 0 (by decide) (hn.get mw_42 rfl) (fun _ h9 => h9) rfl dX9_put_17 ?_
  refine lv_aload_n hx hb dX9_put_20 rfl (lv_at hl 1 rfl) ?_
  refine va_get (D := D) (ci := 9) (v := .int (nI (k + 1))) (C := RX9) (T := TX9) (N := 2) hx hb (htX9 hn) (fun _ h => h) hown hK hP 1 rfl rfl 1 (by decide) (hn.get mw_43 rfl) (fun _ h9 => h9) rfl dX9_put_21 ?_
  refine lv_iload_n hx hb dX9_put_24 rfl (lv_at hl 2 rfl) ?_
  refine lv_iload_n hx hb dX9_put_25 rfl (lv_at hl 0 rfl) ?_
  refine lv_ishr hx hb dX9_put_26 ?_
  refine lv_topi (fun z_10 ez_10 => ?_)
  refine lv_i2b hx hb dX9_put_27 rfl ?_
  refine lv_topi (fun z_11 ez_11 => ?_)
  refine va_bast hx hb hK hP hD hS 0 0 rfl rfl (vp_in_nI (by omega) (by decide)) dX9_put_28 (fun H locs hP hD hS => ?_)
  have hP : va_P D vwCl [(r, .inl (ct 0, 2000, .inl (upd f_8 (nI (k + 1)).toNatClampNeg (vp_nar .byte z_11)))), (h0, .inr (9, [.ref r, .int (nI (k + 1))]))] _ := hP
  have hD : va_D A [(r, .inl (ct 0, 2000, .inl (upd f_8 (nI (k + 1)).toNatClampNeg (vp_nar .byte z_11)))), (h0, .inr (9, [.ref r, .int (nI (k + 1))]))] := hD
  generalize (upd f_8 (nI (k + 1)).toNatClampNeg (vp_nar .byte z_11)) = f_12 at hP hD
  refine lv_aload_n hx hb dX9_put_29 rfl (lv_at hl 1 rfl) ?_
  refine lv_dup hx hb dX9_put_30 rfl ?_
  refine va_get (D := D) (ci := 9) (v := .int (nI (k + 1))) (C := RX9) (T := TX9) (N := 2) hx hb (htX9 hn) (fun _ h => h) hown hK hP 1 rfl rfl 1 (by decide) (hn.get mw_43 rfl) (fun _ h9 => h9) rfl dX9_put_31 ?_
  refine lv_iconst (v := 1) hx hb dX9_put_34 (by decide) ?_
  refine lv_iadd hx hb dX9_put_35 ?_
  refine top_c (v := nI (k + 2)) (nI_1 _) ?_
  refine va_put (D := D) (ci := 9) (v := .int (nI (k + 2))) (ty := .int) (C := RX9) (T := TX9) (N := 2) hx hb (htX9 hn) (fun _ h => h) tyX9 tyX9_ok nmX9 hown hK hP hD hS 1 rfl rfl 1 (by decide) (hn.get mw_43 rfl) (fun _ h9 => h9) rfl (by decide +kernel) rfl rfl (Nat.le_of_ble_eq_true rfl) dX9_put_36 (fun H locs hP hD hS => ?_)
  have hP : va_P D vwCl [(r, .inl (ct 0, 2000, .inl f_12)), (h0, .inr (9, [.ref r, .int (nI (k + 2))]))] _ := hP
  have hD : va_D A [(r, .inl (ct 0, 2000, .inl f_12)), (h0, .inr (9, [.ref r, .int (nI (k + 2))]))] := hD
  refine lv_iinc (v := 8) (lv' := [(2, .int 8), (0, .ref h0), (1, .int v)]) hx hb dX9_put_39 hl (k := 0) rfl (by decide) (by decide) rfl (fun ls hl => ?_)
  refine lv_goto (tgt := 12) hx hb dX9_put_42 (by decide) ?_
  refine lv_iload_n hx hb dX9_put_12 rfl (lv_at hl 0 rfl) ?_
  refine lv_if_lt (tgt := 45) hx hb dX9_put_13 (by decide) (fun c_13 => absurd c_13 (by decide)) (fun c_13 => ?_)
  refine lv_aload_n hx hb dX9_put_16 rfl (lv_at hl 1 rfl) ?_
  refine va_get (D := D) (ci := 9) (v := .ref r) (C := RX9) (T := TX9) (N := 2) hx hb (htX9 hn) (fun _ h => h) hown hK hP 1 rfl rfl 0 (by decide) (hn.get mw_42 rfl) (fun _ h9 => h9) rfl dX9_put_17 ?_
  refine lv_aload_n hx hb dX9_put_20 rfl (lv_at hl 1 rfl) ?_
  refine va_get (D := D) (ci := 9) (v := .int (nI (k + 2))) (C := RX9) (T := TX9) (N := 2) hx hb (htX9 hn) (fun _ h => h) hown hK hP 1 rfl rfl 1 (by decide) (hn.get mw_43 rfl) (fun _ h9 => h9) rfl dX9_put_21 ?_
  refine lv_iload_n hx hb dX9_put_24 rfl (lv_at hl 2 rfl) ?_
  refine lv_iload_n hx hb dX9_put_25 rfl (lv_at hl 0 rfl) ?_
  refine lv_ishr hx hb dX9_put_26 ?_
  refine lv_topi (fun z_14 ez_14 => ?_)
  refine lv_i2b hx hb dX9_put_27 rfl ?_
  refine lv_topi (fun z_15 ez_15 => ?_)
  refine va_bast hx hb hK hP hD hS 0 0 rfl rfl (vp_in_nI (by omega) (by decide)) dX9_put_28 (fun H locs hP hD hS => ?_)
  have hP : va_P D vwCl [(r, .inl (ct 0, 2000, .inl (upd f_12 (nI (k + 2)).toNatClampNeg (vp_nar .byte z_15)))), (h0, .inr (9, [.ref r, .int (nI (k + 2))]))] _ := hP
  have hD : va_D A [(r, .inl (ct 0, 2000, .inl (upd f_12 (nI (k + 2)).toNatClampNeg (vp_nar .byte z_15)))), (h0, .inr (9, [.ref r, .int (nI (k + 2))]))] := hD
  generalize (upd f_12 (nI (k + 2)).toNatClampNeg (vp_nar .byte z_15)) = f_16 at hP hD
  refine lv_aload_n hx hb dX9_put_29 rfl (lv_at hl 1 rfl) ?_
  refine lv_dup hx hb dX9_put_30 rfl ?_
  refine va_get (D := D) (ci := 9) (v := .int (nI (k + 2))) (C := RX9) (T := TX9) (N := 2) hx hb (htX9 hn) (fun _ h => h) hown hK hP 1 rfl rfl 1 (by decide) (hn.get mw_43 rfl) (fun _ h9 => h9) rfl dX9_put_31 ?_
  refine lv_iconst (v := 1) hx hb dX9_put_34 (by decide) ?_
  refine lv_iadd hx hb dX9_put_35 ?_
  refine top_c (v := nI (k + 3)) (nI_1 _) ?_
  refine va_put (D := D) (ci := 9) (v := .int (nI (k + 3))) (ty := .int) (C := RX9) (T := TX9) (N := 2) hx hb (htX9 hn) (fun _ h => h) tyX9 tyX9_ok nmX9 hown hK hP hD hS 1 rfl rfl 1 (by decide) (hn.get mw_43 rfl) (fun _ h9 => h9) rfl (by decide +kernel) rfl rfl (Nat.le_of_ble_eq_true rfl) dX9_put_36 (fun H locs hP hD hS => ?_)
  have hP : va_P D vwCl [(r, .inl (ct 0, 2000, .inl f_16)), (h0, .inr (9, [.ref r, .int (nI (k + 3))]))] _ := hP
  have hD : va_D A [(r, .inl (ct 0, 2000, .inl f_16)), (h0, .inr (9, [.ref r, .int (nI (k + 3))]))] := hD
  refine lv_iinc (v := 0) (lv' := [(2, .int 0), (0, .ref h0), (1, .int v)]) hx hb dX9_put_39 hl (k := 0) rfl (by decide) (by decide) rfl (fun ls hl => ?_)
  refine lv_goto (tgt := 12) hx hb dX9_put_42 (by decide) ?_
  refine lv_iload_n hx hb dX9_put_12 rfl (lv_at hl 0 rfl) ?_
  refine lv_if_lt (tgt := 45) hx hb dX9_put_13 (by decide) (fun c_17 => absurd c_17 (by decide)) (fun c_17 => ?_)
  refine lv_aload_n hx hb dX9_put_16 rfl (lv_at hl 1 rfl) ?_
  refine va_get (D := D) (ci := 9) (v := .ref r) (C := RX9) (T := TX9) (N := 2) hx hb (htX9 hn) (fun _ h => h) hown hK hP 1 rfl rfl 0 (by decide) (hn.get mw_42 rfl) (fun _ h9 => h9) rfl dX9_put_17 ?_
  refine lv_aload_n hx hb dX9_put_20 rfl (lv_at hl 1 rfl) ?_
  refine va_get (D := D) (ci := 9) (v := .int (nI (k + 3))) (C := RX9) (T := TX9) (N := 2) hx hb (htX9 hn) (fun _ h => h) hown hK hP 1 rfl rfl 1 (by decide) (hn.get mw_43 rfl) (fun _ h9 => h9) rfl dX9_put_21 ?_
  refine lv_iload_n hx hb dX9_put_24 rfl (lv_at hl 2 rfl) ?_
  refine lv_iload_n hx hb dX9_put_25 rfl (lv_at hl 0 rfl) ?_
  refine lv_ishr hx hb dX9_put_26 ?_
  refine lv_topi (fun z_18 ez_18 => ?_)
  refine lv_i2b hx hb dX9_put_27 rfl ?_
  refine lv_topi (fun z_19 ez_19 => ?_)
  refine va_bast hx hb hK hP hD hS 0 0 rfl rfl (vp_in_nI (by omega) (by decide)) dX9_put_28 (fun H locs hP hD hS => ?_)
  have hP : va_P D vwCl [(r, .inl (ct 0, 2000, .inl (upd f_16 (nI (k + 3)).toNatClampNeg (vp_nar .byte z_19)))), (h0, .inr (9, [.ref r, .int (nI (k + 3))]))] _ := hP
  have hD : va_D A [(r, .inl (ct 0, 2000, .inl (upd f_16 (nI (k + 3)).toNatClampNeg (vp_nar .byte z_19)))), (h0, .inr (9, [.ref r, .int (nI (k + 3))]))] := hD
  generalize (upd f_16 (nI (k + 3)).toNatClampNeg (vp_nar .byte z_19)) = f_20 at hP hD
  refine lv_aload_n hx hb dX9_put_29 rfl (lv_at hl 1 rfl) ?_
  refine lv_dup hx hb dX9_put_30 rfl ?_
  refine va_get (D := D) (ci := 9) (v := .int (nI (k + 3))) (C := RX9) (T := TX9) (N := 2) hx hb (htX9 hn) (fun _ h => h) hown hK hP 1 rfl rfl 1 (by decide) (hn.get mw_43 rfl) (fun _ h9 => h9) rfl dX9_put_31 ?_
  refine lv_iconst (v := 1) hx hb dX9_put_34 (by decide) ?_
  refine lv_iadd hx hb dX9_put_35 ?_
  refine top_c (v := nI (k + 4)) (nI_1 _) ?_
  refine va_put (D := D) (ci := 9) (v := .int (nI (k + 4))) (ty := .int) (C := RX9) (T := TX9) (N := 2) hx hb (htX9 hn) (fun _ h => h) tyX9 tyX9_ok nmX9 hown hK hP hD hS 1 rfl rfl 1 (by decide) (hn.get mw_43 rfl) (fun _ h9 => h9) rfl (by decide +kernel) rfl rfl (Nat.le_of_ble_eq_true rfl) dX9_put_36 (fun H locs hP hD hS => ?_)
  have hP : va_P D vwCl [(r, .inl (ct 0, 2000, .inl f_20)), (h0, .inr (9, [.ref r, .int (nI (k + 4))]))] _ := hP
  have hD : va_D A [(r, .inl (ct 0, 2000, .inl f_20)), (h0, .inr (9, [.ref r, .int (nI (k + 4))]))] := hD
  refine lv_iinc (v := (-8)) (lv' := [(2, .int (-8)), (0, .ref h0), (1, .int v)]) hx hb dX9_put_39 hl (k := 0) rfl (by decide) (by decide) rfl (fun ls hl => ?_)
  refine lv_goto (tgt := 12) hx hb dX9_put_42 (by decide) ?_
  refine lv_iload_n hx hb dX9_put_12 rfl (lv_at hl 0 rfl) ?_
  refine lv_if_lt (tgt := 45) hx hb dX9_put_13 (by decide) (fun c_21 => ?_) (fun c_21 => absurd (by decide) c_21)
  exact end_v hx hb hr hlocks dX9_put_45 f_20 trivial hP hD hS [1, 0] rfl (by decide) rfl (Nat.le_of_ble_eq_true rfl) (Nat.le_of_ble_eq_true rfl)
set_option maxHeartbeats 4000000 in
set_option maxRecDepth 100000 in
theorem c_X9_at (l : Launch) (D : va_G) (ct : Nat → ClassId) (h0 : Nat) (r : Nat) (px : Int32)  : KI (S := Unit) l yX9_at cX9_at 2 (some .int) 1 20 D ct [.ref h0, .int px] [(h0, .inr (9, [.ref r, .int 0]))] 0 0 (fun r _ => r = -1) (fun (_ : Unit) => [(h0, .inr (9, [.ref r, .int 0]))]) := by
  intro sz
  refine K_of (Qf := fun A => va_Qi (fun r _ => r = -1) (PoC D A (fun (_ : Unit) => [(h0, .inr (9, [.ref r, .int 0]))])) A) sz (by decide) (Nat.le_of_ble_eq_true rfl) (fun p e s m below meth c A C0 hA hS hP hD ls hl => ?_)
  obtain ⟨hx, hb, hr, hown, hin, hml, hlocks, hn, hK⟩ := C0
  have hl : lv_has ls 2 [(0, .ref h0), (1, .int px)] := hl
  refine lv_iload_n hx hb dX9_at_0 rfl (lv_at hl 1 rfl) ?_
  refine lv_if_lt (tgt := 19) hx hb dX9_at_1 (by decide) (fun c_1 => ?_) (fun c_1 => ?_)
  · refine lv_iconst (v := (-1)) hx hb dX9_at_19 (by decide) ?_
    refine lv_goto (tgt := 33) hx hb dX9_at_20 (by decide) ?_
    exact end_i hx hb hr hlocks dX9_at_33 rfl () rfl hP hD hS [0] rfl (by decide) rfl (Nat.le_of_ble_eq_true rfl) (Nat.le_of_ble_eq_true rfl)
  · refine lv_iload_n hx hb dX9_at_4 rfl (lv_at hl 1 rfl) ?_
    refine lv_aload_n hx hb dX9_at_5 rfl (lv_at hl 0 rfl) ?_
    refine va_get (D := D) (ci := 9) (v := .int 0) (C := RX9) (T := TX9) (N := 2) hx hb (htX9 hn) (fun _ h => h) hown hK hP 0 rfl rfl 1 (by decide) (hn.get mw_43 rfl) (fun _ h9 => h9) rfl dX9_at_6 ?_
    refine lv_icmp_ge (tgt := 19) hx hb dX9_at_9 (by decide) (fun c_2 => ?_) (fun c_2 => absurd (nle_of_nlt c_1) c_2)
    refine lv_iconst (v := (-1)) hx hb dX9_at_19 (by decide) ?_
    refine lv_goto (tgt := 33) hx hb dX9_at_20 (by decide) ?_
    exact end_i hx hb hr hlocks dX9_at_33 rfl () rfl hP hD hS [0] rfl (by decide) rfl (Nat.le_of_ble_eq_true rfl) (Nat.le_of_ble_eq_true rfl)
set_option maxHeartbeats 4000000 in
set_option maxRecDepth 100000 in
theorem c_X6_init (l : Launch) (D : va_G) (ct : Nat → ClassId) (h0 : Nat)  : KV (S := Nat × Nat) l yX6_init cX6_init 1 none 2 20 D ct [.ref h0] [(h0, .inr (6, [.null, .null, .int 0]))] 2 4112 (fun _ => True) (fun (u : Nat × Nat) => match u with | (a, b) => [(h0, .inr (6, [.ref a, .ref b, .int 0])), (a, .inl (ct 0, 4096, .inl (fun _ => 0))), (b, .inl (ct 1, 16, .inl (fun _ => 0)))]) := by
  intro sz
  refine K_of (Qf := fun A => va_Qv (fun _ => True) (PoC D A (fun (u : Nat × Nat) => match u with | (a, b) => [(h0, .inr (6, [.ref a, .ref b, .int 0])), (a, .inl (ct 0, 4096, .inl (fun _ => 0))), (b, .inl (ct 1, 16, .inl (fun _ => 0)))])) A) sz (by decide) (Nat.le_of_ble_eq_true rfl) (fun p e s m below meth c A C0 hA hS hP hD ls hl => ?_)
  obtain ⟨hx, hb, hr, hown, hin, hml, hlocks, hn, hK⟩ := C0
  have hl : lv_has ls 1 [(0, .ref h0)] := hl
  refine lv_aload_n hx hb dX6_init_0 rfl (lv_at hl 0 rfl) ?_
  refine W.objInit hx hb hown (hn.get mw_60 rfl) (hn.get mw_34 rfl) (hn.get mw_oi rfl) rfl (by rw [hml]; exact hl.1) rfl dX6_init_1 (Nat.le_of_ble_eq_true rfl) (Nat.le_of_ble_eq_true rfl) ?_
  refine W.eq (g2 := F0 m 4 ls []) rfl ?_
  refine lv_aload_n hx hb dX6_init_4 rfl (lv_at hl 0 rfl) ?_
  refine lv_sipush (v := 4096) hx hb dX6_init_5 (by decide) ?_
  refine na_new (atype := .byte) (k1 := 1) (n1 := 4096) hx hb hn mw_54 rfl hK hP hD hS hA 0 rfl 4096 (4096, .inl (fun _ => 0)) (fun _ => rfl) (by decide) (by decide) (Nat.le_of_ble_eq_true rfl) (Nat.le_of_ble_eq_true rfl) (Nat.le_of_ble_eq_true rfl) (Nat.le_of_ble_eq_true rfl) (Nat.le_of_ble_eq_true rfl) dX6_init_8 (fun q_1 H hP hD hS => ?_)
  have hP : va_P D vwCl [(h0, .inr (6, [.null, .null, .int 0])), (q_1, .inl (ct 0, 4096, .inl (fun _ => 0)))] _ := hP
  have hD : va_D A [(h0, .inr (6, [.null, .null, .int 0])), (q_1, .inl (ct 0, 4096, .inl (fun _ => 0)))] := hD
  refine va_putF (D := D) (ci := 6) (v := .ref q_1) (ty := .array .byte) (C := RX6) (T := TX6) (N := 3) hx hb (htX6 hn) (fun _ h => h) tyX6 tyX6_ok nmX6 hown hK hP hD hS 0 rfl rfl 0 (by decide) (hn.get mw_61 rfl) (fun _ h9 => h9) rfl hin rfl (by decide +kernel) rfl rfl (Nat.le_of_ble_eq_true rfl) dX6_init_10 (fun H locs hP hD hS => ?_)
  have hP : va_P D vwCl [(h0, .inr (6, [.ref q_1, .null, .int 0])), (q_1, .inl (ct 0, 4096, .inl (fun _ => 0)))] _ := hP
  have hD : va_D A [(h0, .inr (6, [.ref q_1, .null, .int 0])), (q_1, .inl (ct 0, 4096, .inl (fun _ => 0)))] := hD
  refine lv_aload_n hx hb dX6_init_13 rfl (lv_at hl 0 rfl) ?_
  refine lv_bipush (v := 16) hx hb dX6_init_14 (by decide) ?_
  refine na_new (atype := .int) (k1 := 2) (n1 := 4112) hx hb hn mw_72 rfl hK hP hD hS hA 1 rfl 16 (16, .inl (fun _ => 0)) (fun _ => rfl) (by decide) (by decide) (Nat.le_of_ble_eq_true rfl) (Nat.le_of_ble_eq_true rfl) (Nat.le_of_ble_eq_true rfl) (Nat.le_of_ble_eq_true rfl) (Nat.le_of_ble_eq_true rfl) dX6_init_16 (fun q_2 H hP hD hS => ?_)
  have hP : va_P D vwCl [(h0, .inr (6, [.ref q_1, .null, .int 0])), (q_1, .inl (ct 0, 4096, .inl (fun _ => 0))), (q_2, .inl (ct 1, 16, .inl (fun _ => 0)))] _ := hP
  have hD : va_D A [(h0, .inr (6, [.ref q_1, .null, .int 0])), (q_1, .inl (ct 0, 4096, .inl (fun _ => 0))), (q_2, .inl (ct 1, 16, .inl (fun _ => 0)))] := hD
  refine va_putF (D := D) (ci := 6) (v := .ref q_2) (ty := .array .int) (C := RX6) (T := TX6) (N := 3) hx hb (htX6 hn) (fun _ h => h) tyX6 tyX6_ok nmX6 hown hK hP hD hS 0 rfl rfl 1 (by decide) (hn.get mw_62 rfl) (fun _ h9 => h9) rfl hin rfl (by decide +kernel) rfl rfl (Nat.le_of_ble_eq_true rfl) dX6_init_18 (fun H locs hP hD hS => ?_)
  have hP : va_P D vwCl [(h0, .inr (6, [.ref q_1, .ref q_2, .int 0])), (q_1, .inl (ct 0, 4096, .inl (fun _ => 0))), (q_2, .inl (ct 1, 16, .inl (fun _ => 0)))] _ := hP
  have hD : va_D A [(h0, .inr (6, [.ref q_1, .ref q_2, .int 0])), (q_1, .inl (ct 0, 4096, .inl (fun _ => 0))), (q_2, .inl (ct 1, 16, .inl (fun _ => 0)))] := hD
  exact end_v hx hb hr hlocks dX6_init_21 (q_1, q_2) trivial hP hD hS [0, 1, 2] rfl (by decide) rfl (Nat.le_of_ble_eq_true rfl) (Nat.le_of_ble_eq_true rfl)
set_option maxHeartbeats 4000000 in
set_option maxRecDepth 100000 in
theorem c_X6_add (l : Launch) (D : va_G) (ct : Nat → ClassId) (k0 : Nat) (ka : Nat) (kb : Nat) (t0 : Nat) (tr : Nat) (f : Nat → Int32)  : KI (S := Nat → Int32) l yX6_add cX6_add 3 (some .int) 1 20 D ct [.ref k0, .ref t0] [(k0, .inr (6, [.ref ka, .ref kb, .int 0])), (kb, .inl (ct 1, 16, .inl f)), (t0, .inr (9, [.ref tr, .int 0]))] 0 0 (fun r _ => r = 0) (fun (g : Nat → Int32) => [(k0, .inr (6, [.ref ka, .ref kb, .int 1])), (kb, .inl (ct 1, 16, .inl g)), (t0, .inr (9, [.ref tr, .int 0]))]) := by
  intro sz
  refine K_of (Qf := fun A => va_Qi (fun r _ => r = 0) (PoC D A (fun (g : Nat → Int32) => [(k0, .inr (6, [.ref ka, .ref kb, .int 1])), (kb, .inl (ct 1, 16, .inl g)), (t0, .inr (9, [.ref tr, .int 0]))])) A) sz (by decide) (Nat.le_of_ble_eq_true rfl) (fun p e s m below meth c A C0 hA hS hP hD ls hl => ?_)
  obtain ⟨hx, hb, hr, hown, hin, hml, hlocks, hn, hK⟩ := C0
  have hl : lv_has ls 3 [(0, .ref k0), (1, .ref t0)] := hl
  refine lv_aload_n hx hb dX6_add_0 rfl (lv_at hl 0 rfl) ?_
  refine va_get (D := D) (ci := 6) (v := .int 0) (C := RX6) (T := TX6) (N := 3) hx hb (htX6 hn) (fun _ h => h) hown hK hP 0 rfl rfl 2 (by decide) (hn.get mw_63 rfl) (fun _ h9 => h9) rfl dX6_add_1 ?_
  refine lv_bipush (v := 16) hx hb dX6_add_4 (by decide) ?_
  refine lv_icmp_lt (tgt := 11) hx hb dX6_add_6 (by decide) (fun c_1 => ?_) (fun c_1 => absurd (by decide) c_1)
  refine lv_aload_n hx hb dX6_add_11 rfl (lv_at hl 1 rfl) ?_
  refine va_getN (D := D) (ci := 9) (v := .int 0) (C := RX9) (T := TX9) (N := 2) hx hb (htX9 hn) (fun _ h => h) hown hK hP 2 rfl rfl 1 (by decide) (hn.get mw_46 rfl) (fun _ h9 => h9) rfl dX6_add_12 ?_
  refine lv_sipush (v := 256) hx hb dX6_add_15 (by decide) ?_
  refine lv_icmp_le (tgt := 24) hx hb dX6_add_18 (by decide) (fun c_2 => ?_) (fun c_2 => absurd (by decide) c_2)
  refine lv_iconst (v := 0) hx hb dX6_add_24 (by decide) ?_
  refine lv_istore_n (lv' := [(2, .int 0), (0, .ref k0), (1, .ref t0)]) hx hb dX6_add_25 rfl hl (by decide) rfl (fun ls hl => ?_)
  refine lv_iload_n hx hb dX6_add_26 rfl (lv_at hl 0 rfl) ?_
  refine lv_aload_n hx hb dX6_add_27 rfl (lv_at hl 2 rfl) ?_
  refine va_getN (D := D) (ci := 9) (v := .int 0) (C := RX9) (T := TX9) (N := 2) hx hb (htX9 hn) (fun _ h => h) hown hK hP 2 rfl rfl 1 (by decide) (hn.get mw_46 rfl) (fun _ h9 => h9) rfl dX6_add_28 ?_
  refine lv_icmp_ge (tgt := 61) hx hb dX6_add_31 (by decide) (fun c_3 => ?_) (fun c_3 => absurd (by decide) c_3)
  refine lv_aload_n hx hb dX6_add_61 rfl (lv_at hl 1 rfl) ?_
  refine va_get (D := D) (ci := 6) (v := .ref kb) (C := RX6) (T := TX6) (N := 3) hx hb (htX6 hn) (fun _ h => h) hown hK hP 0 rfl rfl 1 (by decide) (hn.get mw_62 rfl) (fun _ h9 => h9) rfl dX6_add_62 ?_
  refine lv_aload_n hx hb dX6_add_65 rfl (lv_at hl 1 rfl) ?_
  refine va_get (D := D) (ci := 6) (v := .int 0) (C := RX6) (T := TX6) (N := 3) hx hb (htX6 hn) (fun _ h => h) hown hK hP 0 rfl rfl 2 (by decide) (hn.get mw_63 rfl) (fun _ h9 => h9) rfl dX6_add_66 ?_
  refine lv_aload_n hx hb dX6_add_69 rfl (lv_at hl 2 rfl) ?_
  refine va_getN (D := D) (ci := 9) (v := .int 0) (C := RX9) (T := TX9) (N := 2) hx hb (htX9 hn) (fun _ h => h) hown hK hP 2 rfl rfl 1 (by decide) (hn.get mw_46 rfl) (fun _ h9 => h9) rfl dX6_add_70 ?_
  refine va_iast hx hb hK hP hD hS 1 1 rfl rfl (vp_in_nI (n := 0) (by decide) (by decide)) dX6_add_73 (fun H locs hP hD hS => ?_)
  have hP : va_P D vwCl [(k0, .inr (6, [.ref ka, .ref kb, .int 0])), (kb, .inl (ct 1, 16, .inl (upd f (0 : Int32).toNatClampNeg 0))), (t0, .inr (9, [.ref tr, .int 0]))] _ := hP
  have hD : va_D A [(k0, .inr (6, [.ref ka, .ref kb, .int 0])), (kb, .inl (ct 1, 16, .inl (upd f (0 : Int32).toNatClampNeg 0))), (t0, .inr (9, [.ref tr, .int 0]))] := hD
  generalize (upd f (0 : Int32).toNatClampNeg 0) = f_4 at hP hD
  refine lv_aload_n hx hb dX6_add_74 rfl (lv_at hl 1 rfl) ?_
  refine lv_dup hx hb dX6_add_75 rfl ?_
  refine va_get (D := D) (ci := 6) (v := .int 0) (C := RX6) (T := TX6) (N := 3) hx hb (htX6 hn) (fun _ h => h) hown hK hP 0 rfl rfl 2 (by decide) (hn.get mw_63 rfl) (fun _ h9 => h9) rfl dX6_add_76 ?_
  refine lv_iconst (v := 1) hx hb dX6_add_79 (by decide) ?_
  refine lv_iadd hx hb dX6_add_80 ?_
  refine top_c (v := 1) (by decide) ?_
  refine va_put (D := D) (ci := 6) (v := .int 1) (ty := .int) (C := RX6) (T := TX6) (N := 3) hx hb (htX6 hn) (fun _ h => h) tyX6 tyX6_ok nmX6 hown hK hP hD hS 0 rfl rfl 2 (by decide) (hn.get mw_63 rfl) (fun _ h9 => h9) rfl (by decide +kernel) rfl rfl (Nat.le_of_ble_eq_true rfl) dX6_add_81 (fun H locs hP hD hS => ?_)
  have hP : va_P D vwCl [(k0, .inr (6, [.ref ka, .ref kb, .int 1])), (kb, .inl (ct 1, 16, .inl f_4)), (t0, .inr (9, [.ref tr, .int 0]))] _ := hP
  have hD : va_D A [(k0, .inr (6, [.ref ka, .ref kb, .int 1])), (kb, .inl (ct 1, 16, .inl f_4)), (t0, .inr (9, [.ref tr, .int 0]))] := hD
  refine lv_aload_n hx hb dX6_add_84 rfl (lv_at hl 1 rfl) ?_
  refine va_get (D := D) (ci := 6) (v := .int 1) (C := RX6) (T := TX6) (N := 3) hx hb (htX6 hn) (fun _ h => h) hown hK hP 0 rfl rfl 2 (by decide) (hn.get mw_63 rfl) (fun _ h9 => h9) rfl dX6_add_85 ?_
  refine lv_iconst (v := 1) hx hb dX6_add_88 (by decide) ?_
  refine lv_isub hx hb dX6_add_89 ?_
  refine top_c (v := 0) (by decide) ?_
  exact end_i hx hb hr hlocks dX6_add_90 rfl f_4 rfl hP hD hS [0, 1, 2] rfl (by decide) rfl (Nat.le_of_ble_eq_true rfl) (Nat.le_of_ble_eq_true rfl)
set_option maxHeartbeats 4000000 in
set_option maxRecDepth 100000 in
theorem c_X6_lengthOf (l : Launch) (D : va_G) (ct : Nat → ClassId) (k0 : Nat) (ka : Nat) (kb : Nat) (px : Int32)  : KI (S := Unit) l yX6_lengthOf cX6_lengthOf 2 (some .int) 1 20 D ct [.ref k0, .int px] [(k0, .inr (6, [.ref ka, .ref kb, .int 0]))] 0 0 (fun r _ => r = -1) (fun (_ : Unit) => [(k0, .inr (6, [.ref ka, .ref kb, .int 0]))]) := by
  intro sz
  refine K_of (Qf := fun A => va_Qi (fun r _ => r = -1) (PoC D A (fun (_ : Unit) => [(k0, .inr (6, [.ref ka, .ref kb, .int 0]))])) A) sz (by decide) (Nat.le_of_ble_eq_true rfl) (fun p e s m below meth c A C0 hA hS hP hD ls hl => ?_)
  obtain ⟨hx, hb, hr, hown, hin, hml, hlocks, hn, hK⟩ := C0
  have hl : lv_has ls 2 [(0, .ref k0), (1, .int px)] := hl
  refine lv_iload_n hx hb dX6_lengthOf_0 rfl (lv_at hl 1 rfl) ?_
  refine lv_if_lt (tgt := 12) hx hb dX6_lengthOf_1 (by decide) (fun c_1 => ?_) (fun c_1 => ?_)
  · refine lv_iconst (v := (-1)) hx hb dX6_lengthOf_12 (by decide) ?_
    refine lv_goto (tgt := 22) hx hb dX6_lengthOf_13 (by decide) ?_
    exact end_i hx hb hr hlocks dX6_lengthOf_22 rfl () rfl hP hD hS [0] rfl (by decide) rfl (Nat.le_of_ble_eq_true rfl) (Nat.le_of_ble_eq_true rfl)
  · refine lv_iload_n hx hb dX6_lengthOf_4 rfl (lv_at hl 1 rfl) ?_
    refine lv_aload_n hx hb dX6_lengthOf_5 rfl (lv_at hl 0 rfl) ?_
    refine va_get (D := D) (ci := 6) (v := .int 0) (C := RX6) (T := TX6) (N := 3) hx hb (htX6 hn) (fun _ h => h) hown hK hP 0 rfl rfl 2 (by decide) (hn.get mw_63 rfl) (fun _ h9 => h9) rfl dX6_lengthOf_6 ?_
    refine lv_icmp_lt (tgt := 16) hx hb dX6_lengthOf_9 (by decide) (fun c_2 => absurd c_2 (c_1)) (fun c_2 => ?_)
    refine lv_iconst (v := (-1)) hx hb dX6_lengthOf_12 (by decide) ?_
    refine lv_goto (tgt := 22) hx hb dX6_lengthOf_13 (by decide) ?_
    exact end_i hx hb hr hlocks dX6_lengthOf_22 rfl () rfl hP hD hS [0] rfl (by decide) rfl (Nat.le_of_ble_eq_true rfl) (Nat.le_of_ble_eq_true rfl)
set_option maxHeartbeats 4000000 in
set_option maxRecDepth 100000 in
theorem c_X6_at (l : Launch) (D : va_G) (ct : Nat → ClassId) (k0 : Nat) (ka : Nat) (kb : Nat) (px : Int32) (j : Int64)  : KI (S := Unit) l yX6_at cX6_at 4 (some .int) 2 41 D ct [.ref k0, .int px, .long j] [(k0, .inr (6, [.ref ka, .ref kb, .int 0]))] 0 0 (fun r _ => r = -1) (fun (_ : Unit) => [(k0, .inr (6, [.ref ka, .ref kb, .int 0]))]) := by
  intro sz
  refine K_of (Qf := fun A => va_Qi (fun r _ => r = -1) (PoC D A (fun (_ : Unit) => [(k0, .inr (6, [.ref ka, .ref kb, .int 0]))])) A) sz (by decide) (Nat.le_of_ble_eq_true rfl) (fun p e s m below meth c A C0 hA hS hP hD ls hl => ?_)
  obtain ⟨hx, hb, hr, hown, hin, hml, hlocks, hn, hK⟩ := C0
  have hl : lv_has ls 4 [(0, .ref k0), (1, .int px), (2, .long j)] := hl
  refine lv_lload_n hx hb dX6_at_0 rfl (lv_at hl 2 rfl) ?_
  refine lv_lconst (v := 0) hx hb dX6_at_1 (by decide) ?_
  refine W.lcmp hx hb dX6_at_2 ?_
  refine lv_topi (fun z_1 ez_1 => ?_)
  refine lv_if_lt (tgt := 17) hx hb dX6_at_3 (by decide) (fun c_2 => ?_) (fun c_2 => ?_)
  · refine lv_iconst (v := (-1)) hx hb dX6_at_17 (by decide) ?_
    refine lv_goto (tgt := 38) hx hb dX6_at_18 (by decide) ?_
    exact end_i hx hb hr hlocks dX6_at_38 rfl () rfl hP hD hS [0] rfl (by decide) rfl (Nat.le_of_ble_eq_true rfl) (Nat.le_of_ble_eq_true rfl)
  · refine lv_lload_n hx hb dX6_at_6 rfl (lv_at hl 2 rfl) ?_
    refine lv_aload_n hx hb dX6_at_7 rfl (lv_at hl 0 rfl) ?_
    refine lv_iload_n hx hb dX6_at_8 rfl (lv_at hl 1 rfl) ?_
    have hPc := hP.sub (ws' := [(k0, .inr (6, [.ref ka, .ref kb, .int 0]))]) [0] rfl
    have hDc := hD.sub (ws' := [(k0, .inr (6, [.ref ka, .ref kb, .int 0]))]) [0] (by decide) rfl
    refine go_i (k1 := 0) (n1 := 0) (wr := []) [0] [] (rn_V (As := [.int px]) (rest := [.long j]) (c_X6_lengthOf l D ct k0 ka kb px  _) (cb_of (n := 1) hn mw_468 mw_3 mw_465 mhX6_lengthOf ⟨Nat.le_of_ble_eq_true rfl, Nat.le_of_ble_eq_true rfl⟩) hx hb hml hown hn hK hPc hDc mw_467 mw_s6 (ci := 6) (q0 := 0) rfl rfl rfl rfl hl.1 (Nat.le_of_ble_eq_true rfl) dX6_at_9 ⟨(Nat.le_of_ble_eq_true rfl), (Nat.le_of_ble_eq_true rfl)⟩) hP hD hS hA rfl rfl (by decide) (by decide) (Nat.le_of_ble_eq_true rfl) (Nat.le_of_ble_eq_true rfl) (fun r_3 u_4 H locs hp_5 hP hD hS => ?_)
    have hr_3 := hp_5
    rw [show r_3 = (-1) from hr_3]
    have hP : va_P D vwCl [(k0, .inr (6, [.ref ka, .ref kb, .int 0]))] _ := hP
    have hD : va_D A [(k0, .inr (6, [.ref ka, .ref kb, .int 0]))] := hD
    refine lv_i2l (v := (-1)) hx hb dX6_at_12 (by decide) ?_
    refine W.lcmp hx hb dX6_at_13 ?_
    refine lv_topi (fun z_6 ez_6 => ?_)
    refine lv_if_lt (tgt := 21) hx hb dX6_at_14 (by decide) (fun c_7 => absurd c_7 (cmp_m1 ez_1 ez_6 c_2)) (fun c_7 => ?_)
    refine lv_iconst (v := (-1)) hx hb dX6_at_17 (by decide) ?_
    refine lv_goto (tgt := 38) hx hb dX6_at_18 (by decide) ?_
    exact end_i hx hb hr hlocks dX6_at_38 rfl () rfl hP hD hS [0] rfl (by decide) rfl (Nat.le_of_ble_eq_true rfl) (Nat.le_of_ble_eq_true rfl)
set_option maxHeartbeats 4000000 in
set_option maxRecDepth 100000 in
theorem c_X6_eightFrom (l : Launch) (D : va_G) (ct : Nat → ClassId) (k0 : Nat) (ka : Nat) (kb : Nat) (px : Int32) (j : Int32)  : KL (S := Unit) l yX6_eightFrom cX6_eightFrom 7 (some .long) 3 64 D ct [.ref k0, .int px, .int j] [(k0, .inr (6, [.ref ka, .ref kb, .int 0]))] 0 0 (fun r _ => r = -1) (fun (_ : Unit) => [(k0, .inr (6, [.ref ka, .ref kb, .int 0]))]) := by
  intro sz
  refine K_of (Qf := fun A => va_Ql (fun r _ => r = -1) (PoC D A (fun (_ : Unit) => [(k0, .inr (6, [.ref ka, .ref kb, .int 0]))])) A) sz (by decide) (Nat.le_of_ble_eq_true rfl) (fun p e s m below meth c A C0 hA hS hP hD ls hl => ?_)
  obtain ⟨hx, hb, hr, hown, hin, hml, hlocks, hn, hK⟩ := C0
  have hl : lv_has ls 7 [(0, .ref k0), (1, .int px), (2, .int j)] := hl
  refine lv_aload_n hx hb dX6_eightFrom_0 rfl (lv_at hl 0 rfl) ?_
  refine lv_iload_n hx hb dX6_eightFrom_1 rfl (lv_at hl 1 rfl) ?_
  refine lv_iload_n hx hb dX6_eightFrom_2 rfl (lv_at hl 2 rfl) ?_
  refine lv_i2l hx hb dX6_eightFrom_3 rfl ?_
  refine lv_topl (fun z_1 ez_1 => ?_)
  have hPc := hP.sub (ws' := [(k0, .inr (6, [.ref ka, .ref kb, .int 0]))]) [0] rfl
  have hDc := hD.sub (ws' := [(k0, .inr (6, [.ref ka, .ref kb, .int 0]))]) [0] (by decide) rfl
  refine go_i (k1 := 0) (n1 := 0) (wr := []) [0] [] (rn_V (As := [.int px, .long z_1]) (rest := []) (c_X6_at l D ct k0 ka kb px z_1  _) (cb_of (n := 2) hn mw_464 mw_3 mw_461 mhX6_at ⟨Nat.le_of_ble_eq_true rfl, Nat.le_of_ble_eq_true rfl⟩) hx hb hml hown hn hK hPc hDc mw_463 mw_s5 (ci := 6) (q0 := 0) rfl rfl rfl rfl hl.1 (Nat.le_of_ble_eq_true rfl) dX6_eightFrom_4 ⟨(Nat.le_of_ble_eq_true rfl), (Nat.le_of_ble_eq_true rfl)⟩) hP hD hS hA rfl rfl (by decide) (by decide) (Nat.le_of_ble_eq_true rfl) (Nat.le_of_ble_eq_true rfl) (fun r_2 u_3 H locs hp_4 hP hD hS => ?_)
  have hr_2 := hp_4
  rw [show r_2 = (-1) from hr_2]
  have hP : va_P D vwCl [(k0, .inr (6, [.ref ka, .ref kb, .int 0]))] _ := hP
  have hD : va_D A [(k0, .inr (6, [.ref ka, .ref kb, .int 0]))] := hD
  refine lv_if_ge (tgt := 14) hx hb dX6_eightFrom_7 (by decide) (fun c_5 => absurd c_5 (by decide)) (fun c_5 => ?_)
  refine lv_ldc2 (v := (-1)) hx hb hown (hn.get mw_469 rfl) dX6_eightFrom_10 ?_
  exact end_l hx hb hr hlocks dX6_eightFrom_13 () rfl hP hD hS [0] rfl (by decide) rfl (Nat.le_of_ble_eq_true rfl) (Nat.le_of_ble_eq_true rfl)
set_option maxHeartbeats 4000000 in
set_option maxRecDepth 100000 in
theorem c_X4_init (l : Launch) (D : va_G) (ct : Nat → ClassId) (h0 : Nat) (k0 : Nat)  : KV (S := Nat × Nat) l yX4_init cX4_init 2 none 2 20 D ct [.ref h0, .ref k0] [(h0, .inr (4, [.null, .null, .null, .int 0, .int 0, .int 0, .int 0, .int 0, .long 0, .int 0]))] 2 96 (fun _ => True) (fun (u : Nat × Nat) => match u with | (a, b) => [(h0, .inr (4, [.ref a, .ref b, .ref k0, .int 0, .int 0, .int 0, .int 0, .int 0, .long 0, .int 0])), (a, .inl (ct 2, 32, .inr (.inl (fun _ => 0)))), (b, .inl (ct 0, 64, .inl (fun _ => 0)))]) := by
  intro sz
  refine K_of (Qf := fun A => va_Qv (fun _ => True) (PoC D A (fun (u : Nat × Nat) => match u with | (a, b) => [(h0, .inr (4, [.ref a, .ref b, .ref k0, .int 0, .int 0, .int 0, .int 0, .int 0, .long 0, .int 0])), (a, .inl (ct 2, 32, .inr (.inl (fun _ => 0)))), (b, .inl (ct 0, 64, .inl (fun _ => 0)))])) A) sz (by decide) (Nat.le_of_ble_eq_true rfl) (fun p e s m below meth c A C0 hA hS hP hD ls hl => ?_)
  obtain ⟨hx, hb, hr, hown, hin, hml, hlocks, hn, hK⟩ := C0
  have hl : lv_has ls 2 [(0, .ref h0), (1, .ref k0)] := hl
  refine lv_aload_n hx hb dX4_init_0 rfl (lv_at hl 0 rfl) ?_
  refine W.objInit hx hb hown (hn.get mw_78 rfl) (hn.get mw_34 rfl) (hn.get mw_oi rfl) rfl (by rw [hml]; exact hl.1) rfl dX4_init_1 (Nat.le_of_ble_eq_true rfl) (Nat.le_of_ble_eq_true rfl) ?_
  refine W.eq (g2 := F0 m 4 ls []) rfl ?_
  refine lv_aload_n hx hb dX4_init_4 rfl (lv_at hl 0 rfl) ?_
  refine lv_bipush (v := 32) hx hb dX4_init_5 (by decide) ?_
  refine na_new (atype := .long) (k1 := 1) (n1 := 32) hx hb hn mw_123 rfl hK hP hD hS hA 2 rfl 32 (32, .inr (.inl (fun _ => 0))) (fun _ => rfl) (by decide) (by decide) (Nat.le_of_ble_eq_true rfl) (Nat.le_of_ble_eq_true rfl) (Nat.le_of_ble_eq_true rfl) (Nat.le_of_ble_eq_true rfl) (Nat.le_of_ble_eq_true rfl) dX4_init_7 (fun q_1 H hP hD hS => ?_)
  have hP : va_P D vwCl [(h0, .inr (4, [.null, .null, .null, .int 0, .int 0, .int 0, .int 0, .int 0, .long 0, .int 0])), (q_1, .inl (ct 2, 32, .inr (.inl (fun _ => 0))))] _ := hP
  have hD : va_D A [(h0, .inr (4, [.null, .null, .null, .int 0, .int 0, .int 0, .int 0, .int 0, .long 0, .int 0])), (q_1, .inl (ct 2, 32, .inr (.inl (fun _ => 0))))] := hD
  refine va_putF (D := D) (ci := 4) (v := .ref q_1) (ty := .array .long) (C := RX4) (T := TX4) (N := 10) hx hb (htX4 hn) (fun _ h => h) tyX4 tyX4_ok nmX4 hown hK hP hD hS 0 rfl rfl 0 (by decide) (hn.get mw_79 rfl) (fun _ h9 => h9) rfl hin rfl (by decide +kernel) rfl rfl (Nat.le_of_ble_eq_true rfl) dX4_init_9 (fun H locs hP hD hS => ?_)
  have hP : va_P D vwCl [(h0, .inr (4, [.ref q_1, .null, .null, .int 0, .int 0, .int 0, .int 0, .int 0, .long 0, .int 0])), (q_1, .inl (ct 2, 32, .inr (.inl (fun _ => 0))))] _ := hP
  have hD : va_D A [(h0, .inr (4, [.ref q_1, .null, .null, .int 0, .int 0, .int 0, .int 0, .int 0, .long 0, .int 0])), (q_1, .inl (ct 2, 32, .inr (.inl (fun _ => 0))))] := hD
  refine lv_aload_n hx hb dX4_init_12 rfl (lv_at hl 0 rfl) ?_
  refine lv_bipush (v := 64) hx hb dX4_init_13 (by decide) ?_
  refine na_new (atype := .byte) (k1 := 2) (n1 := 96) hx hb hn mw_54 rfl hK hP hD hS hA 0 rfl 64 (64, .inl (fun _ => 0)) (fun _ => rfl) (by decide) (by decide) (Nat.le_of_ble_eq_true rfl) (Nat.le_of_ble_eq_true rfl) (Nat.le_of_ble_eq_true rfl) (Nat.le_of_ble_eq_true rfl) (Nat.le_of_ble_eq_true rfl) dX4_init_15 (fun q_2 H hP hD hS => ?_)
  have hP : va_P D vwCl [(h0, .inr (4, [.ref q_1, .null, .null, .int 0, .int 0, .int 0, .int 0, .int 0, .long 0, .int 0])), (q_1, .inl (ct 2, 32, .inr (.inl (fun _ => 0)))), (q_2, .inl (ct 0, 64, .inl (fun _ => 0)))] _ := hP
  have hD : va_D A [(h0, .inr (4, [.ref q_1, .null, .null, .int 0, .int 0, .int 0, .int 0, .int 0, .long 0, .int 0])), (q_1, .inl (ct 2, 32, .inr (.inl (fun _ => 0)))), (q_2, .inl (ct 0, 64, .inl (fun _ => 0)))] := hD
  refine va_putF (D := D) (ci := 4) (v := .ref q_2) (ty := .array .byte) (C := RX4) (T := TX4) (N := 10) hx hb (htX4 hn) (fun _ h => h) tyX4 tyX4_ok nmX4 hown hK hP hD hS 0 rfl rfl 1 (by decide) (hn.get mw_80 rfl) (fun _ h9 => h9) rfl hin rfl (by decide +kernel) rfl rfl (Nat.le_of_ble_eq_true rfl) dX4_init_17 (fun H locs hP hD hS => ?_)
  have hP : va_P D vwCl [(h0, .inr (4, [.ref q_1, .ref q_2, .null, .int 0, .int 0, .int 0, .int 0, .int 0, .long 0, .int 0])), (q_1, .inl (ct 2, 32, .inr (.inl (fun _ => 0)))), (q_2, .inl (ct 0, 64, .inl (fun _ => 0)))] _ := hP
  have hD : va_D A [(h0, .inr (4, [.ref q_1, .ref q_2, .null, .int 0, .int 0, .int 0, .int 0, .int 0, .long 0, .int 0])), (q_1, .inl (ct 2, 32, .inr (.inl (fun _ => 0)))), (q_2, .inl (ct 0, 64, .inl (fun _ => 0)))] := hD
  refine lv_aload_n hx hb dX4_init_20 rfl (lv_at hl 0 rfl) ?_
  refine lv_aload_n hx hb dX4_init_21 rfl (lv_at hl 1 rfl) ?_
  refine va_putF (D := D) (ci := 4) (v := .ref k0) (ty := .object "FilterForge$Packets") (C := RX4) (T := TX4) (N := 10) hx hb (htX4 hn) (fun _ h => h) tyX4 tyX4_ok nmX4 hown hK hP hD hS 0 rfl rfl 2 (by decide) (hn.get mw_82 rfl) (fun _ h9 => h9) rfl hin rfl (by decide +kernel) rfl rfl (Nat.le_of_ble_eq_true rfl) dX4_init_22 (fun H locs hP hD hS => ?_)
  have hP : va_P D vwCl [(h0, .inr (4, [.ref q_1, .ref q_2, .ref k0, .int 0, .int 0, .int 0, .int 0, .int 0, .long 0, .int 0])), (q_1, .inl (ct 2, 32, .inr (.inl (fun _ => 0)))), (q_2, .inl (ct 0, 64, .inl (fun _ => 0)))] _ := hP
  have hD : va_D A [(h0, .inr (4, [.ref q_1, .ref q_2, .ref k0, .int 0, .int 0, .int 0, .int 0, .int 0, .long 0, .int 0])), (q_1, .inl (ct 2, 32, .inr (.inl (fun _ => 0)))), (q_2, .inl (ct 0, 64, .inl (fun _ => 0)))] := hD
  exact end_v hx hb hr hlocks dX4_init_25 (q_1, q_2) trivial hP hD hS [0, 1, 2] rfl (by decide) rfl (Nat.le_of_ble_eq_true rfl) (Nat.le_of_ble_eq_true rfl)
set_option maxHeartbeats 4000000 in
set_option maxRecDepth 100000 in
theorem c_X5_init (l : Launch) (D : va_G) (ct : Nat → ClassId) (h0 : Nat)  : KV (S := Nat) l yX5_init cX5_init 1 none 2 20 D ct [.ref h0] [(h0, .inr (5, [.null, .int 0]))] 1 60000 (fun _ => True) (fun (r : Nat) => [(h0, .inr (5, [.ref r, .int 0])), (r, .inl (ct 1, 60000, .inl (fun _ => 0)))]) := by
  intro sz
  refine K_of (Qf := fun A => va_Qv (fun _ => True) (PoC D A (fun (r : Nat) => [(h0, .inr (5, [.ref r, .int 0])), (r, .inl (ct 1, 60000, .inl (fun _ => 0)))])) A) sz (by decide) (Nat.le_of_ble_eq_true rfl) (fun p e s m below meth c A C0 hA hS hP hD ls hl => ?_)
  obtain ⟨hx, hb, hr, hown, hin, hml, hlocks, hn, hK⟩ := C0
  have hl : lv_has ls 1 [(0, .ref h0)] := hl
  refine lv_aload_n hx hb dX5_init_0 rfl (lv_at hl 0 rfl) ?_
  refine W.objInit hx hb hown (hn.get mw_129 rfl) (hn.get mw_34 rfl) (hn.get mw_oi rfl) rfl (by rw [hml]; exact hl.1) rfl dX5_init_1 (Nat.le_of_ble_eq_true rfl) (Nat.le_of_ble_eq_true rfl) ?_
  refine W.eq (g2 := F0 m 4 ls []) rfl ?_
  refine lv_aload_n hx hb dX5_init_4 rfl (lv_at hl 0 rfl) ?_
  refine lv_ldc (v := 60000) hx hb hown (hn.get mw_130 rfl) dX5_init_5 ?_
  refine na_new (atype := .int) (k1 := 1) (n1 := 60000) hx hb hn mw_72 rfl hK hP hD hS hA 1 rfl 60000 (60000, .inl (fun _ => 0)) (fun _ => rfl) (by decide) (by decide) (Nat.le_of_ble_eq_true rfl) (Nat.le_of_ble_eq_true rfl) (Nat.le_of_ble_eq_true rfl) (Nat.le_of_ble_eq_true rfl) (Nat.le_of_ble_eq_true rfl) dX5_init_7 (fun q_1 H hP hD hS => ?_)
  have hP : va_P D vwCl [(h0, .inr (5, [.null, .int 0])), (q_1, .inl (ct 1, 60000, .inl (fun _ => 0)))] _ := hP
  have hD : va_D A [(h0, .inr (5, [.null, .int 0])), (q_1, .inl (ct 1, 60000, .inl (fun _ => 0)))] := hD
  refine va_putF (D := D) (ci := 5) (v := .ref q_1) (ty := .array .int) (C := RX5) (T := TX5) (N := 2) hx hb (htX5 hn) (fun _ h => h) tyX5 tyX5_ok nmX5 hown hK hP hD hS 0 rfl rfl 0 (by decide) (hn.get mw_131 rfl) (fun _ h9 => h9) rfl hin rfl (by decide +kernel) rfl rfl (Nat.le_of_ble_eq_true rfl) dX5_init_9 (fun H locs hP hD hS => ?_)
  have hP : va_P D vwCl [(h0, .inr (5, [.ref q_1, .int 0])), (q_1, .inl (ct 1, 60000, .inl (fun _ => 0)))] _ := hP
  have hD : va_D A [(h0, .inr (5, [.ref q_1, .int 0])), (q_1, .inl (ct 1, 60000, .inl (fun _ => 0)))] := hD
  exact end_v hx hb hr hlocks dX5_init_12 q_1 trivial hP hD hS [0, 1] rfl (by decide) rfl (Nat.le_of_ble_eq_true rfl) (Nat.le_of_ble_eq_true rfl)
set_option maxHeartbeats 4000000 in
set_option maxRecDepth 100000 in
theorem c_X7_init (l : Launch) (D : va_G) (ct : Nat → ClassId) (h0 : Nat)  : KV (S := Nat) l yX7_init cX7_init 1 none 2 20 D ct [.ref h0] [(h0, .inr (7, [.null, .int 0]))] 1 4000 (fun _ => True) (fun (r : Nat) => [(h0, .inr (7, [.ref r, .int 0])), (r, .inl (ct 2, 4000, .inr (.inl (fun _ => 0))))]) := by
  intro sz
  refine K_of (Qf := fun A => va_Qv (fun _ => True) (PoC D A (fun (r : Nat) => [(h0, .inr (7, [.ref r, .int 0])), (r, .inl (ct 2, 4000, .inr (.inl (fun _ => 0))))])) A) sz (by decide) (Nat.le_of_ble_eq_true rfl) (fun p e s m below meth c A C0 hA hS hP hD ls hl => ?_)
  obtain ⟨hx, hb, hr, hown, hin, hml, hlocks, hn, hK⟩ := C0
  have hl : lv_has ls 1 [(0, .ref h0)] := hl
  refine lv_aload_n hx hb dX7_init_0 rfl (lv_at hl 0 rfl) ?_
  refine W.objInit hx hb hown (hn.get mw_222 rfl) (hn.get mw_34 rfl) (hn.get mw_oi rfl) rfl (by rw [hml]; exact hl.1) rfl dX7_init_1 (Nat.le_of_ble_eq_true rfl) (Nat.le_of_ble_eq_true rfl) ?_
  refine W.eq (g2 := F0 m 4 ls []) rfl ?_
  refine lv_aload_n hx hb dX7_init_4 rfl (lv_at hl 0 rfl) ?_
  refine lv_sipush (v := 4000) hx hb dX7_init_5 (by decide) ?_
  refine na_new (atype := .long) (k1 := 1) (n1 := 4000) hx hb hn mw_123 rfl hK hP hD hS hA 2 rfl 4000 (4000, .inr (.inl (fun _ => 0))) (fun _ => rfl) (by decide) (by decide) (Nat.le_of_ble_eq_true rfl) (Nat.le_of_ble_eq_true rfl) (Nat.le_of_ble_eq_true rfl) (Nat.le_of_ble_eq_true rfl) (Nat.le_of_ble_eq_true rfl) dX7_init_8 (fun q_1 H hP hD hS => ?_)
  have hP : va_P D vwCl [(h0, .inr (7, [.null, .int 0])), (q_1, .inl (ct 2, 4000, .inr (.inl (fun _ => 0))))] _ := hP
  have hD : va_D A [(h0, .inr (7, [.null, .int 0])), (q_1, .inl (ct 2, 4000, .inr (.inl (fun _ => 0))))] := hD
  refine va_putF (D := D) (ci := 7) (v := .ref q_1) (ty := .array .long) (C := RX7) (T := TX7) (N := 2) hx hb (htX7 hn) (fun _ h => h) tyX7 tyX7_ok nmX7 hown hK hP hD hS 0 rfl rfl 0 (by decide) (hn.get mw_223 rfl) (fun _ h9 => h9) rfl hin rfl (by decide +kernel) rfl rfl (Nat.le_of_ble_eq_true rfl) dX7_init_10 (fun H locs hP hD hS => ?_)
  have hP : va_P D vwCl [(h0, .inr (7, [.ref q_1, .int 0])), (q_1, .inl (ct 2, 4000, .inr (.inl (fun _ => 0))))] _ := hP
  have hD : va_D A [(h0, .inr (7, [.ref q_1, .int 0])), (q_1, .inl (ct 2, 4000, .inr (.inl (fun _ => 0))))] := hD
  exact end_v hx hb hr hlocks dX7_init_13 q_1 trivial hP hD hS [0, 1] rfl (by decide) rfl (Nat.le_of_ble_eq_true rfl) (Nat.le_of_ble_eq_true rfl)
set_option maxHeartbeats 4000000 in
set_option maxRecDepth 100000 in
theorem c_X7_takeTape (l : Launch) (D : va_G) (ct : Nat → ClassId) (p0 : Nat) (pr : Nat) (t0 : Nat) (tr : Nat)  : KI (S := Unit) l yX7_takeTape cX7_takeTape 3 (some .int) 1 20 D ct [.ref p0, .ref t0] [(p0, .inr (7, [.ref pr, .int 0])), (t0, .inr (9, [.ref tr, .int 0]))] 0 0 (fun r _ => r = -1) (fun (_ : Unit) => [(p0, .inr (7, [.ref pr, .int 0])), (t0, .inr (9, [.ref tr, .int 0]))]) := by
  intro sz
  refine K_of (Qf := fun A => va_Qi (fun r _ => r = -1) (PoC D A (fun (_ : Unit) => [(p0, .inr (7, [.ref pr, .int 0])), (t0, .inr (9, [.ref tr, .int 0]))])) A) sz (by decide) (Nat.le_of_ble_eq_true rfl) (fun p e s m below meth c A C0 hA hS hP hD ls hl => ?_)
  obtain ⟨hx, hb, hr, hown, hin, hml, hlocks, hn, hK⟩ := C0
  have hl : lv_has ls 3 [(0, .ref p0), (1, .ref t0)] := hl
  refine lv_aload_n hx hb dX7_takeTape_0 rfl (lv_at hl 1 rfl) ?_
  refine va_getN (D := D) (ci := 9) (v := .int 0) (C := RX9) (T := TX9) (N := 2) hx hb (htX9 hn) (fun _ h => h) hown hK hP 1 rfl rfl 1 (by decide) (hn.get mw_44 rfl) (fun _ h9 => h9) rfl dX7_takeTape_1 ?_
  refine lv_if_eq (tgt := 17) hx hb dX7_takeTape_4 (by decide) (fun c_1 => ?_) (fun c_1 => absurd (by decide) c_1)
  refine lv_iconst (v := (-1)) hx hb dX7_takeTape_17 (by decide) ?_
  exact end_i hx hb hr hlocks dX7_takeTape_18 rfl () rfl hP hD hS [0, 1] rfl (by decide) rfl (Nat.le_of_ble_eq_true rfl) (Nat.le_of_ble_eq_true rfl)
set_option maxHeartbeats 4000000 in
set_option maxRecDepth 100000 in
theorem c_X5_takeTape (l : Launch) (D : va_G) (ct : Nat → ClassId) (o0 : Nat) (or : Nat) (t0 : Nat) (tr : Nat)  : KI (S := Unit) l yX5_takeTape cX5_takeTape 3 (some .int) 1 20 D ct [.ref o0, .ref t0] [(o0, .inr (5, [.ref or, .int 0])), (t0, .inr (9, [.ref tr, .int 0]))] 0 0 (fun r _ => r = -1) (fun (_ : Unit) => [(o0, .inr (5, [.ref or, .int 0])), (t0, .inr (9, [.ref tr, .int 0]))]) := by
  intro sz
  refine K_of (Qf := fun A => va_Qi (fun r _ => r = -1) (PoC D A (fun (_ : Unit) => [(o0, .inr (5, [.ref or, .int 0])), (t0, .inr (9, [.ref tr, .int 0]))])) A) sz (by decide) (Nat.le_of_ble_eq_true rfl) (fun p e s m below meth c A C0 hA hS hP hD ls hl => ?_)
  obtain ⟨hx, hb, hr, hown, hin, hml, hlocks, hn, hK⟩ := C0
  have hl : lv_has ls 3 [(0, .ref o0), (1, .ref t0)] := hl
  refine lv_aload_n hx hb dX5_takeTape_0 rfl (lv_at hl 1 rfl) ?_
  refine va_getN (D := D) (ci := 9) (v := .int 0) (C := RX9) (T := TX9) (N := 2) hx hb (htX9 hn) (fun _ h => h) hown hK hP 1 rfl rfl 1 (by decide) (hn.get mw_45 rfl) (fun _ h9 => h9) rfl dX5_takeTape_1 ?_
  refine lv_if_eq (tgt := 16) hx hb dX5_takeTape_4 (by decide) (fun c_1 => ?_) (fun c_1 => absurd (by decide) c_1)
  refine lv_iconst (v := (-1)) hx hb dX5_takeTape_16 (by decide) ?_
  exact end_i hx hb hr hlocks dX5_takeTape_17 rfl () rfl hP hD hS [0, 1] rfl (by decide) rfl (Nat.le_of_ble_eq_true rfl) (Nat.le_of_ble_eq_true rfl)
set_option maxHeartbeats 4000000 in
set_option maxRecDepth 100000 in
theorem c_X7_at (l : Launch) (D : va_G) (ct : Nat → ClassId) (p0 : Nat) (pr : Nat) (j : Int32)  : KL (S := Unit) l yX7_at cX7_at 2 (some .long) 1 20 D ct [.ref p0, .int j] [(p0, .inr (7, [.ref pr, .int 0]))] 0 0 (fun r _ => r = 0) (fun (_ : Unit) => [(p0, .inr (7, [.ref pr, .int 0]))]) := by
  intro sz
  refine K_of (Qf := fun A => va_Ql (fun r _ => r = 0) (PoC D A (fun (_ : Unit) => [(p0, .inr (7, [.ref pr, .int 0]))])) A) sz (by decide) (Nat.le_of_ble_eq_true rfl) (fun p e s m below meth c A C0 hA hS hP hD ls hl => ?_)
  obtain ⟨hx, hb, hr, hown, hin, hml, hlocks, hn, hK⟩ := C0
  have hl : lv_has ls 2 [(0, .ref p0), (1, .int j)] := hl
  refine lv_iload_n hx hb dX7_at_0 rfl (lv_at hl 1 rfl) ?_
  refine lv_if_lt (tgt := 12) hx hb dX7_at_1 (by decide) (fun c_1 => ?_) (fun c_1 => ?_)
  · refine lv_lconst (v := 0) hx hb dX7_at_12 (by decide) ?_
    refine lv_goto (tgt := 22) hx hb dX7_at_13 (by decide) ?_
    exact end_l hx hb hr hlocks dX7_at_22 () rfl hP hD hS [0] rfl (by decide) rfl (Nat.le_of_ble_eq_true rfl) (Nat.le_of_ble_eq_true rfl)
  · refine lv_iload_n hx hb dX7_at_4 rfl (lv_at hl 1 rfl) ?_
    refine lv_aload_n hx hb dX7_at_5 rfl (lv_at hl 0 rfl) ?_
    refine va_get (D := D) (ci := 7) (v := .int 0) (C := RX7) (T := TX7) (N := 2) hx hb (htX7 hn) (fun _ h => h) hown hK hP 0 rfl rfl 1 (by decide) (hn.get mw_226 rfl) (fun _ h9 => h9) rfl dX7_at_6 ?_
    refine lv_icmp_lt (tgt := 16) hx hb dX7_at_9 (by decide) (fun c_2 => absurd c_2 (c_1)) (fun c_2 => ?_)
    refine lv_lconst (v := 0) hx hb dX7_at_12 (by decide) ?_
    refine lv_goto (tgt := 22) hx hb dX7_at_13 (by decide) ?_
    exact end_l hx hb hr hlocks dX7_at_22 () rfl hP hD hS [0] rfl (by decide) rfl (Nat.le_of_ble_eq_true rfl) (Nat.le_of_ble_eq_true rfl)
set_option maxHeartbeats 4000000 in
set_option maxRecDepth 100000 in
theorem c_X5_at (l : Launch) (D : va_G) (ct : Nat → ClassId) (o0 : Nat) (or : Nat) (j : Int32)  : KI (S := Unit) l yX5_at cX5_at 2 (some .int) 1 20 D ct [.ref o0, .int j] [(o0, .inr (5, [.ref or, .int 0]))] 0 0 (fun r _ => r = 0) (fun (_ : Unit) => [(o0, .inr (5, [.ref or, .int 0]))]) := by
  intro sz
  refine K_of (Qf := fun A => va_Qi (fun r _ => r = 0) (PoC D A (fun (_ : Unit) => [(o0, .inr (5, [.ref or, .int 0]))])) A) sz (by decide) (Nat.le_of_ble_eq_true rfl) (fun p e s m below meth c A C0 hA hS hP hD ls hl => ?_)
  obtain ⟨hx, hb, hr, hown, hin, hml, hlocks, hn, hK⟩ := C0
  have hl : lv_has ls 2 [(0, .ref o0), (1, .int j)] := hl
  refine lv_iload_n hx hb dX5_at_0 rfl (lv_at hl 1 rfl) ?_
  refine lv_if_lt (tgt := 12) hx hb dX5_at_1 (by decide) (fun c_1 => ?_) (fun c_1 => ?_)
  · refine lv_iconst (v := 0) hx hb dX5_at_12 (by decide) ?_
    refine lv_goto (tgt := 22) hx hb dX5_at_13 (by decide) ?_
    exact end_i hx hb hr hlocks dX5_at_22 rfl () rfl hP hD hS [0] rfl (by decide) rfl (Nat.le_of_ble_eq_true rfl) (Nat.le_of_ble_eq_true rfl)
  · refine lv_iload_n hx hb dX5_at_4 rfl (lv_at hl 1 rfl) ?_
    refine lv_aload_n hx hb dX5_at_5 rfl (lv_at hl 0 rfl) ?_
    refine va_get (D := D) (ci := 5) (v := .int 0) (C := RX5) (T := TX5) (N := 2) hx hb (htX5 hn) (fun _ h => h) hown hK hP 0 rfl rfl 1 (by decide) (hn.get mw_133 rfl) (fun _ h9 => h9) rfl dX5_at_6 ?_
    refine lv_icmp_lt (tgt := 16) hx hb dX5_at_9 (by decide) (fun c_2 => absurd c_2 (c_1)) (fun c_2 => ?_)
    refine lv_iconst (v := 0) hx hb dX5_at_12 (by decide) ?_
    refine lv_goto (tgt := 22) hx hb dX5_at_13 (by decide) ?_
    exact end_i hx hb hr hlocks dX5_at_22 rfl () rfl hP hD hS [0] rfl (by decide) rfl (Nat.le_of_ble_eq_true rfl) (Nat.le_of_ble_eq_true rfl)
set_option maxHeartbeats 4000000 in
set_option maxRecDepth 100000 in
theorem c_X2_init (l : Launch) (D : va_G) (ct : Nat → ClassId) (h0 : Nat)  : KV (S := Nat × Nat × Nat × Nat × Nat × Nat × Nat × Nat × Nat × Nat × Nat × Nat × Nat) l yX2_init cX2_init 1 none 2 20 D ct [.ref h0] [(h0, .inr (2, [.null, .null, .null, .int 0, .null, .null, .null, .null, .null, .null, .null, .int 0, .int 0, .null, .int 0, .null, .int 0, .null]))] 13 47014 (fun _ => True) (fun (u : Nat × Nat × Nat × Nat × Nat × Nat × Nat × Nat × Nat × Nat × Nat × Nat × Nat) => match u with | (a0, a1, a2, a4, a5, a6, a7, a8, a9, a10, a13, a15, a17) => [(h0, .inr (2, [.ref a0, .ref a1, .ref a2, .int 0, .ref a4, .ref a5, .ref a6, .ref a7, .ref a8, .ref a9, .ref a10, .int 0, .int 0, .ref a13, .int 0, .ref a15, .int 0, .ref a17])), (a13, .inl (ct 1, 5000, .inl (fun _ => 0)))]) := by
  intro sz
  refine K_of (Qf := fun A => va_Qv (fun _ => True) (PoC D A (fun (u : Nat × Nat × Nat × Nat × Nat × Nat × Nat × Nat × Nat × Nat × Nat × Nat × Nat) => match u with | (a0, a1, a2, a4, a5, a6, a7, a8, a9, a10, a13, a15, a17) => [(h0, .inr (2, [.ref a0, .ref a1, .ref a2, .int 0, .ref a4, .ref a5, .ref a6, .ref a7, .ref a8, .ref a9, .ref a10, .int 0, .int 0, .ref a13, .int 0, .ref a15, .int 0, .ref a17])), (a13, .inl (ct 1, 5000, .inl (fun _ => 0)))])) A) sz (by decide) (Nat.le_of_ble_eq_true rfl) (fun p e s m below meth c A C0 hA hS hP hD ls hl => ?_)
  obtain ⟨hx, hb, hr, hown, hin, hml, hlocks, hn, hK⟩ := C0
  have hl : lv_has ls 1 [(0, .ref h0)] := hl
  refine lv_aload_n hx hb dX2_init_0 rfl (lv_at hl 0 rfl) ?_
  refine W.objInit hx hb hown (hn.get mw_146 rfl) (hn.get mw_34 rfl) (hn.get mw_oi rfl) rfl (by rw [hml]; exact hl.1) rfl dX2_init_1 (Nat.le_of_ble_eq_true rfl) (Nat.le_of_ble_eq_true rfl) ?_
  refine W.eq (g2 := F0 m 4 ls []) rfl ?_
  refine lv_aload_n hx hb dX2_init_4 rfl (lv_at hl 0 rfl) ?_
  refine lv_sipush (v := 7000) hx hb dX2_init_5 (by decide) ?_
  refine na_new (atype := .int) (k1 := 1) (n1 := 7000) hx hb hn mw_72 rfl hK hP hD hS hA 1 rfl 7000 (7000, .inl (fun _ => 0)) (fun _ => rfl) (by decide) (by decide) (Nat.le_of_ble_eq_true rfl) (Nat.le_of_ble_eq_true rfl) (Nat.le_of_ble_eq_true rfl) (Nat.le_of_ble_eq_true rfl) (Nat.le_of_ble_eq_true rfl) dX2_init_8 (fun q_1 H hP hD hS => ?_)
  have hP : va_P D vwCl [(h0, .inr (2, [.null, .null, .null, .int 0, .null, .null, .null, .null, .null, .null, .null, .int 0, .int 0, .null, .int 0, .null, .int 0, .null])), (q_1, .inl (ct 1, 7000, .inl (fun _ => 0)))] _ := hP
  have hD : va_D A [(h0, .inr (2, [.null, .null, .null, .int 0, .null, .null, .null, .null, .null, .null, .null, .int 0, .int 0, .null, .int 0, .null, .int 0, .null])), (q_1, .inl (ct 1, 7000, .inl (fun _ => 0)))] := hD
  refine va_putF (D := D) (ci := 2) (v := .ref q_1) (ty := .array .int) (C := RX2) (T := TX2) (N := 18) hx hb (htX2 hn) (fun _ h => h) tyX2 tyX2_ok nmX2 hown hK hP hD hS 0 rfl rfl 0 (by decide) (hn.get mw_147 rfl) (fun _ h9 => h9) rfl hin rfl (by decide +kernel) rfl rfl (Nat.le_of_ble_eq_true rfl) dX2_init_10 (fun H locs hP hD hS => ?_)
  have hP : va_P D vwCl [(h0, .inr (2, [.ref q_1, .null, .null, .int 0, .null, .null, .null, .null, .null, .null, .null, .int 0, .int 0, .null, .int 0, .null, .int 0, .null])), (q_1, .inl (ct 1, 7000, .inl (fun _ => 0)))] _ := hP
  have hD : va_D A [(h0, .inr (2, [.ref q_1, .null, .null, .int 0, .null, .null, .null, .null, .null, .null, .null, .int 0, .int 0, .null, .int 0, .null, .int 0, .null])), (q_1, .inl (ct 1, 7000, .inl (fun _ => 0)))] := hD
  refine lv_aload_n hx hb dX2_init_13 rfl (lv_at hl 0 rfl) ?_
  refine lv_sipush (v := 7000) hx hb dX2_init_14 (by decide) ?_
  refine na_new (atype := .int) (k1 := 2) (n1 := 14000) hx hb hn mw_72 rfl hK hP hD hS hA 1 rfl 7000 (7000, .inl (fun _ => 0)) (fun _ => rfl) (by decide) (by decide) (Nat.le_of_ble_eq_true rfl) (Nat.le_of_ble_eq_true rfl) (Nat.le_of_ble_eq_true rfl) (Nat.le_of_ble_eq_true rfl) (Nat.le_of_ble_eq_true rfl) dX2_init_17 (fun q_2 H hP hD hS => ?_)
  have hP : va_P D vwCl [(h0, .inr (2, [.ref q_1, .null, .null, .int 0, .null, .null, .null, .null, .null, .null, .null, .int 0, .int 0, .null, .int 0, .null, .int 0, .null])), (q_1, .inl (ct 1, 7000, .inl (fun _ => 0))), (q_2, .inl (ct 1, 7000, .inl (fun _ => 0)))] _ := hP
  have hD : va_D A [(h0, .inr (2, [.ref q_1, .null, .null, .int 0, .null, .null, .null, .null, .null, .null, .null, .int 0, .int 0, .null, .int 0, .null, .int 0, .null])), (q_1, .inl (ct 1, 7000, .inl (fun _ => 0))), (q_2, .inl (ct 1, 7000, .inl (fun _ => 0)))] := hD
  refine va_putF (D := D) (ci := 2) (v := .ref q_2) (ty := .array .int) (C := RX2) (T := TX2) (N := 18) hx hb (htX2 hn) (fun _ h => h) tyX2 tyX2_ok nmX2 hown hK hP hD hS 0 rfl rfl 1 (by decide) (hn.get mw_149 rfl) (fun _ h9 => h9) rfl hin rfl (by decide +kernel) rfl rfl (Nat.le_of_ble_eq_true rfl) dX2_init_19 (fun H locs hP hD hS => ?_)
  have hP : va_P D vwCl [(h0, .inr (2, [.ref q_1, .ref q_2, .null, .int 0, .null, .null, .null, .null, .null, .null, .null, .int 0, .int 0, .null, .int 0, .null, .int 0, .null])), (q_1, .inl (ct 1, 7000, .inl (fun _ => 0))), (q_2, .inl (ct 1, 7000, .inl (fun _ => 0)))] _ := hP
  have hD : va_D A [(h0, .inr (2, [.ref q_1, .ref q_2, .null, .int 0, .null, .null, .null, .null, .null, .null, .null, .int 0, .int 0, .null, .int 0, .null, .int 0, .null])), (q_1, .inl (ct 1, 7000, .inl (fun _ => 0))), (q_2, .inl (ct 1, 7000, .inl (fun _ => 0)))] := hD
  refine lv_aload_n hx hb dX2_init_22 rfl (lv_at hl 0 rfl) ?_
  refine lv_sipush (v := 7000) hx hb dX2_init_23 (by decide) ?_
  refine na_new (atype := .int) (k1 := 3) (n1 := 21000) hx hb hn mw_72 rfl hK hP hD hS hA 1 rfl 7000 (7000, .inl (fun _ => 0)) (fun _ => rfl) (by decide) (by decide) (Nat.le_of_ble_eq_true rfl) (Nat.le_of_ble_eq_true rfl) (Nat.le_of_ble_eq_true rfl) (Nat.le_of_ble_eq_true rfl) (Nat.le_of_ble_eq_true rfl) dX2_init_26 (fun q_3 H hP hD hS => ?_)
  have hP : va_P D vwCl [(h0, .inr (2, [.ref q_1, .ref q_2, .null, .int 0, .null, .null, .null, .null, .null, .null, .null, .int 0, .int 0, .null, .int 0, .null, .int 0, .null])), (q_1, .inl (ct 1, 7000, .inl (fun _ => 0))), (q_2, .inl (ct 1, 7000, .inl (fun _ => 0))), (q_3, .inl (ct 1, 7000, .inl (fun _ => 0)))] _ := hP
  have hD : va_D A [(h0, .inr (2, [.ref q_1, .ref q_2, .null, .int 0, .null, .null, .null, .null, .null, .null, .null, .int 0, .int 0, .null, .int 0, .null, .int 0, .null])), (q_1, .inl (ct 1, 7000, .inl (fun _ => 0))), (q_2, .inl (ct 1, 7000, .inl (fun _ => 0))), (q_3, .inl (ct 1, 7000, .inl (fun _ => 0)))] := hD
  refine va_putF (D := D) (ci := 2) (v := .ref q_3) (ty := .array .int) (C := RX2) (T := TX2) (N := 18) hx hb (htX2 hn) (fun _ h => h) tyX2 tyX2_ok nmX2 hown hK hP hD hS 0 rfl rfl 2 (by decide) (hn.get mw_151 rfl) (fun _ h9 => h9) rfl hin rfl (by decide +kernel) rfl rfl (Nat.le_of_ble_eq_true rfl) dX2_init_28 (fun H locs hP hD hS => ?_)
  have hP : va_P D vwCl [(h0, .inr (2, [.ref q_1, .ref q_2, .ref q_3, .int 0, .null, .null, .null, .null, .null, .null, .null, .int 0, .int 0, .null, .int 0, .null, .int 0, .null])), (q_1, .inl (ct 1, 7000, .inl (fun _ => 0))), (q_2, .inl (ct 1, 7000, .inl (fun _ => 0))), (q_3, .inl (ct 1, 7000, .inl (fun _ => 0)))] _ := hP
  have hD : va_D A [(h0, .inr (2, [.ref q_1, .ref q_2, .ref q_3, .int 0, .null, .null, .null, .null, .null, .null, .null, .int 0, .int 0, .null, .int 0, .null, .int 0, .null])), (q_1, .inl (ct 1, 7000, .inl (fun _ => 0))), (q_2, .inl (ct 1, 7000, .inl (fun _ => 0))), (q_3, .inl (ct 1, 7000, .inl (fun _ => 0)))] := hD
  refine lv_aload_n hx hb dX2_init_31 rfl (lv_at hl 0 rfl) ?_
  refine lv_sipush (v := 3000) hx hb dX2_init_32 (by decide) ?_
  refine na_new (atype := .int) (k1 := 4) (n1 := 24000) hx hb hn mw_72 rfl hK hP hD hS hA 1 rfl 3000 (3000, .inl (fun _ => 0)) (fun _ => rfl) (by decide) (by decide) (Nat.le_of_ble_eq_true rfl) (Nat.le_of_ble_eq_true rfl) (Nat.le_of_ble_eq_true rfl) (Nat.le_of_ble_eq_true rfl) (Nat.le_of_ble_eq_true rfl) dX2_init_35 (fun q_4 H hP hD hS => ?_)
  have hP : va_P D vwCl [(h0, .inr (2, [.ref q_1, .ref q_2, .ref q_3, .int 0, .null, .null, .null, .null, .null, .null, .null, .int 0, .int 0, .null, .int 0, .null, .int 0, .null])), (q_1, .inl (ct 1, 7000, .inl (fun _ => 0))), (q_2, .inl (ct 1, 7000, .inl (fun _ => 0))), (q_3, .inl (ct 1, 7000, .inl (fun _ => 0))), (q_4, .inl (ct 1, 3000, .inl (fun _ => 0)))] _ := hP
  have hD : va_D A [(h0, .inr (2, [.ref q_1, .ref q_2, .ref q_3, .int 0, .null, .null, .null, .null, .null, .null, .null, .int 0, .int 0, .null, .int 0, .null, .int 0, .null])), (q_1, .inl (ct 1, 7000, .inl (fun _ => 0))), (q_2, .inl (ct 1, 7000, .inl (fun _ => 0))), (q_3, .inl (ct 1, 7000, .inl (fun _ => 0))), (q_4, .inl (ct 1, 3000, .inl (fun _ => 0)))] := hD
  refine va_putF (D := D) (ci := 2) (v := .ref q_4) (ty := .array .int) (C := RX2) (T := TX2) (N := 18) hx hb (htX2 hn) (fun _ h => h) tyX2 tyX2_ok nmX2 hown hK hP hD hS 0 rfl rfl 4 (by decide) (hn.get mw_155 rfl) (fun _ h9 => h9) rfl hin rfl (by decide +kernel) rfl rfl (Nat.le_of_ble_eq_true rfl) dX2_init_37 (fun H locs hP hD hS => ?_)
  have hP : va_P D vwCl [(h0, .inr (2, [.ref q_1, .ref q_2, .ref q_3, .int 0, .ref q_4, .null, .null, .null, .null, .null, .null, .int 0, .int 0, .null, .int 0, .null, .int 0, .null])), (q_1, .inl (ct 1, 7000, .inl (fun _ => 0))), (q_2, .inl (ct 1, 7000, .inl (fun _ => 0))), (q_3, .inl (ct 1, 7000, .inl (fun _ => 0))), (q_4, .inl (ct 1, 3000, .inl (fun _ => 0)))] _ := hP
  have hD : va_D A [(h0, .inr (2, [.ref q_1, .ref q_2, .ref q_3, .int 0, .ref q_4, .null, .null, .null, .null, .null, .null, .int 0, .int 0, .null, .int 0, .null, .int 0, .null])), (q_1, .inl (ct 1, 7000, .inl (fun _ => 0))), (q_2, .inl (ct 1, 7000, .inl (fun _ => 0))), (q_3, .inl (ct 1, 7000, .inl (fun _ => 0))), (q_4, .inl (ct 1, 3000, .inl (fun _ => 0)))] := hD
  refine lv_aload_n hx hb dX2_init_40 rfl (lv_at hl 0 rfl) ?_
  refine lv_sipush (v := 3000) hx hb dX2_init_41 (by decide) ?_
  refine na_new (atype := .int) (k1 := 5) (n1 := 27000) hx hb hn mw_72 rfl hK hP hD hS hA 1 rfl 3000 (3000, .inl (fun _ => 0)) (fun _ => rfl) (by decide) (by decide) (Nat.le_of_ble_eq_true rfl) (Nat.le_of_ble_eq_true rfl) (Nat.le_of_ble_eq_true rfl) (Nat.le_of_ble_eq_true rfl) (Nat.le_of_ble_eq_true rfl) dX2_init_44 (fun q_5 H hP hD hS => ?_)
  have hP : va_P D vwCl [(h0, .inr (2, [.ref q_1, .ref q_2, .ref q_3, .int 0, .ref q_4, .null, .null, .null, .null, .null, .null, .int 0, .int 0, .null, .int 0, .null, .int 0, .null])), (q_1, .inl (ct 1, 7000, .inl (fun _ => 0))), (q_2, .inl (ct 1, 7000, .inl (fun _ => 0))), (q_3, .inl (ct 1, 7000, .inl (fun _ => 0))), (q_4, .inl (ct 1, 3000, .inl (fun _ => 0))), (q_5, .inl (ct 1, 3000, .inl (fun _ => 0)))] _ := hP
  have hD : va_D A [(h0, .inr (2, [.ref q_1, .ref q_2, .ref q_3, .int 0, .ref q_4, .null, .null, .null, .null, .null, .null, .int 0, .int 0, .null, .int 0, .null, .int 0, .null])), (q_1, .inl (ct 1, 7000, .inl (fun _ => 0))), (q_2, .inl (ct 1, 7000, .inl (fun _ => 0))), (q_3, .inl (ct 1, 7000, .inl (fun _ => 0))), (q_4, .inl (ct 1, 3000, .inl (fun _ => 0))), (q_5, .inl (ct 1, 3000, .inl (fun _ => 0)))] := hD
  refine va_putF (D := D) (ci := 2) (v := .ref q_5) (ty := .array .int) (C := RX2) (T := TX2) (N := 18) hx hb (htX2 hn) (fun _ h => h) tyX2 tyX2_ok nmX2 hown hK hP hD hS 0 rfl rfl 5 (by decide) (hn.get mw_157 rfl) (fun _ h9 => h9) rfl hin rfl (by decide +kernel) rfl rfl (Nat.le_of_ble_eq_true rfl) dX2_init_46 (fun H locs hP hD hS => ?_)
  have hP : va_P D vwCl [(h0, .inr (2, [.ref q_1, .ref q_2, .ref q_3, .int 0, .ref q_4, .ref q_5, .null, .null, .null, .null, .null, .int 0, .int 0, .null, .int 0, .null, .int 0, .null])), (q_1, .inl (ct 1, 7000, .inl (fun _ => 0))), (q_2, .inl (ct 1, 7000, .inl (fun _ => 0))), (q_3, .inl (ct 1, 7000, .inl (fun _ => 0))), (q_4, .inl (ct 1, 3000, .inl (fun _ => 0))), (q_5, .inl (ct 1, 3000, .inl (fun _ => 0)))] _ := hP
  have hD : va_D A [(h0, .inr (2, [.ref q_1, .ref q_2, .ref q_3, .int 0, .ref q_4, .ref q_5, .null, .null, .null, .null, .null, .int 0, .int 0, .null, .int 0, .null, .int 0, .null])), (q_1, .inl (ct 1, 7000, .inl (fun _ => 0))), (q_2, .inl (ct 1, 7000, .inl (fun _ => 0))), (q_3, .inl (ct 1, 7000, .inl (fun _ => 0))), (q_4, .inl (ct 1, 3000, .inl (fun _ => 0))), (q_5, .inl (ct 1, 3000, .inl (fun _ => 0)))] := hD
  refine lv_aload_n hx hb dX2_init_49 rfl (lv_at hl 0 rfl) ?_
  refine lv_sipush (v := 3000) hx hb dX2_init_50 (by decide) ?_
  refine na_new (atype := .int) (k1 := 6) (n1 := 30000) hx hb hn mw_72 rfl hK hP hD hS hA 1 rfl 3000 (3000, .inl (fun _ => 0)) (fun _ => rfl) (by decide) (by decide) (Nat.le_of_ble_eq_true rfl) (Nat.le_of_ble_eq_true rfl) (Nat.le_of_ble_eq_true rfl) (Nat.le_of_ble_eq_true rfl) (Nat.le_of_ble_eq_true rfl) dX2_init_53 (fun q_6 H hP hD hS => ?_)
  have hP : va_P D vwCl [(h0, .inr (2, [.ref q_1, .ref q_2, .ref q_3, .int 0, .ref q_4, .ref q_5, .null, .null, .null, .null, .null, .int 0, .int 0, .null, .int 0, .null, .int 0, .null])), (q_1, .inl (ct 1, 7000, .inl (fun _ => 0))), (q_2, .inl (ct 1, 7000, .inl (fun _ => 0))), (q_3, .inl (ct 1, 7000, .inl (fun _ => 0))), (q_4, .inl (ct 1, 3000, .inl (fun _ => 0))), (q_5, .inl (ct 1, 3000, .inl (fun _ => 0))), (q_6, .inl (ct 1, 3000, .inl (fun _ => 0)))] _ := hP
  have hD : va_D A [(h0, .inr (2, [.ref q_1, .ref q_2, .ref q_3, .int 0, .ref q_4, .ref q_5, .null, .null, .null, .null, .null, .int 0, .int 0, .null, .int 0, .null, .int 0, .null])), (q_1, .inl (ct 1, 7000, .inl (fun _ => 0))), (q_2, .inl (ct 1, 7000, .inl (fun _ => 0))), (q_3, .inl (ct 1, 7000, .inl (fun _ => 0))), (q_4, .inl (ct 1, 3000, .inl (fun _ => 0))), (q_5, .inl (ct 1, 3000, .inl (fun _ => 0))), (q_6, .inl (ct 1, 3000, .inl (fun _ => 0)))] := hD
  refine va_putF (D := D) (ci := 2) (v := .ref q_6) (ty := .array .int) (C := RX2) (T := TX2) (N := 18) hx hb (htX2 hn) (fun _ h => h) tyX2 tyX2_ok nmX2 hown hK hP hD hS 0 rfl rfl 6 (by decide) (hn.get mw_159 rfl) (fun _ h9 => h9) rfl hin rfl (by decide +kernel) rfl rfl (Nat.le_of_ble_eq_true rfl) dX2_init_55 (fun H locs hP hD hS => ?_)
  have hP : va_P D vwCl [(h0, .inr (2, [.ref q_1, .ref q_2, .ref q_3, .int 0, .ref q_4, .ref q_5, .ref q_6, .null, .null, .null, .null, .int 0, .int 0, .null, .int 0, .null, .int 0, .null])), (q_1, .inl (ct 1, 7000, .inl (fun _ => 0))), (q_2, .inl (ct 1, 7000, .inl (fun _ => 0))), (q_3, .inl (ct 1, 7000, .inl (fun _ => 0))), (q_4, .inl (ct 1, 3000, .inl (fun _ => 0))), (q_5, .inl (ct 1, 3000, .inl (fun _ => 0))), (q_6, .inl (ct 1, 3000, .inl (fun _ => 0)))] _ := hP
  have hD : va_D A [(h0, .inr (2, [.ref q_1, .ref q_2, .ref q_3, .int 0, .ref q_4, .ref q_5, .ref q_6, .null, .null, .null, .null, .int 0, .int 0, .null, .int 0, .null, .int 0, .null])), (q_1, .inl (ct 1, 7000, .inl (fun _ => 0))), (q_2, .inl (ct 1, 7000, .inl (fun _ => 0))), (q_3, .inl (ct 1, 7000, .inl (fun _ => 0))), (q_4, .inl (ct 1, 3000, .inl (fun _ => 0))), (q_5, .inl (ct 1, 3000, .inl (fun _ => 0))), (q_6, .inl (ct 1, 3000, .inl (fun _ => 0)))] := hD
  refine lv_aload_n hx hb dX2_init_58 rfl (lv_at hl 0 rfl) ?_
  refine lv_sipush (v := 3000) hx hb dX2_init_59 (by decide) ?_
  refine na_new (atype := .int) (k1 := 7) (n1 := 33000) hx hb hn mw_72 rfl hK hP hD hS hA 1 rfl 3000 (3000, .inl (fun _ => 0)) (fun _ => rfl) (by decide) (by decide) (Nat.le_of_ble_eq_true rfl) (Nat.le_of_ble_eq_true rfl) (Nat.le_of_ble_eq_true rfl) (Nat.le_of_ble_eq_true rfl) (Nat.le_of_ble_eq_true rfl) dX2_init_62 (fun q_7 H hP hD hS => ?_)
  have hP : va_P D vwCl [(h0, .inr (2, [.ref q_1, .ref q_2, .ref q_3, .int 0, .ref q_4, .ref q_5, .ref q_6, .null, .null, .null, .null, .int 0, .int 0, .null, .int 0, .null, .int 0, .null])), (q_1, .inl (ct 1, 7000, .inl (fun _ => 0))), (q_2, .inl (ct 1, 7000, .inl (fun _ => 0))), (q_3, .inl (ct 1, 7000, .inl (fun _ => 0))), (q_4, .inl (ct 1, 3000, .inl (fun _ => 0))), (q_5, .inl (ct 1, 3000, .inl (fun _ => 0))), (q_6, .inl (ct 1, 3000, .inl (fun _ => 0))), (q_7, .inl (ct 1, 3000, .inl (fun _ => 0)))] _ := hP
  have hD : va_D A [(h0, .inr (2, [.ref q_1, .ref q_2, .ref q_3, .int 0, .ref q_4, .ref q_5, .ref q_6, .null, .null, .null, .null, .int 0, .int 0, .null, .int 0, .null, .int 0, .null])), (q_1, .inl (ct 1, 7000, .inl (fun _ => 0))), (q_2, .inl (ct 1, 7000, .inl (fun _ => 0))), (q_3, .inl (ct 1, 7000, .inl (fun _ => 0))), (q_4, .inl (ct 1, 3000, .inl (fun _ => 0))), (q_5, .inl (ct 1, 3000, .inl (fun _ => 0))), (q_6, .inl (ct 1, 3000, .inl (fun _ => 0))), (q_7, .inl (ct 1, 3000, .inl (fun _ => 0)))] := hD
  refine va_putF (D := D) (ci := 2) (v := .ref q_7) (ty := .array .int) (C := RX2) (T := TX2) (N := 18) hx hb (htX2 hn) (fun _ h => h) tyX2 tyX2_ok nmX2 hown hK hP hD hS 0 rfl rfl 7 (by decide) (hn.get mw_161 rfl) (fun _ h9 => h9) rfl hin rfl (by decide +kernel) rfl rfl (Nat.le_of_ble_eq_true rfl) dX2_init_64 (fun H locs hP hD hS => ?_)
  have hP : va_P D vwCl [(h0, .inr (2, [.ref q_1, .ref q_2, .ref q_3, .int 0, .ref q_4, .ref q_5, .ref q_6, .ref q_7, .null, .null, .null, .int 0, .int 0, .null, .int 0, .null, .int 0, .null])), (q_1, .inl (ct 1, 7000, .inl (fun _ => 0))), (q_2, .inl (ct 1, 7000, .inl (fun _ => 0))), (q_3, .inl (ct 1, 7000, .inl (fun _ => 0))), (q_4, .inl (ct 1, 3000, .inl (fun _ => 0))), (q_5, .inl (ct 1, 3000, .inl (fun _ => 0))), (q_6, .inl (ct 1, 3000, .inl (fun _ => 0))), (q_7, .inl (ct 1, 3000, .inl (fun _ => 0)))] _ := hP
  have hD : va_D A [(h0, .inr (2, [.ref q_1, .ref q_2, .ref q_3, .int 0, .ref q_4, .ref q_5, .ref q_6, .ref q_7, .null, .null, .null, .int 0, .int 0, .null, .int 0, .null, .int 0, .null])), (q_1, .inl (ct 1, 7000, .inl (fun _ => 0))), (q_2, .inl (ct 1, 7000, .inl (fun _ => 0))), (q_3, .inl (ct 1, 7000, .inl (fun _ => 0))), (q_4, .inl (ct 1, 3000, .inl (fun _ => 0))), (q_5, .inl (ct 1, 3000, .inl (fun _ => 0))), (q_6, .inl (ct 1, 3000, .inl (fun _ => 0))), (q_7, .inl (ct 1, 3000, .inl (fun _ => 0)))] := hD
  refine lv_aload_n hx hb dX2_init_67 rfl (lv_at hl 0 rfl) ?_
  refine lv_sipush (v := 3000) hx hb dX2_init_68 (by decide) ?_
  refine na_new (atype := .int) (k1 := 8) (n1 := 36000) hx hb hn mw_72 rfl hK hP hD hS hA 1 rfl 3000 (3000, .inl (fun _ => 0)) (fun _ => rfl) (by decide) (by decide) (Nat.le_of_ble_eq_true rfl) (Nat.le_of_ble_eq_true rfl) (Nat.le_of_ble_eq_true rfl) (Nat.le_of_ble_eq_true rfl) (Nat.le_of_ble_eq_true rfl) dX2_init_71 (fun q_8 H hP hD hS => ?_)
  have hP : va_P D vwCl [(h0, .inr (2, [.ref q_1, .ref q_2, .ref q_3, .int 0, .ref q_4, .ref q_5, .ref q_6, .ref q_7, .null, .null, .null, .int 0, .int 0, .null, .int 0, .null, .int 0, .null])), (q_1, .inl (ct 1, 7000, .inl (fun _ => 0))), (q_2, .inl (ct 1, 7000, .inl (fun _ => 0))), (q_3, .inl (ct 1, 7000, .inl (fun _ => 0))), (q_4, .inl (ct 1, 3000, .inl (fun _ => 0))), (q_5, .inl (ct 1, 3000, .inl (fun _ => 0))), (q_6, .inl (ct 1, 3000, .inl (fun _ => 0))), (q_7, .inl (ct 1, 3000, .inl (fun _ => 0))), (q_8, .inl (ct 1, 3000, .inl (fun _ => 0)))] _ := hP
  have hD : va_D A [(h0, .inr (2, [.ref q_1, .ref q_2, .ref q_3, .int 0, .ref q_4, .ref q_5, .ref q_6, .ref q_7, .null, .null, .null, .int 0, .int 0, .null, .int 0, .null, .int 0, .null])), (q_1, .inl (ct 1, 7000, .inl (fun _ => 0))), (q_2, .inl (ct 1, 7000, .inl (fun _ => 0))), (q_3, .inl (ct 1, 7000, .inl (fun _ => 0))), (q_4, .inl (ct 1, 3000, .inl (fun _ => 0))), (q_5, .inl (ct 1, 3000, .inl (fun _ => 0))), (q_6, .inl (ct 1, 3000, .inl (fun _ => 0))), (q_7, .inl (ct 1, 3000, .inl (fun _ => 0))), (q_8, .inl (ct 1, 3000, .inl (fun _ => 0)))] := hD
  refine va_putF (D := D) (ci := 2) (v := .ref q_8) (ty := .array .int) (C := RX2) (T := TX2) (N := 18) hx hb (htX2 hn) (fun _ h => h) tyX2 tyX2_ok nmX2 hown hK hP hD hS 0 rfl rfl 8 (by decide) (hn.get mw_163 rfl) (fun _ h9 => h9) rfl hin rfl (by decide +kernel) rfl rfl (Nat.le_of_ble_eq_true rfl) dX2_init_73 (fun H locs hP hD hS => ?_)
  have hP : va_P D vwCl [(h0, .inr (2, [.ref q_1, .ref q_2, .ref q_3, .int 0, .ref q_4, .ref q_5, .ref q_6, .ref q_7, .ref q_8, .null, .null, .int 0, .int 0, .null, .int 0, .null, .int 0, .null])), (q_1, .inl (ct 1, 7000, .inl (fun _ => 0))), (q_2, .inl (ct 1, 7000, .inl (fun _ => 0))), (q_3, .inl (ct 1, 7000, .inl (fun _ => 0))), (q_4, .inl (ct 1, 3000, .inl (fun _ => 0))), (q_5, .inl (ct 1, 3000, .inl (fun _ => 0))), (q_6, .inl (ct 1, 3000, .inl (fun _ => 0))), (q_7, .inl (ct 1, 3000, .inl (fun _ => 0))), (q_8, .inl (ct 1, 3000, .inl (fun _ => 0)))] _ := hP
  have hD : va_D A [(h0, .inr (2, [.ref q_1, .ref q_2, .ref q_3, .int 0, .ref q_4, .ref q_5, .ref q_6, .ref q_7, .ref q_8, .null, .null, .int 0, .int 0, .null, .int 0, .null, .int 0, .null])), (q_1, .inl (ct 1, 7000, .inl (fun _ => 0))), (q_2, .inl (ct 1, 7000, .inl (fun _ => 0))), (q_3, .inl (ct 1, 7000, .inl (fun _ => 0))), (q_4, .inl (ct 1, 3000, .inl (fun _ => 0))), (q_5, .inl (ct 1, 3000, .inl (fun _ => 0))), (q_6, .inl (ct 1, 3000, .inl (fun _ => 0))), (q_7, .inl (ct 1, 3000, .inl (fun _ => 0))), (q_8, .inl (ct 1, 3000, .inl (fun _ => 0)))] := hD
  refine lv_aload_n hx hb dX2_init_76 rfl (lv_at hl 0 rfl) ?_
  refine lv_sipush (v := 3000) hx hb dX2_init_77 (by decide) ?_
  refine na_new (atype := .int) (k1 := 9) (n1 := 39000) hx hb hn mw_72 rfl hK hP hD hS hA 1 rfl 3000 (3000, .inl (fun _ => 0)) (fun _ => rfl) (by decide) (by decide) (Nat.le_of_ble_eq_true rfl) (Nat.le_of_ble_eq_true rfl) (Nat.le_of_ble_eq_true rfl) (Nat.le_of_ble_eq_true rfl) (Nat.le_of_ble_eq_true rfl) dX2_init_80 (fun q_9 H hP hD hS => ?_)
  have hP : va_P D vwCl [(h0, .inr (2, [.ref q_1, .ref q_2, .ref q_3, .int 0, .ref q_4, .ref q_5, .ref q_6, .ref q_7, .ref q_8, .null, .null, .int 0, .int 0, .null, .int 0, .null, .int 0, .null])), (q_1, .inl (ct 1, 7000, .inl (fun _ => 0))), (q_2, .inl (ct 1, 7000, .inl (fun _ => 0))), (q_3, .inl (ct 1, 7000, .inl (fun _ => 0))), (q_4, .inl (ct 1, 3000, .inl (fun _ => 0))), (q_5, .inl (ct 1, 3000, .inl (fun _ => 0))), (q_6, .inl (ct 1, 3000, .inl (fun _ => 0))), (q_7, .inl (ct 1, 3000, .inl (fun _ => 0))), (q_8, .inl (ct 1, 3000, .inl (fun _ => 0))), (q_9, .inl (ct 1, 3000, .inl (fun _ => 0)))] _ := hP
  have hD : va_D A [(h0, .inr (2, [.ref q_1, .ref q_2, .ref q_3, .int 0, .ref q_4, .ref q_5, .ref q_6, .ref q_7, .ref q_8, .null, .null, .int 0, .int 0, .null, .int 0, .null, .int 0, .null])), (q_1, .inl (ct 1, 7000, .inl (fun _ => 0))), (q_2, .inl (ct 1, 7000, .inl (fun _ => 0))), (q_3, .inl (ct 1, 7000, .inl (fun _ => 0))), (q_4, .inl (ct 1, 3000, .inl (fun _ => 0))), (q_5, .inl (ct 1, 3000, .inl (fun _ => 0))), (q_6, .inl (ct 1, 3000, .inl (fun _ => 0))), (q_7, .inl (ct 1, 3000, .inl (fun _ => 0))), (q_8, .inl (ct 1, 3000, .inl (fun _ => 0))), (q_9, .inl (ct 1, 3000, .inl (fun _ => 0)))] := hD
  refine va_putF (D := D) (ci := 2) (v := .ref q_9) (ty := .array .int) (C := RX2) (T := TX2) (N := 18) hx hb (htX2 hn) (fun _ h => h) tyX2 tyX2_ok nmX2 hown hK hP hD hS 0 rfl rfl 9 (by decide) (hn.get mw_165 rfl) (fun _ h9 => h9) rfl hin rfl (by decide +kernel) rfl rfl (Nat.le_of_ble_eq_true rfl) dX2_init_82 (fun H locs hP hD hS => ?_)
  have hP : va_P D vwCl [(h0, .inr (2, [.ref q_1, .ref q_2, .ref q_3, .int 0, .ref q_4, .ref q_5, .ref q_6, .ref q_7, .ref q_8, .ref q_9, .null, .int 0, .int 0, .null, .int 0, .null, .int 0, .null])), (q_1, .inl (ct 1, 7000, .inl (fun _ => 0))), (q_2, .inl (ct 1, 7000, .inl (fun _ => 0))), (q_3, .inl (ct 1, 7000, .inl (fun _ => 0))), (q_4, .inl (ct 1, 3000, .inl (fun _ => 0))), (q_5, .inl (ct 1, 3000, .inl (fun _ => 0))), (q_6, .inl (ct 1, 3000, .inl (fun _ => 0))), (q_7, .inl (ct 1, 3000, .inl (fun _ => 0))), (q_8, .inl (ct 1, 3000, .inl (fun _ => 0))), (q_9, .inl (ct 1, 3000, .inl (fun _ => 0)))] _ := hP
  have hD : va_D A [(h0, .inr (2, [.ref q_1, .ref q_2, .ref q_3, .int 0, .ref q_4, .ref q_5, .ref q_6, .ref q_7, .ref q_8, .ref q_9, .null, .int 0, .int 0, .null, .int 0, .null, .int 0, .null])), (q_1, .inl (ct 1, 7000, .inl (fun _ => 0))), (q_2, .inl (ct 1, 7000, .inl (fun _ => 0))), (q_3, .inl (ct 1, 7000, .inl (fun _ => 0))), (q_4, .inl (ct 1, 3000, .inl (fun _ => 0))), (q_5, .inl (ct 1, 3000, .inl (fun _ => 0))), (q_6, .inl (ct 1, 3000, .inl (fun _ => 0))), (q_7, .inl (ct 1, 3000, .inl (fun _ => 0))), (q_8, .inl (ct 1, 3000, .inl (fun _ => 0))), (q_9, .inl (ct 1, 3000, .inl (fun _ => 0)))] := hD
  refine lv_aload_n hx hb dX2_init_85 rfl (lv_at hl 0 rfl) ?_
  refine lv_sipush (v := 3000) hx hb dX2_init_86 (by decide) ?_
  refine na_new (atype := .boolean) (k1 := 10) (n1 := 42000) hx hb hn mw_216 rfl hK hP hD hS hA 3 rfl 3000 (3000, .inl (fun _ => 0)) (fun _ => rfl) (by decide) (by decide) (Nat.le_of_ble_eq_true rfl) (Nat.le_of_ble_eq_true rfl) (Nat.le_of_ble_eq_true rfl) (Nat.le_of_ble_eq_true rfl) (Nat.le_of_ble_eq_true rfl) dX2_init_89 (fun q_10 H hP hD hS => ?_)
  have hP : va_P D vwCl [(h0, .inr (2, [.ref q_1, .ref q_2, .ref q_3, .int 0, .ref q_4, .ref q_5, .ref q_6, .ref q_7, .ref q_8, .ref q_9, .null, .int 0, .int 0, .null, .int 0, .null, .int 0, .null])), (q_1, .inl (ct 1, 7000, .inl (fun _ => 0))), (q_2, .inl (ct 1, 7000, .inl (fun _ => 0))), (q_3, .inl (ct 1, 7000, .inl (fun _ => 0))), (q_4, .inl (ct 1, 3000, .inl (fun _ => 0))), (q_5, .inl (ct 1, 3000, .inl (fun _ => 0))), (q_6, .inl (ct 1, 3000, .inl (fun _ => 0))), (q_7, .inl (ct 1, 3000, .inl (fun _ => 0))), (q_8, .inl (ct 1, 3000, .inl (fun _ => 0))), (q_9, .inl (ct 1, 3000, .inl (fun _ => 0))), (q_10, .inl (ct 3, 3000, .inl (fun _ => 0)))] _ := hP
  have hD : va_D A [(h0, .inr (2, [.ref q_1, .ref q_2, .ref q_3, .int 0, .ref q_4, .ref q_5, .ref q_6, .ref q_7, .ref q_8, .ref q_9, .null, .int 0, .int 0, .null, .int 0, .null, .int 0, .null])), (q_1, .inl (ct 1, 7000, .inl (fun _ => 0))), (q_2, .inl (ct 1, 7000, .inl (fun _ => 0))), (q_3, .inl (ct 1, 7000, .inl (fun _ => 0))), (q_4, .inl (ct 1, 3000, .inl (fun _ => 0))), (q_5, .inl (ct 1, 3000, .inl (fun _ => 0))), (q_6, .inl (ct 1, 3000, .inl (fun _ => 0))), (q_7, .inl (ct 1, 3000, .inl (fun _ => 0))), (q_8, .inl (ct 1, 3000, .inl (fun _ => 0))), (q_9, .inl (ct 1, 3000, .inl (fun _ => 0))), (q_10, .inl (ct 3, 3000, .inl (fun _ => 0)))] := hD
  refine va_putF (D := D) (ci := 2) (v := .ref q_10) (ty := .array .boolean) (C := RX2) (T := TX2) (N := 18) hx hb (htX2 hn) (fun _ h => h) tyX2 tyX2_ok nmX2 hown hK hP hD hS 0 rfl rfl 10 (by decide) (hn.get mw_167 rfl) (fun _ h9 => h9) rfl hin rfl (by decide +kernel) rfl rfl (Nat.le_of_ble_eq_true rfl) dX2_init_91 (fun H locs hP hD hS => ?_)
  have hP : va_P D vwCl [(h0, .inr (2, [.ref q_1, .ref q_2, .ref q_3, .int 0, .ref q_4, .ref q_5, .ref q_6, .ref q_7, .ref q_8, .ref q_9, .ref q_10, .int 0, .int 0, .null, .int 0, .null, .int 0, .null])), (q_1, .inl (ct 1, 7000, .inl (fun _ => 0))), (q_2, .inl (ct 1, 7000, .inl (fun _ => 0))), (q_3, .inl (ct 1, 7000, .inl (fun _ => 0))), (q_4, .inl (ct 1, 3000, .inl (fun _ => 0))), (q_5, .inl (ct 1, 3000, .inl (fun _ => 0))), (q_6, .inl (ct 1, 3000, .inl (fun _ => 0))), (q_7, .inl (ct 1, 3000, .inl (fun _ => 0))), (q_8, .inl (ct 1, 3000, .inl (fun _ => 0))), (q_9, .inl (ct 1, 3000, .inl (fun _ => 0))), (q_10, .inl (ct 3, 3000, .inl (fun _ => 0)))] _ := hP
  have hD : va_D A [(h0, .inr (2, [.ref q_1, .ref q_2, .ref q_3, .int 0, .ref q_4, .ref q_5, .ref q_6, .ref q_7, .ref q_8, .ref q_9, .ref q_10, .int 0, .int 0, .null, .int 0, .null, .int 0, .null])), (q_1, .inl (ct 1, 7000, .inl (fun _ => 0))), (q_2, .inl (ct 1, 7000, .inl (fun _ => 0))), (q_3, .inl (ct 1, 7000, .inl (fun _ => 0))), (q_4, .inl (ct 1, 3000, .inl (fun _ => 0))), (q_5, .inl (ct 1, 3000, .inl (fun _ => 0))), (q_6, .inl (ct 1, 3000, .inl (fun _ => 0))), (q_7, .inl (ct 1, 3000, .inl (fun _ => 0))), (q_8, .inl (ct 1, 3000, .inl (fun _ => 0))), (q_9, .inl (ct 1, 3000, .inl (fun _ => 0))), (q_10, .inl (ct 3, 3000, .inl (fun _ => 0)))] := hD
  refine lv_aload_n hx hb dX2_init_94 rfl (lv_at hl 0 rfl) ?_
  refine lv_sipush (v := 5000) hx hb dX2_init_95 (by decide) ?_
  refine na_new (atype := .int) (k1 := 11) (n1 := 47000) hx hb hn mw_72 rfl hK hP hD hS hA 1 rfl 5000 (5000, .inl (fun _ => 0)) (fun _ => rfl) (by decide) (by decide) (Nat.le_of_ble_eq_true rfl) (Nat.le_of_ble_eq_true rfl) (Nat.le_of_ble_eq_true rfl) (Nat.le_of_ble_eq_true rfl) (Nat.le_of_ble_eq_true rfl) dX2_init_98 (fun q_11 H hP hD hS => ?_)
  have hP : va_P D vwCl [(h0, .inr (2, [.ref q_1, .ref q_2, .ref q_3, .int 0, .ref q_4, .ref q_5, .ref q_6, .ref q_7, .ref q_8, .ref q_9, .ref q_10, .int 0, .int 0, .null, .int 0, .null, .int 0, .null])), (q_1, .inl (ct 1, 7000, .inl (fun _ => 0))), (q_2, .inl (ct 1, 7000, .inl (fun _ => 0))), (q_3, .inl (ct 1, 7000, .inl (fun _ => 0))), (q_4, .inl (ct 1, 3000, .inl (fun _ => 0))), (q_5, .inl (ct 1, 3000, .inl (fun _ => 0))), (q_6, .inl (ct 1, 3000, .inl (fun _ => 0))), (q_7, .inl (ct 1, 3000, .inl (fun _ => 0))), (q_8, .inl (ct 1, 3000, .inl (fun _ => 0))), (q_9, .inl (ct 1, 3000, .inl (fun _ => 0))), (q_10, .inl (ct 3, 3000, .inl (fun _ => 0))), (q_11, .inl (ct 1, 5000, .inl (fun _ => 0)))] _ := hP
  have hD : va_D A [(h0, .inr (2, [.ref q_1, .ref q_2, .ref q_3, .int 0, .ref q_4, .ref q_5, .ref q_6, .ref q_7, .ref q_8, .ref q_9, .ref q_10, .int 0, .int 0, .null, .int 0, .null, .int 0, .null])), (q_1, .inl (ct 1, 7000, .inl (fun _ => 0))), (q_2, .inl (ct 1, 7000, .inl (fun _ => 0))), (q_3, .inl (ct 1, 7000, .inl (fun _ => 0))), (q_4, .inl (ct 1, 3000, .inl (fun _ => 0))), (q_5, .inl (ct 1, 3000, .inl (fun _ => 0))), (q_6, .inl (ct 1, 3000, .inl (fun _ => 0))), (q_7, .inl (ct 1, 3000, .inl (fun _ => 0))), (q_8, .inl (ct 1, 3000, .inl (fun _ => 0))), (q_9, .inl (ct 1, 3000, .inl (fun _ => 0))), (q_10, .inl (ct 3, 3000, .inl (fun _ => 0))), (q_11, .inl (ct 1, 5000, .inl (fun _ => 0)))] := hD
  refine va_putF (D := D) (ci := 2) (v := .ref q_11) (ty := .array .int) (C := RX2) (T := TX2) (N := 18) hx hb (htX2 hn) (fun _ h => h) tyX2 tyX2_ok nmX2 hown hK hP hD hS 0 rfl rfl 13 (by decide) (hn.get mw_174 rfl) (fun _ h9 => h9) rfl hin rfl (by decide +kernel) rfl rfl (Nat.le_of_ble_eq_true rfl) dX2_init_100 (fun H locs hP hD hS => ?_)
  have hP : va_P D vwCl [(h0, .inr (2, [.ref q_1, .ref q_2, .ref q_3, .int 0, .ref q_4, .ref q_5, .ref q_6, .ref q_7, .ref q_8, .ref q_9, .ref q_10, .int 0, .int 0, .ref q_11, .int 0, .null, .int 0, .null])), (q_1, .inl (ct 1, 7000, .inl (fun _ => 0))), (q_2, .inl (ct 1, 7000, .inl (fun _ => 0))), (q_3, .inl (ct 1, 7000, .inl (fun _ => 0))), (q_4, .inl (ct 1, 3000, .inl (fun _ => 0))), (q_5, .inl (ct 1, 3000, .inl (fun _ => 0))), (q_6, .inl (ct 1, 3000, .inl (fun _ => 0))), (q_7, .inl (ct 1, 3000, .inl (fun _ => 0))), (q_8, .inl (ct 1, 3000, .inl (fun _ => 0))), (q_9, .inl (ct 1, 3000, .inl (fun _ => 0))), (q_10, .inl (ct 3, 3000, .inl (fun _ => 0))), (q_11, .inl (ct 1, 5000, .inl (fun _ => 0)))] _ := hP
  have hD : va_D A [(h0, .inr (2, [.ref q_1, .ref q_2, .ref q_3, .int 0, .ref q_4, .ref q_5, .ref q_6, .ref q_7, .ref q_8, .ref q_9, .ref q_10, .int 0, .int 0, .ref q_11, .int 0, .null, .int 0, .null])), (q_1, .inl (ct 1, 7000, .inl (fun _ => 0))), (q_2, .inl (ct 1, 7000, .inl (fun _ => 0))), (q_3, .inl (ct 1, 7000, .inl (fun _ => 0))), (q_4, .inl (ct 1, 3000, .inl (fun _ => 0))), (q_5, .inl (ct 1, 3000, .inl (fun _ => 0))), (q_6, .inl (ct 1, 3000, .inl (fun _ => 0))), (q_7, .inl (ct 1, 3000, .inl (fun _ => 0))), (q_8, .inl (ct 1, 3000, .inl (fun _ => 0))), (q_9, .inl (ct 1, 3000, .inl (fun _ => 0))), (q_10, .inl (ct 3, 3000, .inl (fun _ => 0))), (q_11, .inl (ct 1, 5000, .inl (fun _ => 0)))] := hD
  refine lv_aload_n hx hb dX2_init_103 rfl (lv_at hl 0 rfl) ?_
  refine lv_bipush (v := 6) hx hb dX2_init_104 (by decide) ?_
  refine na_new (atype := .int) (k1 := 12) (n1 := 47006) hx hb hn mw_72 rfl hK hP hD hS hA 1 rfl 6 (6, .inl (fun _ => 0)) (fun _ => rfl) (by decide) (by decide) (Nat.le_of_ble_eq_true rfl) (Nat.le_of_ble_eq_true rfl) (Nat.le_of_ble_eq_true rfl) (Nat.le_of_ble_eq_true rfl) (Nat.le_of_ble_eq_true rfl) dX2_init_106 (fun q_12 H hP hD hS => ?_)
  have hP : va_P D vwCl [(h0, .inr (2, [.ref q_1, .ref q_2, .ref q_3, .int 0, .ref q_4, .ref q_5, .ref q_6, .ref q_7, .ref q_8, .ref q_9, .ref q_10, .int 0, .int 0, .ref q_11, .int 0, .null, .int 0, .null])), (q_1, .inl (ct 1, 7000, .inl (fun _ => 0))), (q_2, .inl (ct 1, 7000, .inl (fun _ => 0))), (q_3, .inl (ct 1, 7000, .inl (fun _ => 0))), (q_4, .inl (ct 1, 3000, .inl (fun _ => 0))), (q_5, .inl (ct 1, 3000, .inl (fun _ => 0))), (q_6, .inl (ct 1, 3000, .inl (fun _ => 0))), (q_7, .inl (ct 1, 3000, .inl (fun _ => 0))), (q_8, .inl (ct 1, 3000, .inl (fun _ => 0))), (q_9, .inl (ct 1, 3000, .inl (fun _ => 0))), (q_10, .inl (ct 3, 3000, .inl (fun _ => 0))), (q_11, .inl (ct 1, 5000, .inl (fun _ => 0))), (q_12, .inl (ct 1, 6, .inl (fun _ => 0)))] _ := hP
  have hD : va_D A [(h0, .inr (2, [.ref q_1, .ref q_2, .ref q_3, .int 0, .ref q_4, .ref q_5, .ref q_6, .ref q_7, .ref q_8, .ref q_9, .ref q_10, .int 0, .int 0, .ref q_11, .int 0, .null, .int 0, .null])), (q_1, .inl (ct 1, 7000, .inl (fun _ => 0))), (q_2, .inl (ct 1, 7000, .inl (fun _ => 0))), (q_3, .inl (ct 1, 7000, .inl (fun _ => 0))), (q_4, .inl (ct 1, 3000, .inl (fun _ => 0))), (q_5, .inl (ct 1, 3000, .inl (fun _ => 0))), (q_6, .inl (ct 1, 3000, .inl (fun _ => 0))), (q_7, .inl (ct 1, 3000, .inl (fun _ => 0))), (q_8, .inl (ct 1, 3000, .inl (fun _ => 0))), (q_9, .inl (ct 1, 3000, .inl (fun _ => 0))), (q_10, .inl (ct 3, 3000, .inl (fun _ => 0))), (q_11, .inl (ct 1, 5000, .inl (fun _ => 0))), (q_12, .inl (ct 1, 6, .inl (fun _ => 0)))] := hD
  refine va_putF (D := D) (ci := 2) (v := .ref q_12) (ty := .array .int) (C := RX2) (T := TX2) (N := 18) hx hb (htX2 hn) (fun _ h => h) tyX2 tyX2_ok nmX2 hown hK hP hD hS 0 rfl rfl 15 (by decide) (hn.get mw_176 rfl) (fun _ h9 => h9) rfl hin rfl (by decide +kernel) rfl rfl (Nat.le_of_ble_eq_true rfl) dX2_init_108 (fun H locs hP hD hS => ?_)
  have hP : va_P D vwCl [(h0, .inr (2, [.ref q_1, .ref q_2, .ref q_3, .int 0, .ref q_4, .ref q_5, .ref q_6, .ref q_7, .ref q_8, .ref q_9, .ref q_10, .int 0, .int 0, .ref q_11, .int 0, .ref q_12, .int 0, .null])), (q_1, .inl (ct 1, 7000, .inl (fun _ => 0))), (q_2, .inl (ct 1, 7000, .inl (fun _ => 0))), (q_3, .inl (ct 1, 7000, .inl (fun _ => 0))), (q_4, .inl (ct 1, 3000, .inl (fun _ => 0))), (q_5, .inl (ct 1, 3000, .inl (fun _ => 0))), (q_6, .inl (ct 1, 3000, .inl (fun _ => 0))), (q_7, .inl (ct 1, 3000, .inl (fun _ => 0))), (q_8, .inl (ct 1, 3000, .inl (fun _ => 0))), (q_9, .inl (ct 1, 3000, .inl (fun _ => 0))), (q_10, .inl (ct 3, 3000, .inl (fun _ => 0))), (q_11, .inl (ct 1, 5000, .inl (fun _ => 0))), (q_12, .inl (ct 1, 6, .inl (fun _ => 0)))] _ := hP
  have hD : va_D A [(h0, .inr (2, [.ref q_1, .ref q_2, .ref q_3, .int 0, .ref q_4, .ref q_5, .ref q_6, .ref q_7, .ref q_8, .ref q_9, .ref q_10, .int 0, .int 0, .ref q_11, .int 0, .ref q_12, .int 0, .null])), (q_1, .inl (ct 1, 7000, .inl (fun _ => 0))), (q_2, .inl (ct 1, 7000, .inl (fun _ => 0))), (q_3, .inl (ct 1, 7000, .inl (fun _ => 0))), (q_4, .inl (ct 1, 3000, .inl (fun _ => 0))), (q_5, .inl (ct 1, 3000, .inl (fun _ => 0))), (q_6, .inl (ct 1, 3000, .inl (fun _ => 0))), (q_7, .inl (ct 1, 3000, .inl (fun _ => 0))), (q_8, .inl (ct 1, 3000, .inl (fun _ => 0))), (q_9, .inl (ct 1, 3000, .inl (fun _ => 0))), (q_10, .inl (ct 3, 3000, .inl (fun _ => 0))), (q_11, .inl (ct 1, 5000, .inl (fun _ => 0))), (q_12, .inl (ct 1, 6, .inl (fun _ => 0)))] := hD
  refine lv_aload_n hx hb dX2_init_111 rfl (lv_at hl 0 rfl) ?_
  refine lv_bipush (v := 8) hx hb dX2_init_112 (by decide) ?_
  refine na_new (atype := .long) (k1 := 13) (n1 := 47014) hx hb hn mw_123 rfl hK hP hD hS hA 2 rfl 8 (8, .inr (.inl (fun _ => 0))) (fun _ => rfl) (by decide) (by decide) (Nat.le_of_ble_eq_true rfl) (Nat.le_of_ble_eq_true rfl) (Nat.le_of_ble_eq_true rfl) (Nat.le_of_ble_eq_true rfl) (Nat.le_of_ble_eq_true rfl) dX2_init_114 (fun q_13 H hP hD hS => ?_)
  have hP : va_P D vwCl [(h0, .inr (2, [.ref q_1, .ref q_2, .ref q_3, .int 0, .ref q_4, .ref q_5, .ref q_6, .ref q_7, .ref q_8, .ref q_9, .ref q_10, .int 0, .int 0, .ref q_11, .int 0, .ref q_12, .int 0, .null])), (q_1, .inl (ct 1, 7000, .inl (fun _ => 0))), (q_2, .inl (ct 1, 7000, .inl (fun _ => 0))), (q_3, .inl (ct 1, 7000, .inl (fun _ => 0))), (q_4, .inl (ct 1, 3000, .inl (fun _ => 0))), (q_5, .inl (ct 1, 3000, .inl (fun _ => 0))), (q_6, .inl (ct 1, 3000, .inl (fun _ => 0))), (q_7, .inl (ct 1, 3000, .inl (fun _ => 0))), (q_8, .inl (ct 1, 3000, .inl (fun _ => 0))), (q_9, .inl (ct 1, 3000, .inl (fun _ => 0))), (q_10, .inl (ct 3, 3000, .inl (fun _ => 0))), (q_11, .inl (ct 1, 5000, .inl (fun _ => 0))), (q_12, .inl (ct 1, 6, .inl (fun _ => 0))), (q_13, .inl (ct 2, 8, .inr (.inl (fun _ => 0))))] _ := hP
  have hD : va_D A [(h0, .inr (2, [.ref q_1, .ref q_2, .ref q_3, .int 0, .ref q_4, .ref q_5, .ref q_6, .ref q_7, .ref q_8, .ref q_9, .ref q_10, .int 0, .int 0, .ref q_11, .int 0, .ref q_12, .int 0, .null])), (q_1, .inl (ct 1, 7000, .inl (fun _ => 0))), (q_2, .inl (ct 1, 7000, .inl (fun _ => 0))), (q_3, .inl (ct 1, 7000, .inl (fun _ => 0))), (q_4, .inl (ct 1, 3000, .inl (fun _ => 0))), (q_5, .inl (ct 1, 3000, .inl (fun _ => 0))), (q_6, .inl (ct 1, 3000, .inl (fun _ => 0))), (q_7, .inl (ct 1, 3000, .inl (fun _ => 0))), (q_8, .inl (ct 1, 3000, .inl (fun _ => 0))), (q_9, .inl (ct 1, 3000, .inl (fun _ => 0))), (q_10, .inl (ct 3, 3000, .inl (fun _ => 0))), (q_11, .inl (ct 1, 5000, .inl (fun _ => 0))), (q_12, .inl (ct 1, 6, .inl (fun _ => 0))), (q_13, .inl (ct 2, 8, .inr (.inl (fun _ => 0))))] := hD
  refine va_putF (D := D) (ci := 2) (v := .ref q_13) (ty := .array .long) (C := RX2) (T := TX2) (N := 18) hx hb (htX2 hn) (fun _ h => h) tyX2 tyX2_ok nmX2 hown hK hP hD hS 0 rfl rfl 17 (by decide) (hn.get mw_178 rfl) (fun _ h9 => h9) rfl hin rfl (by decide +kernel) rfl rfl (Nat.le_of_ble_eq_true rfl) dX2_init_116 (fun H locs hP hD hS => ?_)
  have hP : va_P D vwCl [(h0, .inr (2, [.ref q_1, .ref q_2, .ref q_3, .int 0, .ref q_4, .ref q_5, .ref q_6, .ref q_7, .ref q_8, .ref q_9, .ref q_10, .int 0, .int 0, .ref q_11, .int 0, .ref q_12, .int 0, .ref q_13])), (q_1, .inl (ct 1, 7000, .inl (fun _ => 0))), (q_2, .inl (ct 1, 7000, .inl (fun _ => 0))), (q_3, .inl (ct 1, 7000, .inl (fun _ => 0))), (q_4, .inl (ct 1, 3000, .inl (fun _ => 0))), (q_5, .inl (ct 1, 3000, .inl (fun _ => 0))), (q_6, .inl (ct 1, 3000, .inl (fun _ => 0))), (q_7, .inl (ct 1, 3000, .inl (fun _ => 0))), (q_8, .inl (ct 1, 3000, .inl (fun _ => 0))), (q_9, .inl (ct 1, 3000, .inl (fun _ => 0))), (q_10, .inl (ct 3, 3000, .inl (fun _ => 0))), (q_11, .inl (ct 1, 5000, .inl (fun _ => 0))), (q_12, .inl (ct 1, 6, .inl (fun _ => 0))), (q_13, .inl (ct 2, 8, .inr (.inl (fun _ => 0))))] _ := hP
  have hD : va_D A [(h0, .inr (2, [.ref q_1, .ref q_2, .ref q_3, .int 0, .ref q_4, .ref q_5, .ref q_6, .ref q_7, .ref q_8, .ref q_9, .ref q_10, .int 0, .int 0, .ref q_11, .int 0, .ref q_12, .int 0, .ref q_13])), (q_1, .inl (ct 1, 7000, .inl (fun _ => 0))), (q_2, .inl (ct 1, 7000, .inl (fun _ => 0))), (q_3, .inl (ct 1, 7000, .inl (fun _ => 0))), (q_4, .inl (ct 1, 3000, .inl (fun _ => 0))), (q_5, .inl (ct 1, 3000, .inl (fun _ => 0))), (q_6, .inl (ct 1, 3000, .inl (fun _ => 0))), (q_7, .inl (ct 1, 3000, .inl (fun _ => 0))), (q_8, .inl (ct 1, 3000, .inl (fun _ => 0))), (q_9, .inl (ct 1, 3000, .inl (fun _ => 0))), (q_10, .inl (ct 3, 3000, .inl (fun _ => 0))), (q_11, .inl (ct 1, 5000, .inl (fun _ => 0))), (q_12, .inl (ct 1, 6, .inl (fun _ => 0))), (q_13, .inl (ct 2, 8, .inr (.inl (fun _ => 0))))] := hD
  exact end_v hx hb hr hlocks dX2_init_119 (q_1, q_2, q_3, q_4, q_5, q_6, q_7, q_8, q_9, q_10, q_11, q_12, q_13) trivial hP hD hS [0, 11] rfl (by decide) rfl (Nat.le_of_ble_eq_true rfl) (Nat.le_of_ble_eq_true rfl)
set_option maxHeartbeats 4000000 in
set_option maxRecDepth 100000 in
theorem c_X8_init (l : Launch) (D : va_G) (ct : Nat → ClassId) (h0 : Nat) (t0 : Nat) (f0 : Nat)  : KV (S := Unit) l yX8_init cX8_init 3 none 2 20 D ct [.ref h0, .ref t0, .ref f0] [(h0, .inr (8, [.null, .null, .int 0, .int 0, .int 0, .int 0]))] 0 0 (fun _ => True) (fun (_ : Unit) => [(h0, .inr (8, [.ref t0, .ref f0, .int 0, .int 0, .int 0, .int 0]))]) := by
  intro sz
  refine K_of (Qf := fun A => va_Qv (fun _ => True) (PoC D A (fun (_ : Unit) => [(h0, .inr (8, [.ref t0, .ref f0, .int 0, .int 0, .int 0, .int 0]))])) A) sz (by decide) (Nat.le_of_ble_eq_true rfl) (fun p e s m below meth c A C0 hA hS hP hD ls hl => ?_)
  obtain ⟨hx, hb, hr, hown, hin, hml, hlocks, hn, hK⟩ := C0
  have hl : lv_has ls 3 [(0, .ref h0), (1, .ref t0), (2, .ref f0)] := hl
  refine lv_aload_n hx hb dX8_init_0 rfl (lv_at hl 0 rfl) ?_
  refine W.objInit hx hb hown (hn.get mw_240 rfl) (hn.get mw_34 rfl) (hn.get mw_oi rfl) rfl (by rw [hml]; exact hl.1) rfl dX8_init_1 (Nat.le_of_ble_eq_true rfl) (Nat.le_of_ble_eq_true rfl) ?_
  refine W.eq (g2 := F0 m 4 ls []) rfl ?_
  refine lv_aload_n hx hb dX8_init_4 rfl (lv_at hl 0 rfl) ?_
  refine lv_aload_n hx hb dX8_init_5 rfl (lv_at hl 1 rfl) ?_
  refine va_putF (D := D) (ci := 8) (v := .ref t0) (ty := .object "FilterForge$Tape") (C := RX8) (T := TX8) (N := 6) hx hb (htX8 hn) (fun _ h => h) tyX8 tyX8_ok nmX8 hown hK hP hD hS 0 rfl rfl 0 (by decide) (hn.get mw_241 rfl) (fun _ h9 => h9) rfl hin rfl (by decide +kernel) rfl rfl (Nat.le_of_ble_eq_true rfl) dX8_init_6 (fun H locs hP hD hS => ?_)
  have hP : va_P D vwCl [(h0, .inr (8, [.ref t0, .null, .int 0, .int 0, .int 0, .int 0]))] _ := hP
  have hD : va_D A [(h0, .inr (8, [.ref t0, .null, .int 0, .int 0, .int 0, .int 0]))] := hD
  refine lv_aload_n hx hb dX8_init_9 rfl (lv_at hl 0 rfl) ?_
  refine lv_aload_n hx hb dX8_init_10 rfl (lv_at hl 2 rfl) ?_
  refine va_put (D := D) (ci := 8) (v := .ref f0) (ty := .object "FilterForge$Filter") (C := RX8) (T := TX8) (N := 6) hx hb (htX8 hn) (fun _ h => h) tyX8 tyX8_ok nmX8 hown hK hP hD hS 0 rfl rfl 1 (by decide) (hn.get mw_242 rfl) (fun _ h9 => h9) rfl (by decide +kernel) rfl rfl (Nat.le_of_ble_eq_true rfl) dX8_init_11 (fun H locs hP hD hS => ?_)
  have hP : va_P D vwCl [(h0, .inr (8, [.ref t0, .ref f0, .int 0, .int 0, .int 0, .int 0]))] _ := hP
  have hD : va_D A [(h0, .inr (8, [.ref t0, .ref f0, .int 0, .int 0, .int 0, .int 0]))] := hD
  exact end_v hx hb hr hlocks dX8_init_14 () trivial hP hD hS [0] rfl (by decide) rfl (Nat.le_of_ble_eq_true rfl) (Nat.le_of_ble_eq_true rfl)
set_option maxHeartbeats 4000000 in
set_option maxRecDepth 100000 in
theorem c_X0_init (l : Launch) (D : va_G) (ct : Nat → ClassId) (h0 : Nat) (f0 : Nat) (p0 : Nat)  : KV (S := Nat × Nat) l yX0_init cX0_init 3 none 2 20 D ct [.ref h0, .ref f0, .ref p0] [(h0, .inr (0, [.null, .null, .null, .null, .int 0]))] 2 7002 (fun _ => True) (fun (u : Nat × Nat) => match u with | (a, b) => [(h0, .inr (0, [.ref a, .ref b, .ref f0, .ref p0, .int 0])), (a, .inl (ct 1, 3002, .inl (fun _ => 0))), (b, .inl (ct 1, 4000, .inl (fun _ => 0)))]) := by
  intro sz
  refine K_of (Qf := fun A => va_Qv (fun _ => True) (PoC D A (fun (u : Nat × Nat) => match u with | (a, b) => [(h0, .inr (0, [.ref a, .ref b, .ref f0, .ref p0, .int 0])), (a, .inl (ct 1, 3002, .inl (fun _ => 0))), (b, .inl (ct 1, 4000, .inl (fun _ => 0)))])) A) sz (by decide) (Nat.le_of_ble_eq_true rfl) (fun p e s m below meth c A C0 hA hS hP hD ls hl => ?_)
  obtain ⟨hx, hb, hr, hown, hin, hml, hlocks, hn, hK⟩ := C0
  have hl : lv_has ls 3 [(0, .ref h0), (1, .ref f0), (2, .ref p0)] := hl
  refine lv_aload_n hx hb dX0_init_0 rfl (lv_at hl 0 rfl) ?_
  refine W.objInit hx hb hown (hn.get mw_265 rfl) (hn.get mw_34 rfl) (hn.get mw_oi rfl) rfl (by rw [hml]; exact hl.1) rfl dX0_init_1 (Nat.le_of_ble_eq_true rfl) (Nat.le_of_ble_eq_true rfl) ?_
  refine W.eq (g2 := F0 m 4 ls []) rfl ?_
  refine lv_aload_n hx hb dX0_init_4 rfl (lv_at hl 0 rfl) ?_
  refine lv_sipush (v := 3002) hx hb dX0_init_5 (by decide) ?_
  refine na_new (atype := .int) (k1 := 1) (n1 := 3002) hx hb hn mw_72 rfl hK hP hD hS hA 1 rfl 3002 (3002, .inl (fun _ => 0)) (fun _ => rfl) (by decide) (by decide) (Nat.le_of_ble_eq_true rfl) (Nat.le_of_ble_eq_true rfl) (Nat.le_of_ble_eq_true rfl) (Nat.le_of_ble_eq_true rfl) (Nat.le_of_ble_eq_true rfl) dX0_init_8 (fun q_1 H hP hD hS => ?_)
  have hP : va_P D vwCl [(h0, .inr (0, [.null, .null, .null, .null, .int 0])), (q_1, .inl (ct 1, 3002, .inl (fun _ => 0)))] _ := hP
  have hD : va_D A [(h0, .inr (0, [.null, .null, .null, .null, .int 0])), (q_1, .inl (ct 1, 3002, .inl (fun _ => 0)))] := hD
  refine va_putF (D := D) (ci := 0) (v := .ref q_1) (ty := .array .int) (C := RX0) (T := TX0) (N := 5) hx hb (htX0 hn) (fun _ h => h) tyX0 tyX0_ok nmX0 hown hK hP hD hS 0 rfl rfl 0 (by decide) (hn.get mw_266 rfl) (fun _ h9 => h9) rfl hin rfl (by decide +kernel) rfl rfl (Nat.le_of_ble_eq_true rfl) dX0_init_10 (fun H locs hP hD hS => ?_)
  have hP : va_P D vwCl [(h0, .inr (0, [.ref q_1, .null, .null, .null, .int 0])), (q_1, .inl (ct 1, 3002, .inl (fun _ => 0)))] _ := hP
  have hD : va_D A [(h0, .inr (0, [.ref q_1, .null, .null, .null, .int 0])), (q_1, .inl (ct 1, 3002, .inl (fun _ => 0)))] := hD
  refine lv_aload_n hx hb dX0_init_13 rfl (lv_at hl 0 rfl) ?_
  refine lv_sipush (v := 4000) hx hb dX0_init_14 (by decide) ?_
  refine na_new (atype := .int) (k1 := 2) (n1 := 7002) hx hb hn mw_72 rfl hK hP hD hS hA 1 rfl 4000 (4000, .inl (fun _ => 0)) (fun _ => rfl) (by decide) (by decide) (Nat.le_of_ble_eq_true rfl) (Nat.le_of_ble_eq_true rfl) (Nat.le_of_ble_eq_true rfl) (Nat.le_of_ble_eq_true rfl) (Nat.le_of_ble_eq_true rfl) dX0_init_17 (fun q_2 H hP hD hS => ?_)
  have hP : va_P D vwCl [(h0, .inr (0, [.ref q_1, .null, .null, .null, .int 0])), (q_1, .inl (ct 1, 3002, .inl (fun _ => 0))), (q_2, .inl (ct 1, 4000, .inl (fun _ => 0)))] _ := hP
  have hD : va_D A [(h0, .inr (0, [.ref q_1, .null, .null, .null, .int 0])), (q_1, .inl (ct 1, 3002, .inl (fun _ => 0))), (q_2, .inl (ct 1, 4000, .inl (fun _ => 0)))] := hD
  refine va_putF (D := D) (ci := 0) (v := .ref q_2) (ty := .array .int) (C := RX0) (T := TX0) (N := 5) hx hb (htX0 hn) (fun _ h => h) tyX0 tyX0_ok nmX0 hown hK hP hD hS 0 rfl rfl 1 (by decide) (hn.get mw_267 rfl) (fun _ h9 => h9) rfl hin rfl (by decide +kernel) rfl rfl (Nat.le_of_ble_eq_true rfl) dX0_init_19 (fun H locs hP hD hS => ?_)
  have hP : va_P D vwCl [(h0, .inr (0, [.ref q_1, .ref q_2, .null, .null, .int 0])), (q_1, .inl (ct 1, 3002, .inl (fun _ => 0))), (q_2, .inl (ct 1, 4000, .inl (fun _ => 0)))] _ := hP
  have hD : va_D A [(h0, .inr (0, [.ref q_1, .ref q_2, .null, .null, .int 0])), (q_1, .inl (ct 1, 3002, .inl (fun _ => 0))), (q_2, .inl (ct 1, 4000, .inl (fun _ => 0)))] := hD
  refine lv_aload_n hx hb dX0_init_22 rfl (lv_at hl 0 rfl) ?_
  refine lv_aload_n hx hb dX0_init_23 rfl (lv_at hl 1 rfl) ?_
  refine va_put (D := D) (ci := 0) (v := .ref f0) (ty := .object "FilterForge$Filter") (C := RX0) (T := TX0) (N := 5) hx hb (htX0 hn) (fun _ h => h) tyX0 tyX0_ok nmX0 hown hK hP hD hS 0 rfl rfl 2 (by decide) (hn.get mw_268 rfl) (fun _ h9 => h9) rfl (by decide +kernel) rfl rfl (Nat.le_of_ble_eq_true rfl) dX0_init_24 (fun H locs hP hD hS => ?_)
  have hP : va_P D vwCl [(h0, .inr (0, [.ref q_1, .ref q_2, .ref f0, .null, .int 0])), (q_1, .inl (ct 1, 3002, .inl (fun _ => 0))), (q_2, .inl (ct 1, 4000, .inl (fun _ => 0)))] _ := hP
  have hD : va_D A [(h0, .inr (0, [.ref q_1, .ref q_2, .ref f0, .null, .int 0])), (q_1, .inl (ct 1, 3002, .inl (fun _ => 0))), (q_2, .inl (ct 1, 4000, .inl (fun _ => 0)))] := hD
  refine lv_aload_n hx hb dX0_init_27 rfl (lv_at hl 0 rfl) ?_
  refine lv_aload_n hx hb dX0_init_28 rfl (lv_at hl 2 rfl) ?_
  refine va_put (D := D) (ci := 0) (v := .ref p0) (ty := .object "FilterForge$Program") (C := RX0) (T := TX0) (N := 5) hx hb (htX0 hn) (fun _ h => h) tyX0 tyX0_ok nmX0 hown hK hP hD hS 0 rfl rfl 3 (by decide) (hn.get mw_269 rfl) (fun _ h9 => h9) rfl (by decide +kernel) rfl rfl (Nat.le_of_ble_eq_true rfl) dX0_init_29 (fun H locs hP hD hS => ?_)
  have hP : va_P D vwCl [(h0, .inr (0, [.ref q_1, .ref q_2, .ref f0, .ref p0, .int 0])), (q_1, .inl (ct 1, 3002, .inl (fun _ => 0))), (q_2, .inl (ct 1, 4000, .inl (fun _ => 0)))] _ := hP
  have hD : va_D A [(h0, .inr (0, [.ref q_1, .ref q_2, .ref f0, .ref p0, .int 0])), (q_1, .inl (ct 1, 3002, .inl (fun _ => 0))), (q_2, .inl (ct 1, 4000, .inl (fun _ => 0)))] := hD
  exact end_v hx hb hr hlocks dX0_init_32 (q_1, q_2) trivial hP hD hS [0, 1, 2] rfl (by decide) rfl (Nat.le_of_ble_eq_true rfl) (Nat.le_of_ble_eq_true rfl)
set_option maxHeartbeats 4000000 in
set_option maxRecDepth 100000 in
theorem c_X10_init (l : Launch) (D : va_G) (ct : Nat → ClassId) (h0 : Nat) (p0 : Nat) (o0 : Nat)  : KV (S := Nat) l yX10_init cX10_init 3 none 2 20 D ct [.ref h0, .ref p0, .ref o0] [(h0, .inr (10, [.null, .null, .null, .int 0, .int 0]))] 1 4001 (fun _ => True) (fun (a : Nat) => [(h0, .inr (10, [.ref a, .ref o0, .ref p0, .int 0, .int 0])), (a, .inl (ct 1, 4001, .inl (fun _ => 0)))]) := by
  intro sz
  refine K_of (Qf := fun A => va_Qv (fun _ => True) (PoC D A (fun (a : Nat) => [(h0, .inr (10, [.ref a, .ref o0, .ref p0, .int 0, .int 0])), (a, .inl (ct 1, 4001, .inl (fun _ => 0)))])) A) sz (by decide) (Nat.le_of_ble_eq_true rfl) (fun p e s m below meth c A C0 hA hS hP hD ls hl => ?_)
  obtain ⟨hx, hb, hr, hown, hin, hml, hlocks, hn, hK⟩ := C0
  have hl : lv_has ls 3 [(0, .ref h0), (1, .ref p0), (2, .ref o0)] := hl
  refine lv_aload_n hx hb dX10_init_0 rfl (lv_at hl 0 rfl) ?_
  refine W.objInit hx hb hown (hn.get mw_287 rfl) (hn.get mw_34 rfl) (hn.get mw_oi rfl) rfl (by rw [hml]; exact hl.1) rfl dX10_init_1 (Nat.le_of_ble_eq_true rfl) (Nat.le_of_ble_eq_true rfl) ?_
  refine W.eq (g2 := F0 m 4 ls []) rfl ?_
  refine lv_aload_n hx hb dX10_init_4 rfl (lv_at hl 0 rfl) ?_
  refine lv_sipush (v := 4001) hx hb dX10_init_5 (by decide) ?_
  refine na_new (atype := .int) (k1 := 1) (n1 := 4001) hx hb hn mw_72 rfl hK hP hD hS hA 1 rfl 4001 (4001, .inl (fun _ => 0)) (fun _ => rfl) (by decide) (by decide) (Nat.le_of_ble_eq_true rfl) (Nat.le_of_ble_eq_true rfl) (Nat.le_of_ble_eq_true rfl) (Nat.le_of_ble_eq_true rfl) (Nat.le_of_ble_eq_true rfl) dX10_init_8 (fun q_1 H hP hD hS => ?_)
  have hP : va_P D vwCl [(h0, .inr (10, [.null, .null, .null, .int 0, .int 0])), (q_1, .inl (ct 1, 4001, .inl (fun _ => 0)))] _ := hP
  have hD : va_D A [(h0, .inr (10, [.null, .null, .null, .int 0, .int 0])), (q_1, .inl (ct 1, 4001, .inl (fun _ => 0)))] := hD
  refine va_putF (D := D) (ci := 10) (v := .ref q_1) (ty := .array .int) (C := RX10) (T := TX10) (N := 5) hx hb (htX10 hn) (fun _ h => h) tyX10 tyX10_ok nmX10 hown hK hP hD hS 0 rfl rfl 0 (by decide) (hn.get mw_288 rfl) (fun _ h9 => h9) rfl hin rfl (by decide +kernel) rfl rfl (Nat.le_of_ble_eq_true rfl) dX10_init_10 (fun H locs hP hD hS => ?_)
  have hP : va_P D vwCl [(h0, .inr (10, [.ref q_1, .null, .null, .int 0, .int 0])), (q_1, .inl (ct 1, 4001, .inl (fun _ => 0)))] _ := hP
  have hD : va_D A [(h0, .inr (10, [.ref q_1, .null, .null, .int 0, .int 0])), (q_1, .inl (ct 1, 4001, .inl (fun _ => 0)))] := hD
  refine lv_aload_n hx hb dX10_init_13 rfl (lv_at hl 0 rfl) ?_
  refine lv_aload_n hx hb dX10_init_14 rfl (lv_at hl 1 rfl) ?_
  refine va_put (D := D) (ci := 10) (v := .ref p0) (ty := .object "FilterForge$Program") (C := RX10) (T := TX10) (N := 5) hx hb (htX10 hn) (fun _ h => h) tyX10 tyX10_ok nmX10 hown hK hP hD hS 0 rfl rfl 2 (by decide) (hn.get mw_290 rfl) (fun _ h9 => h9) rfl (by decide +kernel) rfl rfl (Nat.le_of_ble_eq_true rfl) dX10_init_15 (fun H locs hP hD hS => ?_)
  have hP : va_P D vwCl [(h0, .inr (10, [.ref q_1, .null, .ref p0, .int 0, .int 0])), (q_1, .inl (ct 1, 4001, .inl (fun _ => 0)))] _ := hP
  have hD : va_D A [(h0, .inr (10, [.ref q_1, .null, .ref p0, .int 0, .int 0])), (q_1, .inl (ct 1, 4001, .inl (fun _ => 0)))] := hD
  refine lv_aload_n hx hb dX10_init_18 rfl (lv_at hl 0 rfl) ?_
  refine lv_aload_n hx hb dX10_init_19 rfl (lv_at hl 2 rfl) ?_
  refine va_putF (D := D) (ci := 10) (v := .ref o0) (ty := .object "FilterForge$ObjectCode") (C := RX10) (T := TX10) (N := 5) hx hb (htX10 hn) (fun _ h => h) tyX10 tyX10_ok nmX10 hown hK hP hD hS 0 rfl rfl 1 (by decide) (hn.get mw_289 rfl) (fun _ h9 => h9) rfl hin rfl (by decide +kernel) rfl rfl (Nat.le_of_ble_eq_true rfl) dX10_init_20 (fun H locs hP hD hS => ?_)
  have hP : va_P D vwCl [(h0, .inr (10, [.ref q_1, .ref o0, .ref p0, .int 0, .int 0])), (q_1, .inl (ct 1, 4001, .inl (fun _ => 0)))] _ := hP
  have hD : va_D A [(h0, .inr (10, [.ref q_1, .ref o0, .ref p0, .int 0, .int 0])), (q_1, .inl (ct 1, 4001, .inl (fun _ => 0)))] := hD
  exact end_v hx hb hr hlocks dX10_init_23 q_1 trivial hP hD hS [0, 1] rfl (by decide) rfl (Nat.le_of_ble_eq_true rfl) (Nat.le_of_ble_eq_true rfl)
set_option maxHeartbeats 4000000 in
set_option maxRecDepth 100000 in
theorem c_X1_init (l : Launch) (D : va_G) (ct : Nat → ClassId) (h0 : Nat)  : KV (S := Unit) l yX1_init cX1_init 1 none 2 20 D ct [.ref h0] [(h0, .inr (1, [.int 0, .long 0, .long 0, .long 0, .long 0]))] 0 0 (fun _ => True) (fun (_ : Unit) => [(h0, .inr (1, [.int 0, .long 0, .long 0, .long 0, .long 0]))]) := by
  intro sz
  refine K_of (Qf := fun A => va_Qv (fun _ => True) (PoC D A (fun (_ : Unit) => [(h0, .inr (1, [.int 0, .long 0, .long 0, .long 0, .long 0]))])) A) sz (by decide) (Nat.le_of_ble_eq_true rfl) (fun p e s m below meth c A C0 hA hS hP hD ls hl => ?_)
  obtain ⟨hx, hb, hr, hown, hin, hml, hlocks, hn, hK⟩ := C0
  have hl : lv_has ls 1 [(0, .ref h0)] := hl
  refine lv_aload_n hx hb dX1_init_0 rfl (lv_at hl 0 rfl) ?_
  refine W.objInit hx hb hown (hn.get mw_316 rfl) (hn.get mw_34 rfl) (hn.get mw_oi rfl) rfl (by rw [hml]; exact hl.1) rfl dX1_init_1 (Nat.le_of_ble_eq_true rfl) (Nat.le_of_ble_eq_true rfl) ?_
  refine W.eq (g2 := F0 m 4 ls []) rfl ?_
  exact end_v hx hb hr hlocks dX1_init_4 () trivial hP hD hS [0] rfl (by decide) rfl (Nat.le_of_ble_eq_true rfl) (Nat.le_of_ble_eq_true rfl)
end
section
set_option maxHeartbeats 4000000 in
set_option maxRecDepth 100000 in
theorem c_X3_init (l : Launch) (D : va_G) (ct : Nat → ClassId) (h0 : Nat) (p0 : Nat)  : KV (S := Nat → Nat) l yX3_init cX3_init 3 none 3 40 D ct [.ref h0, .ref p0] [(h0, .inr (3, [.null, .null, .null, .null, .null, .null, .null, .null, .null, .null, .null, .long 0, .null, .int 0]))] 22 81 (fun _ => True) (fun (u : Nat → Nat) => [(h0, .inr (3, [.ref (u 0), .ref (u 1), .ref (u 2), .ref (u 3), .ref (u 4), .ref (u 5), .ref (u 6), .ref (u 7), .ref (u 8), .ref (u 9), .ref (u 10), .long 0, .ref p0, .int (-1)]))]) := by
  intro sz
  refine K_of (Qf := fun A => va_Qv (fun _ => True) (PoC D A (fun (u : Nat → Nat) => [(h0, .inr (3, [.ref (u 0), .ref (u 1), .ref (u 2), .ref (u 3), .ref (u 4), .ref (u 5), .ref (u 6), .ref (u 7), .ref (u 8), .ref (u 9), .ref (u 10), .long 0, .ref p0, .int (-1)]))])) A) sz (by decide) (Nat.le_of_ble_eq_true rfl) (fun p e s m below meth c A C0 hA hS hP hD ls hl => ?_)
  obtain ⟨hx, hb, hr, hown, hin, hml, hlocks, hn, hK⟩ := C0
  have hl : lv_has ls 3 [(0, .ref h0), (1, .ref p0)] := hl
  refine lv_aload_n hx hb dX3_init_0 rfl (lv_at hl 0 rfl) ?_
  refine W.objInit hx hb hown (hn.get mw_309 rfl) (hn.get mw_34 rfl) (hn.get mw_oi rfl) rfl (by rw [hml]; exact hl.1) rfl dX3_init_1 (Nat.le_of_ble_eq_true rfl) (Nat.le_of_ble_eq_true rfl) ?_
  refine W.eq (g2 := F0 m 4 ls []) rfl ?_
  refine lv_aload_n hx hb dX3_init_4 rfl (lv_at hl 0 rfl) ?_
  refine lv_iconst (v := 0) hx hb dX3_init_5 (by decide) ?_
  refine na_new (atype := .byte) (k1 := 1) (n1 := 0) hx hb hn mw_54 rfl hK hP hD hS hA 0 rfl 0 (0, .inl (fun _ => 0)) (fun _ => rfl) (by decide) (by decide) (Nat.le_of_ble_eq_true rfl) (Nat.le_of_ble_eq_true rfl) (Nat.le_of_ble_eq_true rfl) (Nat.le_of_ble_eq_true rfl) (Nat.le_of_ble_eq_true rfl) dX3_init_6 (fun q_1 H hP hD hS => ?_)
  have hP : va_P D vwCl [(h0, .inr (3, [.null, .null, .null, .null, .null, .null, .null, .null, .null, .null, .null, .long 0, .null, .int 0])), (q_1, .inl (ct 0, 0, .inl (fun _ => 0)))] _ := hP
  have hD : va_D A [(h0, .inr (3, [.null, .null, .null, .null, .null, .null, .null, .null, .null, .null, .null, .long 0, .null, .int 0])), (q_1, .inl (ct 0, 0, .inl (fun _ => 0)))] := hD
  refine va_put (D := D) (ci := 3) (v := .ref q_1) (ty := .array .byte) (C := RX3) (T := TX3) (N := 14) hx hb (htX3 hn) (fun _ h => h) tyX3 tyX3_ok nmX3 hown hK hP hD hS 0 rfl rfl 0 (by decide) (hn.get mw_338 rfl) (fun _ h9 => h9) rfl (by decide +kernel) rfl rfl (Nat.le_of_ble_eq_true rfl) dX3_init_8 (fun H locs hP hD hS => ?_)
  have hP : va_P D vwCl [(h0, .inr (3, [.ref q_1, .null, .null, .null, .null, .null, .null, .null, .null, .null, .null, .long 0, .null, .int 0])), (q_1, .inl (ct 0, 0, .inl (fun _ => 0)))] _ := hP
  have hD : va_D A [(h0, .inr (3, [.ref q_1, .null, .null, .null, .null, .null, .null, .null, .null, .null, .null, .long 0, .null, .int 0])), (q_1, .inl (ct 0, 0, .inl (fun _ => 0)))] := hD
  have hP := hP.sub (ws' := [(h0, .inr (3, [.ref q_1, .null, .null, .null, .null, .null, .null, .null, .null, .null, .null, .long 0, .null, .int 0]))]) [0] rfl
  have hD := hD.sub (ws' := [(h0, .inr (3, [.ref q_1, .null, .null, .null, .null, .null, .null, .null, .null, .null, .null, .long 0, .null, .int 0]))]) [0] (by decide) rfl
  refine lv_aload_n hx hb dX3_init_11 rfl (lv_at hl 0 rfl) ?_
  refine lv_iconst (v := 0) hx hb dX3_init_12 (by decide) ?_
  refine na_new (atype := .long) (k1 := 2) (n1 := 0) hx hb hn mw_123 rfl hK hP hD hS hA 2 rfl 0 (0, .inr (.inl (fun _ => 0))) (fun _ => rfl) (by decide) (by decide) (Nat.le_of_ble_eq_true rfl) (Nat.le_of_ble_eq_true rfl) (Nat.le_of_ble_eq_true rfl) (Nat.le_of_ble_eq_true rfl) (Nat.le_of_ble_eq_true rfl) dX3_init_13 (fun q_2 H hP hD hS => ?_)
  have hP : va_P D vwCl [(h0, .inr (3, [.ref q_1, .null, .null, .null, .null, .null, .null, .null, .null, .null, .null, .long 0, .null, .int 0])), (q_2, .inl (ct 2, 0, .inr (.inl (fun _ => 0))))] _ := hP
  have hD : va_D A [(h0, .inr (3, [.ref q_1, .null, .null, .null, .null, .null, .null, .null, .null, .null, .null, .long 0, .null, .int 0])), (q_2, .inl (ct 2, 0, .inr (.inl (fun _ => 0))))] := hD
  refine va_put (D := D) (ci := 3) (v := .ref q_2) (ty := .array .long) (C := RX3) (T := TX3) (N := 14) hx hb (htX3 hn) (fun _ h => h) tyX3 tyX3_ok nmX3 hown hK hP hD hS 0 rfl rfl 1 (by decide) (hn.get mw_339 rfl) (fun _ h9 => h9) rfl (by decide +kernel) rfl rfl (Nat.le_of_ble_eq_true rfl) dX3_init_15 (fun H locs hP hD hS => ?_)
  have hP : va_P D vwCl [(h0, .inr (3, [.ref q_1, .ref q_2, .null, .null, .null, .null, .null, .null, .null, .null, .null, .long 0, .null, .int 0])), (q_2, .inl (ct 2, 0, .inr (.inl (fun _ => 0))))] _ := hP
  have hD : va_D A [(h0, .inr (3, [.ref q_1, .ref q_2, .null, .null, .null, .null, .null, .null, .null, .null, .null, .long 0, .null, .int 0])), (q_2, .inl (ct 2, 0, .inr (.inl (fun _ => 0))))] := hD
  have hP := hP.sub (ws' := [(h0, .inr (3, [.ref q_1, .ref q_2, .null, .null, .null, .null, .null, .null, .null, .null, .null, .long 0, .null, .int 0]))]) [0] rfl
  have hD := hD.sub (ws' := [(h0, .inr (3, [.ref q_1, .ref q_2, .null, .null, .null, .null, .null, .null, .null, .null, .null, .long 0, .null, .int 0]))]) [0] (by decide) rfl
  refine lv_aload_n hx hb dX3_init_18 rfl (lv_at hl 0 rfl) ?_
  refine lv_iconst (v := 0) hx hb dX3_init_19 (by decide) ?_
  refine na_new (atype := .long) (k1 := 3) (n1 := 0) hx hb hn mw_123 rfl hK hP hD hS hA 2 rfl 0 (0, .inr (.inl (fun _ => 0))) (fun _ => rfl) (by decide) (by decide) (Nat.le_of_ble_eq_true rfl) (Nat.le_of_ble_eq_true rfl) (Nat.le_of_ble_eq_true rfl) (Nat.le_of_ble_eq_true rfl) (Nat.le_of_ble_eq_true rfl) dX3_init_20 (fun q_3 H hP hD hS => ?_)
  have hP : va_P D vwCl [(h0, .inr (3, [.ref q_1, .ref q_2, .null, .null, .null, .null, .null, .null, .null, .null, .null, .long 0, .null, .int 0])), (q_3, .inl (ct 2, 0, .inr (.inl (fun _ => 0))))] _ := hP
  have hD : va_D A [(h0, .inr (3, [.ref q_1, .ref q_2, .null, .null, .null, .null, .null, .null, .null, .null, .null, .long 0, .null, .int 0])), (q_3, .inl (ct 2, 0, .inr (.inl (fun _ => 0))))] := hD
  refine va_put (D := D) (ci := 3) (v := .ref q_3) (ty := .array .long) (C := RX3) (T := TX3) (N := 14) hx hb (htX3 hn) (fun _ h => h) tyX3 tyX3_ok nmX3 hown hK hP hD hS 0 rfl rfl 2 (by decide) (hn.get mw_340 rfl) (fun _ h9 => h9) rfl (by decide +kernel) rfl rfl (Nat.le_of_ble_eq_true rfl) dX3_init_22 (fun H locs hP hD hS => ?_)
  have hP : va_P D vwCl [(h0, .inr (3, [.ref q_1, .ref q_2, .ref q_3, .null, .null, .null, .null, .null, .null, .null, .null, .long 0, .null, .int 0])), (q_3, .inl (ct 2, 0, .inr (.inl (fun _ => 0))))] _ := hP
  have hD : va_D A [(h0, .inr (3, [.ref q_1, .ref q_2, .ref q_3, .null, .null, .null, .null, .null, .null, .null, .null, .long 0, .null, .int 0])), (q_3, .inl (ct 2, 0, .inr (.inl (fun _ => 0))))] := hD
  have hP := hP.sub (ws' := [(h0, .inr (3, [.ref q_1, .ref q_2, .ref q_3, .null, .null, .null, .null, .null, .null, .null, .null, .long 0, .null, .int 0]))]) [0] rfl
  have hD := hD.sub (ws' := [(h0, .inr (3, [.ref q_1, .ref q_2, .ref q_3, .null, .null, .null, .null, .null, .null, .null, .null, .long 0, .null, .int 0]))]) [0] (by decide) rfl
  refine lv_aload_n hx hb dX3_init_25 rfl (lv_at hl 0 rfl) ?_
  refine lv_iconst (v := 0) hx hb dX3_init_26 (by decide) ?_
  refine na_new (atype := .long) (k1 := 4) (n1 := 0) hx hb hn mw_123 rfl hK hP hD hS hA 2 rfl 0 (0, .inr (.inl (fun _ => 0))) (fun _ => rfl) (by decide) (by decide) (Nat.le_of_ble_eq_true rfl) (Nat.le_of_ble_eq_true rfl) (Nat.le_of_ble_eq_true rfl) (Nat.le_of_ble_eq_true rfl) (Nat.le_of_ble_eq_true rfl) dX3_init_27 (fun q_4 H hP hD hS => ?_)
  have hP : va_P D vwCl [(h0, .inr (3, [.ref q_1, .ref q_2, .ref q_3, .null, .null, .null, .null, .null, .null, .null, .null, .long 0, .null, .int 0])), (q_4, .inl (ct 2, 0, .inr (.inl (fun _ => 0))))] _ := hP
  have hD : va_D A [(h0, .inr (3, [.ref q_1, .ref q_2, .ref q_3, .null, .null, .null, .null, .null, .null, .null, .null, .long 0, .null, .int 0])), (q_4, .inl (ct 2, 0, .inr (.inl (fun _ => 0))))] := hD
  refine va_put (D := D) (ci := 3) (v := .ref q_4) (ty := .array .long) (C := RX3) (T := TX3) (N := 14) hx hb (htX3 hn) (fun _ h => h) tyX3 tyX3_ok nmX3 hown hK hP hD hS 0 rfl rfl 3 (by decide) (hn.get mw_341 rfl) (fun _ h9 => h9) rfl (by decide +kernel) rfl rfl (Nat.le_of_ble_eq_true rfl) dX3_init_29 (fun H locs hP hD hS => ?_)
  have hP : va_P D vwCl [(h0, .inr (3, [.ref q_1, .ref q_2, .ref q_3, .ref q_4, .null, .null, .null, .null, .null, .null, .null, .long 0, .null, .int 0])), (q_4, .inl (ct 2, 0, .inr (.inl (fun _ => 0))))] _ := hP
  have hD : va_D A [(h0, .inr (3, [.ref q_1, .ref q_2, .ref q_3, .ref q_4, .null, .null, .null, .null, .null, .null, .null, .long 0, .null, .int 0])), (q_4, .inl (ct 2, 0, .inr (.inl (fun _ => 0))))] := hD
  have hP := hP.sub (ws' := [(h0, .inr (3, [.ref q_1, .ref q_2, .ref q_3, .ref q_4, .null, .null, .null, .null, .null, .null, .null, .long 0, .null, .int 0]))]) [0] rfl
  have hD := hD.sub (ws' := [(h0, .inr (3, [.ref q_1, .ref q_2, .ref q_3, .ref q_4, .null, .null, .null, .null, .null, .null, .null, .long 0, .null, .int 0]))]) [0] (by decide) rfl
  refine lv_aload_n hx hb dX3_init_32 rfl (lv_at hl 0 rfl) ?_
  refine lv_iconst (v := 0) hx hb dX3_init_33 (by decide) ?_
  refine na_new (atype := .long) (k1 := 5) (n1 := 0) hx hb hn mw_123 rfl hK hP hD hS hA 2 rfl 0 (0, .inr (.inl (fun _ => 0))) (fun _ => rfl) (by decide) (by decide) (Nat.le_of_ble_eq_true rfl) (Nat.le_of_ble_eq_true rfl) (Nat.le_of_ble_eq_true rfl) (Nat.le_of_ble_eq_true rfl) (Nat.le_of_ble_eq_true rfl) dX3_init_34 (fun q_5 H hP hD hS => ?_)
  have hP : va_P D vwCl [(h0, .inr (3, [.ref q_1, .ref q_2, .ref q_3, .ref q_4, .null, .null, .null, .null, .null, .null, .null, .long 0, .null, .int 0])), (q_5, .inl (ct 2, 0, .inr (.inl (fun _ => 0))))] _ := hP
  have hD : va_D A [(h0, .inr (3, [.ref q_1, .ref q_2, .ref q_3, .ref q_4, .null, .null, .null, .null, .null, .null, .null, .long 0, .null, .int 0])), (q_5, .inl (ct 2, 0, .inr (.inl (fun _ => 0))))] := hD
  refine va_put (D := D) (ci := 3) (v := .ref q_5) (ty := .array .long) (C := RX3) (T := TX3) (N := 14) hx hb (htX3 hn) (fun _ h => h) tyX3 tyX3_ok nmX3 hown hK hP hD hS 0 rfl rfl 4 (by decide) (hn.get mw_342 rfl) (fun _ h9 => h9) rfl (by decide +kernel) rfl rfl (Nat.le_of_ble_eq_true rfl) dX3_init_36 (fun H locs hP hD hS => ?_)
  have hP : va_P D vwCl [(h0, .inr (3, [.ref q_1, .ref q_2, .ref q_3, .ref q_4, .ref q_5, .null, .null, .null, .null, .null, .null, .long 0, .null, .int 0])), (q_5, .inl (ct 2, 0, .inr (.inl (fun _ => 0))))] _ := hP
  have hD : va_D A [(h0, .inr (3, [.ref q_1, .ref q_2, .ref q_3, .ref q_4, .ref q_5, .null, .null, .null, .null, .null, .null, .long 0, .null, .int 0])), (q_5, .inl (ct 2, 0, .inr (.inl (fun _ => 0))))] := hD
  have hP := hP.sub (ws' := [(h0, .inr (3, [.ref q_1, .ref q_2, .ref q_3, .ref q_4, .ref q_5, .null, .null, .null, .null, .null, .null, .long 0, .null, .int 0]))]) [0] rfl
  have hD := hD.sub (ws' := [(h0, .inr (3, [.ref q_1, .ref q_2, .ref q_3, .ref q_4, .ref q_5, .null, .null, .null, .null, .null, .null, .long 0, .null, .int 0]))]) [0] (by decide) rfl
  refine lv_aload_n hx hb dX3_init_39 rfl (lv_at hl 0 rfl) ?_
  refine lv_iconst (v := 0) hx hb dX3_init_40 (by decide) ?_
  refine na_new (atype := .long) (k1 := 6) (n1 := 0) hx hb hn mw_123 rfl hK hP hD hS hA 2 rfl 0 (0, .inr (.inl (fun _ => 0))) (fun _ => rfl) (by decide) (by decide) (Nat.le_of_ble_eq_true rfl) (Nat.le_of_ble_eq_true rfl) (Nat.le_of_ble_eq_true rfl) (Nat.le_of_ble_eq_true rfl) (Nat.le_of_ble_eq_true rfl) dX3_init_41 (fun q_6 H hP hD hS => ?_)
  have hP : va_P D vwCl [(h0, .inr (3, [.ref q_1, .ref q_2, .ref q_3, .ref q_4, .ref q_5, .null, .null, .null, .null, .null, .null, .long 0, .null, .int 0])), (q_6, .inl (ct 2, 0, .inr (.inl (fun _ => 0))))] _ := hP
  have hD : va_D A [(h0, .inr (3, [.ref q_1, .ref q_2, .ref q_3, .ref q_4, .ref q_5, .null, .null, .null, .null, .null, .null, .long 0, .null, .int 0])), (q_6, .inl (ct 2, 0, .inr (.inl (fun _ => 0))))] := hD
  refine va_put (D := D) (ci := 3) (v := .ref q_6) (ty := .array .long) (C := RX3) (T := TX3) (N := 14) hx hb (htX3 hn) (fun _ h => h) tyX3 tyX3_ok nmX3 hown hK hP hD hS 0 rfl rfl 5 (by decide) (hn.get mw_343 rfl) (fun _ h9 => h9) rfl (by decide +kernel) rfl rfl (Nat.le_of_ble_eq_true rfl) dX3_init_43 (fun H locs hP hD hS => ?_)
  have hP : va_P D vwCl [(h0, .inr (3, [.ref q_1, .ref q_2, .ref q_3, .ref q_4, .ref q_5, .ref q_6, .null, .null, .null, .null, .null, .long 0, .null, .int 0])), (q_6, .inl (ct 2, 0, .inr (.inl (fun _ => 0))))] _ := hP
  have hD : va_D A [(h0, .inr (3, [.ref q_1, .ref q_2, .ref q_3, .ref q_4, .ref q_5, .ref q_6, .null, .null, .null, .null, .null, .long 0, .null, .int 0])), (q_6, .inl (ct 2, 0, .inr (.inl (fun _ => 0))))] := hD
  have hP := hP.sub (ws' := [(h0, .inr (3, [.ref q_1, .ref q_2, .ref q_3, .ref q_4, .ref q_5, .ref q_6, .null, .null, .null, .null, .null, .long 0, .null, .int 0]))]) [0] rfl
  have hD := hD.sub (ws' := [(h0, .inr (3, [.ref q_1, .ref q_2, .ref q_3, .ref q_4, .ref q_5, .ref q_6, .null, .null, .null, .null, .null, .long 0, .null, .int 0]))]) [0] (by decide) rfl
  refine lv_aload_n hx hb dX3_init_46 rfl (lv_at hl 0 rfl) ?_
  refine lv_iconst (v := 0) hx hb dX3_init_47 (by decide) ?_
  refine na_new (atype := .boolean) (k1 := 7) (n1 := 0) hx hb hn mw_216 rfl hK hP hD hS hA 3 rfl 0 (0, .inl (fun _ => 0)) (fun _ => rfl) (by decide) (by decide) (Nat.le_of_ble_eq_true rfl) (Nat.le_of_ble_eq_true rfl) (Nat.le_of_ble_eq_true rfl) (Nat.le_of_ble_eq_true rfl) (Nat.le_of_ble_eq_true rfl) dX3_init_48 (fun q_7 H hP hD hS => ?_)
  have hP : va_P D vwCl [(h0, .inr (3, [.ref q_1, .ref q_2, .ref q_3, .ref q_4, .ref q_5, .ref q_6, .null, .null, .null, .null, .null, .long 0, .null, .int 0])), (q_7, .inl (ct 3, 0, .inl (fun _ => 0)))] _ := hP
  have hD : va_D A [(h0, .inr (3, [.ref q_1, .ref q_2, .ref q_3, .ref q_4, .ref q_5, .ref q_6, .null, .null, .null, .null, .null, .long 0, .null, .int 0])), (q_7, .inl (ct 3, 0, .inl (fun _ => 0)))] := hD
  refine va_put (D := D) (ci := 3) (v := .ref q_7) (ty := .array .boolean) (C := RX3) (T := TX3) (N := 14) hx hb (htX3 hn) (fun _ h => h) tyX3 tyX3_ok nmX3 hown hK hP hD hS 0 rfl rfl 6 (by decide) (hn.get mw_344 rfl) (fun _ h9 => h9) rfl (by decide +kernel) rfl rfl (Nat.le_of_ble_eq_true rfl) dX3_init_50 (fun H locs hP hD hS => ?_)
  have hP : va_P D vwCl [(h0, .inr (3, [.ref q_1, .ref q_2, .ref q_3, .ref q_4, .ref q_5, .ref q_6, .ref q_7, .null, .null, .null, .null, .long 0, .null, .int 0])), (q_7, .inl (ct 3, 0, .inl (fun _ => 0)))] _ := hP
  have hD : va_D A [(h0, .inr (3, [.ref q_1, .ref q_2, .ref q_3, .ref q_4, .ref q_5, .ref q_6, .ref q_7, .null, .null, .null, .null, .long 0, .null, .int 0])), (q_7, .inl (ct 3, 0, .inl (fun _ => 0)))] := hD
  have hP := hP.sub (ws' := [(h0, .inr (3, [.ref q_1, .ref q_2, .ref q_3, .ref q_4, .ref q_5, .ref q_6, .ref q_7, .null, .null, .null, .null, .long 0, .null, .int 0]))]) [0] rfl
  have hD := hD.sub (ws' := [(h0, .inr (3, [.ref q_1, .ref q_2, .ref q_3, .ref q_4, .ref q_5, .ref q_6, .ref q_7, .null, .null, .null, .null, .long 0, .null, .int 0]))]) [0] (by decide) rfl
  refine lv_aload_n hx hb dX3_init_53 rfl (lv_at hl 0 rfl) ?_
  refine lv_bipush (v := 11) hx hb dX3_init_54 (by decide) ?_
  refine na_newq (k1 := 8) (n1 := 11) hx hb hn hown mw_310 hn.2.2.1 hK hP hD hS hA 4 rfl 11 (by decide) (by decide) (Nat.le_of_ble_eq_true rfl) (Nat.le_of_ble_eq_true rfl) (Nat.le_of_ble_eq_true rfl) (Nat.le_of_ble_eq_true rfl) (Nat.le_of_ble_eq_true rfl) dX3_init_56 (fun q_8 H hP hD hS => ?_)
  have hP : va_P D vwCl [(h0, .inr (3, [.ref q_1, .ref q_2, .ref q_3, .ref q_4, .ref q_5, .ref q_6, .ref q_7, .null, .null, .null, .null, .long 0, .null, .int 0])), (q_8, .inl (ct 4, 11, .inr (.inr (.inr (.inr (fun _ => none))))))] _ := hP
  have hD : va_D A [(h0, .inr (3, [.ref q_1, .ref q_2, .ref q_3, .ref q_4, .ref q_5, .ref q_6, .ref q_7, .null, .null, .null, .null, .long 0, .null, .int 0])), (q_8, .inl (ct 4, 11, .inr (.inr (.inr (.inr (fun _ => none))))))] := hD
  refine va_putF (D := D) (ci := 3) (v := .ref q_8) (ty := .array (.object "FilterForge$Fact")) (C := RX3) (T := TX3) (N := 14) hx hb (htX3 hn) (fun _ h => h) tyX3 tyX3_ok nmX3 hown hK hP hD hS 0 rfl rfl 7 (by decide) (hn.get mw_345 rfl) (fun _ h9 => h9) rfl hin rfl (by decide +kernel) rfl rfl (Nat.le_of_ble_eq_true rfl) dX3_init_59 (fun H locs hP hD hS => ?_)
  have hP : va_P D vwCl [(h0, .inr (3, [.ref q_1, .ref q_2, .ref q_3, .ref q_4, .ref q_5, .ref q_6, .ref q_7, .ref q_8, .null, .null, .null, .long 0, .null, .int 0])), (q_8, .inl (ct 4, 11, .inr (.inr (.inr (.inr (fun _ => none))))))] _ := hP
  have hD : va_D A [(h0, .inr (3, [.ref q_1, .ref q_2, .ref q_3, .ref q_4, .ref q_5, .ref q_6, .ref q_7, .ref q_8, .null, .null, .null, .long 0, .null, .int 0])), (q_8, .inl (ct 4, 11, .inr (.inr (.inr (.inr (fun _ => none))))))] := hD
  refine lv_aload_n hx hb dX3_init_62 rfl (lv_at hl 0 rfl) ?_
  refine W.widen (k := 8) (n := 11) (Nat.le_of_ble_eq_true rfl) (Nat.le_of_ble_eq_true rfl) ?_
  refine va_new (ci := 1) (fs := [.int 0, .long 0, .long 0, .long 0, .long 0]) (C := RX1) (T := TX1) (N := 5) hx hb (htX1 hn) (fun _ h => h) tyX1 tyX1_ok hown (hn.get mw_310 rfl) (hn.get mw_312 rfl) (hn.get mw_12 rfl) hK hP hD hS hA rfl (dfX1) (Nat.le_of_ble_eq_true rfl) (Nat.le_of_ble_eq_true rfl) dX3_init_63 (fun q_9 H hP hD hS => ?_)
  refine W.widen (k := 9) (n := 16) (Nat.le_of_ble_eq_true rfl) (Nat.le_of_ble_eq_true rfl) ?_
  have hP : va_P D vwCl [(h0, .inr (3, [.ref q_1, .ref q_2, .ref q_3, .ref q_4, .ref q_5, .ref q_6, .ref q_7, .ref q_8, .null, .null, .null, .long 0, .null, .int 0])), (q_8, .inl (ct 4, 11, .inr (.inr (.inr (.inr (fun _ => none)))))), (q_9, .inr (1, [.int 0, .long 0, .long 0, .long 0, .long 0]))] _ := hP
  have hD : va_D A [(h0, .inr (3, [.ref q_1, .ref q_2, .ref q_3, .ref q_4, .ref q_5, .ref q_6, .ref q_7, .ref q_8, .null, .null, .null, .long 0, .null, .int 0])), (q_8, .inl (ct 4, 11, .inr (.inr (.inr (.inr (fun _ => none)))))), (q_9, .inr (1, [.int 0, .long 0, .long 0, .long 0, .long 0]))] := hD
  refine lv_dup hx hb dX3_init_66 rfl ?_
  have hPc := hP.sub (ws' := [(q_9, .inr (1, [.int 0, .long 0, .long 0, .long 0, .long 0]))]) [2] rfl
  have hDc := hD.sub (ws' := [(q_9, .inr (1, [.int 0, .long 0, .long 0, .long 0, .long 0]))]) [2] (by decide) rfl
  refine go_v (k1 := 9) (n1 := 16) (wr := [(h0, .inr (3, [.ref q_1, .ref q_2, .ref q_3, .ref q_4, .ref q_5, .ref q_6, .ref q_7, .ref q_8, .null, .null, .null, .long 0, .null, .int 0])), (q_8, .inl (ct 4, 11, .inr (.inr (.inr (.inr (fun _ => none))))))]) [2] [0, 1] (rn_IN (As := []) (rest := [.ref q_9, .ref h0]) (c_X1_init l D ct q_9  _) (cn_of (n := 0) hn mw_315 mw_12 mw_313 mhX1_init ⟨Nat.le_of_ble_eq_true rfl, Nat.le_of_ble_eq_true rfl⟩) hx hb hml hown hn hK hPc hDc mw_314 rfl rfl hl.1 (Nat.le_of_ble_eq_true rfl) dX3_init_67 ⟨(Nat.le_of_ble_eq_true rfl), (Nat.le_of_ble_eq_true rfl)⟩) hP hD hS hA rfl rfl (by decide) (by decide) (Nat.le_of_ble_eq_true rfl) (Nat.le_of_ble_eq_true rfl) (fun u_11 H locs hp_12 hP hD hS => ?_)
  have hP : va_P D vwCl [(h0, .inr (3, [.ref q_1, .ref q_2, .ref q_3, .ref q_4, .ref q_5, .ref q_6, .ref q_7, .ref q_8, .null, .null, .null, .long 0, .null, .int 0])), (q_8, .inl (ct 4, 11, .inr (.inr (.inr (.inr (fun _ => none)))))), (q_9, .inr (1, [.int 0, .long 0, .long 0, .long 0, .long 0]))] _ := hP
  have hD : va_D A [(h0, .inr (3, [.ref q_1, .ref q_2, .ref q_3, .ref q_4, .ref q_5, .ref q_6, .ref q_7, .ref q_8, .null, .null, .null, .long 0, .null, .int 0])), (q_8, .inl (ct 4, 11, .inr (.inr (.inr (.inr (fun _ => none)))))), (q_9, .inr (1, [.int 0, .long 0, .long 0, .long 0, .long 0]))] := hD
  refine va_putF (D := D) (ci := 3) (v := .ref q_9) (ty := .object "FilterForge$Fact") (C := RX3) (T := TX3) (N := 14) hx hb (htX3 hn) (fun _ h => h) tyX3 tyX3_ok nmX3 hown hK hP hD hS 0 rfl rfl 8 (by decide) (hn.get mw_346 rfl) (fun _ h9 => h9) rfl hin rfl (by decide +kernel) rfl rfl (Nat.le_of_ble_eq_true rfl) dX3_init_70 (fun H locs hP hD hS => ?_)
  have hP : va_P D vwCl [(h0, .inr (3, [.ref q_1, .ref q_2, .ref q_3, .ref q_4, .ref q_5, .ref q_6, .ref q_7, .ref q_8, .ref q_9, .null, .null, .long 0, .null, .int 0])), (q_8, .inl (ct 4, 11, .inr (.inr (.inr (.inr (fun _ => none)))))), (q_9, .inr (1, [.int 0, .long 0, .long 0, .long 0, .long 0]))] _ := hP
  have hD : va_D A [(h0, .inr (3, [.ref q_1, .ref q_2, .ref q_3, .ref q_4, .ref q_5, .ref q_6, .ref q_7, .ref q_8, .ref q_9, .null, .null, .long 0, .null, .int 0])), (q_8, .inl (ct 4, 11, .inr (.inr (.inr (.inr (fun _ => none)))))), (q_9, .inr (1, [.int 0, .long 0, .long 0, .long 0, .long 0]))] := hD
  have hP := hP.sub (ws' := [(h0, .inr (3, [.ref q_1, .ref q_2, .ref q_3, .ref q_4, .ref q_5, .ref q_6, .ref q_7, .ref q_8, .ref q_9, .null, .null, .long 0, .null, .int 0])), (q_8, .inl (ct 4, 11, .inr (.inr (.inr (.inr (fun _ => none))))))]) [0, 1] rfl
  have hD := hD.sub (ws' := [(h0, .inr (3, [.ref q_1, .ref q_2, .ref q_3, .ref q_4, .ref q_5, .ref q_6, .ref q_7, .ref q_8, .ref q_9, .null, .null, .long 0, .null, .int 0])), (q_8, .inl (ct 4, 11, .inr (.inr (.inr (.inr (fun _ => none))))))]) [0, 1] (by decide) rfl
  refine lv_aload_n hx hb dX3_init_73 rfl (lv_at hl 0 rfl) ?_
  refine W.widen (k := 9) (n := 16) (Nat.le_of_ble_eq_true rfl) (Nat.le_of_ble_eq_true rfl) ?_
  refine va_new (ci := 1) (fs := [.int 0, .long 0, .long 0, .long 0, .long 0]) (C := RX1) (T := TX1) (N := 5) hx hb (htX1 hn) (fun _ h => h) tyX1 tyX1_ok hown (hn.get mw_310 rfl) (hn.get mw_312 rfl) (hn.get mw_12 rfl) hK hP hD hS hA rfl (dfX1) (Nat.le_of_ble_eq_true rfl) (Nat.le_of_ble_eq_true rfl) dX3_init_74 (fun q_13 H hP hD hS => ?_)
  refine W.widen (k := 10) (n := 21) (Nat.le_of_ble_eq_true rfl) (Nat.le_of_ble_eq_true rfl) ?_
  have hP : va_P D vwCl [(h0, .inr (3, [.ref q_1, .ref q_2, .ref q_3, .ref q_4, .ref q_5, .ref q_6, .ref q_7, .ref q_8, .ref q_9, .null, .null, .long 0, .null, .int 0])), (q_8, .inl (ct 4, 11, .inr (.inr (.inr (.inr (fun _ => none)))))), (q_13, .inr (1, [.int 0, .long 0, .long 0, .long 0, .long 0]))] _ := hP
  have hD : va_D A [(h0, .inr (3, [.ref q_1, .ref q_2, .ref q_3, .ref q_4, .ref q_5, .ref q_6, .ref q_7, .ref q_8, .ref q_9, .null, .null, .long 0, .null, .int 0])), (q_8, .inl (ct 4, 11, .inr (.inr (.inr (.inr (fun _ => none)))))), (q_13, .inr (1, [.int 0, .long 0, .long 0, .long 0, .long 0]))] := hD
  refine lv_dup hx hb dX3_init_77 rfl ?_
  have hPc := hP.sub (ws' := [(q_13, .inr (1, [.int 0, .long 0, .long 0, .long 0, .long 0]))]) [2] rfl
  have hDc := hD.sub (ws' := [(q_13, .inr (1, [.int 0, .long 0, .long 0, .long 0, .long 0]))]) [2] (by decide) rfl
  refine go_v (k1 := 10) (n1 := 21) (wr := [(h0, .inr (3, [.ref q_1, .ref q_2, .ref q_3, .ref q_4, .ref q_5, .ref q_6, .ref q_7, .ref q_8, .ref q_9, .null, .null, .long 0, .null, .int 0])), (q_8, .inl (ct 4, 11, .inr (.inr (.inr (.inr (fun _ => none))))))]) [2] [0, 1] (rn_IN (As := []) (rest := [.ref q_13, .ref h0]) (c_X1_init l D ct q_13  _) (cn_of (n := 0) hn mw_315 mw_12 mw_313 mhX1_init ⟨Nat.le_of_ble_eq_true rfl, Nat.le_of_ble_eq_true rfl⟩) hx hb hml hown hn hK hPc hDc mw_314 rfl rfl hl.1 (Nat.le_of_ble_eq_true rfl) dX3_init_78 ⟨(Nat.le_of_ble_eq_true rfl), (Nat.le_of_ble_eq_true rfl)⟩) hP hD hS hA rfl rfl (by decide) (by decide) (Nat.le_of_ble_eq_true rfl) (Nat.le_of_ble_eq_true rfl) (fun u_15 H locs hp_16 hP hD hS => ?_)
  have hP : va_P D vwCl [(h0, .inr (3, [.ref q_1, .ref q_2, .ref q_3, .ref q_4, .ref q_5, .ref q_6, .ref q_7, .ref q_8, .ref q_9, .null, .null, .long 0, .null, .int 0])), (q_8, .inl (ct 4, 11, .inr (.inr (.inr (.inr (fun _ => none)))))), (q_13, .inr (1, [.int 0, .long 0, .long 0, .long 0, .long 0]))] _ := hP
  have hD : va_D A [(h0, .inr (3, [.ref q_1, .ref q_2, .ref q_3, .ref q_4, .ref q_5, .ref q_6, .ref q_7, .ref q_8, .ref q_9, .null, .null, .long 0, .null, .int 0])), (q_8, .inl (ct 4, 11, .inr (.inr (.inr (.inr (fun _ => none)))))), (q_13, .inr (1, [.int 0, .long 0, .long 0, .long 0, .long 0]))] := hD
  refine va_putF (D := D) (ci := 3) (v := .ref q_13) (ty := .object "FilterForge$Fact") (C := RX3) (T := TX3) (N := 14) hx hb (htX3 hn) (fun _ h => h) tyX3 tyX3_ok nmX3 hown hK hP hD hS 0 rfl rfl 9 (by decide) (hn.get mw_347 rfl) (fun _ h9 => h9) rfl hin rfl (by decide +kernel) rfl rfl (Nat.le_of_ble_eq_true rfl) dX3_init_81 (fun H locs hP hD hS => ?_)
  have hP : va_P D vwCl [(h0, .inr (3, [.ref q_1, .ref q_2, .ref q_3, .ref q_4, .ref q_5, .ref q_6, .ref q_7, .ref q_8, .ref q_9, .ref q_13, .null, .long 0, .null, .int 0])), (q_8, .inl (ct 4, 11, .inr (.inr (.inr (.inr (fun _ => none)))))), (q_13, .inr (1, [.int 0, .long 0, .long 0, .long 0, .long 0]))] _ := hP
  have hD : va_D A [(h0, .inr (3, [.ref q_1, .ref q_2, .ref q_3, .ref q_4, .ref q_5, .ref q_6, .ref q_7, .ref q_8, .ref q_9, .ref q_13, .null, .long 0, .null, .int 0])), (q_8, .inl (ct 4, 11, .inr (.inr (.inr (.inr (fun _ => none)))))), (q_13, .inr (1, [.int 0, .long 0, .long 0, .long 0, .long 0]))] := hD
  have hP := hP.sub (ws' := [(h0, .inr (3, [.ref q_1, .ref q_2, .ref q_3, .ref q_4, .ref q_5, .ref q_6, .ref q_7, .ref q_8, .ref q_9, .ref q_13, .null, .long 0, .null, .int 0])), (q_8, .inl (ct 4, 11, .inr (.inr (.inr (.inr (fun _ => none))))))]) [0, 1] rfl
  have hD := hD.sub (ws' := [(h0, .inr (3, [.ref q_1, .ref q_2, .ref q_3, .ref q_4, .ref q_5, .ref q_6, .ref q_7, .ref q_8, .ref q_9, .ref q_13, .null, .long 0, .null, .int 0])), (q_8, .inl (ct 4, 11, .inr (.inr (.inr (.inr (fun _ => none))))))]) [0, 1] (by decide) rfl
  refine lv_aload_n hx hb dX3_init_84 rfl (lv_at hl 0 rfl) ?_
  refine W.widen (k := 10) (n := 21) (Nat.le_of_ble_eq_true rfl) (Nat.le_of_ble_eq_true rfl) ?_
  refine va_new (ci := 1) (fs := [.int 0, .long 0, .long 0, .long 0, .long 0]) (C := RX1) (T := TX1) (N := 5) hx hb (htX1 hn) (fun _ h => h) tyX1 tyX1_ok hown (hn.get mw_310 rfl) (hn.get mw_312 rfl) (hn.get mw_12 rfl) hK hP hD hS hA rfl (dfX1) (Nat.le_of_ble_eq_true rfl) (Nat.le_of_ble_eq_true rfl) dX3_init_85 (fun q_17 H hP hD hS => ?_)
  refine W.widen (k := 11) (n := 26) (Nat.le_of_ble_eq_true rfl) (Nat.le_of_ble_eq_true rfl) ?_
  have hP : va_P D vwCl [(h0, .inr (3, [.ref q_1, .ref q_2, .ref q_3, .ref q_4, .ref q_5, .ref q_6, .ref q_7, .ref q_8, .ref q_9, .ref q_13, .null, .long 0, .null, .int 0])), (q_8, .inl (ct 4, 11, .inr (.inr (.inr (.inr (fun _ => none)))))), (q_17, .inr (1, [.int 0, .long 0, .long 0, .long 0, .long 0]))] _ := hP
  have hD : va_D A [(h0, .inr (3, [.ref q_1, .ref q_2, .ref q_3, .ref q_4, .ref q_5, .ref q_6, .ref q_7, .ref q_8, .ref q_9, .ref q_13, .null, .long 0, .null, .int 0])), (q_8, .inl (ct 4, 11, .inr (.inr (.inr (.inr (fun _ => none)))))), (q_17, .inr (1, [.int 0, .long 0, .long 0, .long 0, .long 0]))] := hD
  refine lv_dup hx hb dX3_init_88 rfl ?_
  have hPc := hP.sub (ws' := [(q_17, .inr (1, [.int 0, .long 0, .long 0, .long 0, .long 0]))]) [2] rfl
  have hDc := hD.sub (ws' := [(q_17, .inr (1, [.int 0, .long 0, .long 0, .long 0, .long 0]))]) [2] (by decide) rfl
  refine go_v (k1 := 11) (n1 := 26) (wr := [(h0, .inr (3, [.ref q_1, .ref q_2, .ref q_3, .ref q_4, .ref q_5, .ref q_6, .ref q_7, .ref q_8, .ref q_9, .ref q_13, .null, .long 0, .null, .int 0])), (q_8, .inl (ct 4, 11, .inr (.inr (.inr (.inr (fun _ => none))))))]) [2] [0, 1] (rn_IN (As := []) (rest := [.ref q_17, .ref h0]) (c_X1_init l D ct q_17  _) (cn_of (n := 0) hn mw_315 mw_12 mw_313 mhX1_init ⟨Nat.le_of_ble_eq_true rfl, Nat.le_of_ble_eq_true rfl⟩) hx hb hml hown hn hK hPc hDc mw_314 rfl rfl hl.1 (Nat.le_of_ble_eq_true rfl) dX3_init_89 ⟨(Nat.le_of_ble_eq_true rfl), (Nat.le_of_ble_eq_true rfl)⟩) hP hD hS hA rfl rfl (by decide) (by decide) (Nat.le_of_ble_eq_true rfl) (Nat.le_of_ble_eq_true rfl) (fun u_19 H locs hp_20 hP hD hS => ?_)
  have hP : va_P D vwCl [(h0, .inr (3, [.ref q_1, .ref q_2, .ref q_3, .ref q_4, .ref q_5, .ref q_6, .ref q_7, .ref q_8, .ref q_9, .ref q_13, .null, .long 0, .null, .int 0])), (q_8, .inl (ct 4, 11, .inr (.inr (.inr (.inr (fun _ => none)))))), (q_17, .inr (1, [.int 0, .long 0, .long 0, .long 0, .long 0]))] _ := hP
  have hD : va_D A [(h0, .inr (3, [.ref q_1, .ref q_2, .ref q_3, .ref q_4, .ref q_5, .ref q_6, .ref q_7, .ref q_8, .ref q_9, .ref q_13, .null, .long 0, .null, .int 0])), (q_8, .inl (ct 4, 11, .inr (.inr (.inr (.inr (fun _ => none)))))), (q_17, .inr (1, [.int 0, .long 0, .long 0, .long 0, .long 0]))] := hD
  refine va_putF (D := D) (ci := 3) (v := .ref q_17) (ty := .object "FilterForge$Fact") (C := RX3) (T := TX3) (N := 14) hx hb (htX3 hn) (fun _ h => h) tyX3 tyX3_ok nmX3 hown hK hP hD hS 0 rfl rfl 10 (by decide) (hn.get mw_348 rfl) (fun _ h9 => h9) rfl hin rfl (by decide +kernel) rfl rfl (Nat.le_of_ble_eq_true rfl) dX3_init_92 (fun H locs hP hD hS => ?_)
  have hP : va_P D vwCl [(h0, .inr (3, [.ref q_1, .ref q_2, .ref q_3, .ref q_4, .ref q_5, .ref q_6, .ref q_7, .ref q_8, .ref q_9, .ref q_13, .ref q_17, .long 0, .null, .int 0])), (q_8, .inl (ct 4, 11, .inr (.inr (.inr (.inr (fun _ => none)))))), (q_17, .inr (1, [.int 0, .long 0, .long 0, .long 0, .long 0]))] _ := hP
  have hD : va_D A [(h0, .inr (3, [.ref q_1, .ref q_2, .ref q_3, .ref q_4, .ref q_5, .ref q_6, .ref q_7, .ref q_8, .ref q_9, .ref q_13, .ref q_17, .long 0, .null, .int 0])), (q_8, .inl (ct 4, 11, .inr (.inr (.inr (.inr (fun _ => none)))))), (q_17, .inr (1, [.int 0, .long 0, .long 0, .long 0, .long 0]))] := hD
  have hP := hP.sub (ws' := [(h0, .inr (3, [.ref q_1, .ref q_2, .ref q_3, .ref q_4, .ref q_5, .ref q_6, .ref q_7, .ref q_8, .ref q_9, .ref q_13, .ref q_17, .long 0, .null, .int 0])), (q_8, .inl (ct 4, 11, .inr (.inr (.inr (.inr (fun _ => none))))))]) [0, 1] rfl
  have hD := hD.sub (ws' := [(h0, .inr (3, [.ref q_1, .ref q_2, .ref q_3, .ref q_4, .ref q_5, .ref q_6, .ref q_7, .ref q_8, .ref q_9, .ref q_13, .ref q_17, .long 0, .null, .int 0])), (q_8, .inl (ct 4, 11, .inr (.inr (.inr (.inr (fun _ => none))))))]) [0, 1] (by decide) rfl
  refine lv_aload_n hx hb dX3_init_95 rfl (lv_at hl 0 rfl) ?_
  refine lv_iconst (v := (-1)) hx hb dX3_init_96 (by decide) ?_
  refine va_put (D := D) (ci := 3) (v := .int (-1)) (ty := .int) (C := RX3) (T := TX3) (N := 14) hx hb (htX3 hn) (fun _ h => h) tyX3 tyX3_ok nmX3 hown hK hP hD hS 0 rfl rfl 13 (by decide) (hn.get mw_351 rfl) (fun _ h9 => h9) rfl (by decide +kernel) rfl rfl (Nat.le_of_ble_eq_true rfl) dX3_init_97 (fun H locs hP hD hS => ?_)
  have hP : va_P D vwCl [(h0, .inr (3, [.ref q_1, .ref q_2, .ref q_3, .ref q_4, .ref q_5, .ref q_6, .ref q_7, .ref q_8, .ref q_9, .ref q_13, .ref q_17, .long 0, .null, .int (-1)])), (q_8, .inl (ct 4, 11, .inr (.inr (.inr (.inr (fun _ => none))))))] _ := hP
  have hD : va_D A [(h0, .inr (3, [.ref q_1, .ref q_2, .ref q_3, .ref q_4, .ref q_5, .ref q_6, .ref q_7, .ref q_8, .ref q_9, .ref q_13, .ref q_17, .long 0, .null, .int (-1)])), (q_8, .inl (ct 4, 11, .inr (.inr (.inr (.inr (fun _ => none))))))] := hD
  refine lv_aload_n hx hb dX3_init_100 rfl (lv_at hl 0 rfl) ?_
  refine lv_aload_n hx hb dX3_init_101 rfl (lv_at hl 1 rfl) ?_
  refine va_put (D := D) (ci := 3) (v := .ref p0) (ty := .object "FilterForge$Program") (C := RX3) (T := TX3) (N := 14) hx hb (htX3 hn) (fun _ h => h) tyX3 tyX3_ok nmX3 hown hK hP hD hS 0 rfl rfl 12 (by decide) (hn.get mw_350 rfl) (fun _ h9 => h9) rfl (by decide +kernel) rfl rfl (Nat.le_of_ble_eq_true rfl) dX3_init_102 (fun H locs hP hD hS => ?_)
  have hP : va_P D vwCl [(h0, .inr (3, [.ref q_1, .ref q_2, .ref q_3, .ref q_4, .ref q_5, .ref q_6, .ref q_7, .ref q_8, .ref q_9, .ref q_13, .ref q_17, .long 0, .ref p0, .int (-1)])), (q_8, .inl (ct 4, 11, .inr (.inr (.inr (.inr (fun _ => none))))))] _ := hP
  have hD : va_D A [(h0, .inr (3, [.ref q_1, .ref q_2, .ref q_3, .ref q_4, .ref q_5, .ref q_6, .ref q_7, .ref q_8, .ref q_9, .ref q_13, .ref q_17, .long 0, .ref p0, .int (-1)])), (q_8, .inl (ct 4, 11, .inr (.inr (.inr (.inr (fun _ => none))))))] := hD
  refine lv_iconst (v := 0) hx hb dX3_init_105 (by decide) ?_
  refine lv_istore_n (lv' := [(2, .int 0), (0, .ref h0), (1, .ref p0)]) hx hb dX3_init_106 rfl hl (by decide) rfl (fun ls hl => ?_)
  refine lv_iload_n hx hb dX3_init_107 rfl (lv_at hl 0 rfl) ?_
  refine lv_bipush (v := 11) hx hb dX3_init_108 (by decide) ?_
  refine lv_icmp_ge (tgt := 132) hx hb dX3_init_110 (by decide) (fun c_21 => absurd c_21 (by decide)) (fun c_21 => ?_)
  refine lv_aload_n hx hb dX3_init_113 rfl (lv_at hl 1 rfl) ?_
  refine va_get (D := D) (ci := 3) (v := .ref q_8) (C := RX3) (T := TX3) (N := 14) hx hb (htX3 hn) (fun _ h => h) hown hK hP 0 rfl rfl 7 (by decide) (hn.get mw_345 rfl) (fun _ h9 => h9) rfl dX3_init_114 ?_
  refine lv_iload_n hx hb dX3_init_117 rfl (lv_at hl 0 rfl) ?_
  refine W.widen (k := 11) (n := 26) (Nat.le_of_ble_eq_true rfl) (Nat.le_of_ble_eq_true rfl) ?_
  refine va_new (ci := 1) (fs := [.int 0, .long 0, .long 0, .long 0, .long 0]) (C := RX1) (T := TX1) (N := 5) hx hb (htX1 hn) (fun _ h => h) tyX1 tyX1_ok hown (hn.get mw_310 rfl) (hn.get mw_312 rfl) (hn.get mw_12 rfl) hK hP hD hS hA rfl (dfX1) (Nat.le_of_ble_eq_true rfl) (Nat.le_of_ble_eq_true rfl) dX3_init_118 (fun q_22 H hP hD hS => ?_)
  refine W.widen (k := 12) (n := 31) (Nat.le_of_ble_eq_true rfl) (Nat.le_of_ble_eq_true rfl) ?_
  have hP : va_P D vwCl [(h0, .inr (3, [.ref q_1, .ref q_2, .ref q_3, .ref q_4, .ref q_5, .ref q_6, .ref q_7, .ref q_8, .ref q_9, .ref q_13, .ref q_17, .long 0, .ref p0, .int (-1)])), (q_8, .inl (ct 4, 11, .inr (.inr (.inr (.inr (fun _ => none)))))), (q_22, .inr (1, [.int 0, .long 0, .long 0, .long 0, .long 0]))] _ := hP
  have hD : va_D A [(h0, .inr (3, [.ref q_1, .ref q_2, .ref q_3, .ref q_4, .ref q_5, .ref q_6, .ref q_7, .ref q_8, .ref q_9, .ref q_13, .ref q_17, .long 0, .ref p0, .int (-1)])), (q_8, .inl (ct 4, 11, .inr (.inr (.inr (.inr (fun _ => none)))))), (q_22, .inr (1, [.int 0, .long 0, .long 0, .long 0, .long 0]))] := hD
  refine lv_dup hx hb dX3_init_121 rfl ?_
  have hPc := hP.sub (ws' := [(q_22, .inr (1, [.int 0, .long 0, .long 0, .long 0, .long 0]))]) [2] rfl
  have hDc := hD.sub (ws' := [(q_22, .inr (1, [.int 0, .long 0, .long 0, .long 0, .long 0]))]) [2] (by decide) rfl
  refine go_v (k1 := 12) (n1 := 31) (wr := [(h0, .inr (3, [.ref q_1, .ref q_2, .ref q_3, .ref q_4, .ref q_5, .ref q_6, .ref q_7, .ref q_8, .ref q_9, .ref q_13, .ref q_17, .long 0, .ref p0, .int (-1)])), (q_8, .inl (ct 4, 11, .inr (.inr (.inr (.inr (fun _ => none))))))]) [2] [0, 1] (rn_IN (As := []) (rest := [.ref q_22, .int 0, .ref q_8]) (c_X1_init l D ct q_22  _) (cn_of (n := 0) hn mw_315 mw_12 mw_313 mhX1_init ⟨Nat.le_of_ble_eq_true rfl, Nat.le_of_ble_eq_true rfl⟩) hx hb hml hown hn hK hPc hDc mw_314 rfl rfl hl.1 (Nat.le_of_ble_eq_true rfl) dX3_init_122 ⟨(Nat.le_of_ble_eq_true rfl), (Nat.le_of_ble_eq_true rfl)⟩) hP hD hS hA rfl rfl (by decide) (by decide) (Nat.le_of_ble_eq_true rfl) (Nat.le_of_ble_eq_true rfl) (fun u_24 H locs hp_25 hP hD hS => ?_)
  have hP : va_P D vwCl [(h0, .inr (3, [.ref q_1, .ref q_2, .ref q_3, .ref q_4, .ref q_5, .ref q_6, .ref q_7, .ref q_8, .ref q_9, .ref q_13, .ref q_17, .long 0, .ref p0, .int (-1)])), (q_8, .inl (ct 4, 11, .inr (.inr (.inr (.inr (fun _ => none)))))), (q_22, .inr (1, [.int 0, .long 0, .long 0, .long 0, .long 0]))] _ := hP
  have hD : va_D A [(h0, .inr (3, [.ref q_1, .ref q_2, .ref q_3, .ref q_4, .ref q_5, .ref q_6, .ref q_7, .ref q_8, .ref q_9, .ref q_13, .ref q_17, .long 0, .ref p0, .int (-1)])), (q_8, .inl (ct 4, 11, .inr (.inr (.inr (.inr (fun _ => none)))))), (q_22, .inr (1, [.int 0, .long 0, .long 0, .long 0, .long 0]))] := hD
  refine va_astq hx hb hK hP hD hS 1 4 2 1 (r := (RX1, TX1, 5)) rfl rfl rfl rfl (vp_in_iff.mpr (by decide)) dX3_init_125 (fun H locs hP hD hS => ?_)
  have hP : va_P D vwCl [(h0, .inr (3, [.ref q_1, .ref q_2, .ref q_3, .ref q_4, .ref q_5, .ref q_6, .ref q_7, .ref q_8, .ref q_9, .ref q_13, .ref q_17, .long 0, .ref p0, .int (-1)])), (q_8, .inl (ct 4, 11, .inr (.inr (.inr (.inr (va_up (fun _ => none) (0 : Int32).toNatClampNeg (some q_22))))))), (q_22, .inr (1, [.int 0, .long 0, .long 0, .long 0, .long 0]))] _ := hP
  have hD : va_D A [(h0, .inr (3, [.ref q_1, .ref q_2, .ref q_3, .ref q_4, .ref q_5, .ref q_6, .ref q_7, .ref q_8, .ref q_9, .ref q_13, .ref q_17, .long 0, .ref p0, .int (-1)])), (q_8, .inl (ct 4, 11, .inr (.inr (.inr (.inr (va_up (fun _ => none) (0 : Int32).toNatClampNeg (some q_22))))))), (q_22, .inr (1, [.int 0, .long 0, .long 0, .long 0, .long 0]))] := hD
  generalize (va_up (fun _ => none) (0 : Int32).toNatClampNeg (some q_22)) = f_26 at hP hD
  have hP := hP.sub (ws' := [(h0, .inr (3, [.ref q_1, .ref q_2, .ref q_3, .ref q_4, .ref q_5, .ref q_6, .ref q_7, .ref q_8, .ref q_9, .ref q_13, .ref q_17, .long 0, .ref p0, .int (-1)])), (q_8, .inl (ct 4, 11, .inr (.inr (.inr (.inr f_26)))))]) [0, 1] rfl
  have hD := hD.sub (ws' := [(h0, .inr (3, [.ref q_1, .ref q_2, .ref q_3, .ref q_4, .ref q_5, .ref q_6, .ref q_7, .ref q_8, .ref q_9, .ref q_13, .ref q_17, .long 0, .ref p0, .int (-1)])), (q_8, .inl (ct 4, 11, .inr (.inr (.inr (.inr f_26)))))]) [0, 1] (by decide) rfl
  refine lv_iinc (v := 1) (lv' := [(2, .int 1), (0, .ref h0), (1, .ref p0)]) hx hb dX3_init_126 hl (k := 0) rfl (by decide) (by decide) rfl (fun ls hl => ?_)
  refine lv_goto (tgt := 107) hx hb dX3_init_129 (by decide) ?_
  refine lv_iload_n hx hb dX3_init_107 rfl (lv_at hl 0 rfl) ?_
  refine lv_bipush (v := 11) hx hb dX3_init_108 (by decide) ?_
  refine lv_icmp_ge (tgt := 132) hx hb dX3_init_110 (by decide) (fun c_27 => absurd c_27 (by decide)) (fun c_27 => ?_)
  refine lv_aload_n hx hb dX3_init_113 rfl (lv_at hl 1 rfl) ?_
  refine va_get (D := D) (ci := 3) (v := .ref q_8) (C := RX3) (T := TX3) (N := 14) hx hb (htX3 hn) (fun _ h => h) hown hK hP 0 rfl rfl 7 (by decide) (hn.get mw_345 rfl) (fun _ h9 => h9) rfl dX3_init_114 ?_
  refine lv_iload_n hx hb dX3_init_117 rfl (lv_at hl 0 rfl) ?_
  refine W.widen (k := 12) (n := 31) (Nat.le_of_ble_eq_true rfl) (Nat.le_of_ble_eq_true rfl) ?_
  refine va_new (ci := 1) (fs := [.int 0, .long 0, .long 0, .long 0, .long 0]) (C := RX1) (T := TX1) (N := 5) hx hb (htX1 hn) (fun _ h => h) tyX1 tyX1_ok hown (hn.get mw_310 rfl) (hn.get mw_312 rfl) (hn.get mw_12 rfl) hK hP hD hS hA rfl (dfX1) (Nat.le_of_ble_eq_true rfl) (Nat.le_of_ble_eq_true rfl) dX3_init_118 (fun q_28 H hP hD hS => ?_)
  refine W.widen (k := 13) (n := 36) (Nat.le_of_ble_eq_true rfl) (Nat.le_of_ble_eq_true rfl) ?_
  have hP : va_P D vwCl [(h0, .inr (3, [.ref q_1, .ref q_2, .ref q_3, .ref q_4, .ref q_5, .ref q_6, .ref q_7, .ref q_8, .ref q_9, .ref q_13, .ref q_17, .long 0, .ref p0, .int (-1)])), (q_8, .inl (ct 4, 11, .inr (.inr (.inr (.inr f_26))))), (q_28, .inr (1, [.int 0, .long 0, .long 0, .long 0, .long 0]))] _ := hP
  have hD : va_D A [(h0, .inr (3, [.ref q_1, .ref q_2, .ref q_3, .ref q_4, .ref q_5, .ref q_6, .ref q_7, .ref q_8, .ref q_9, .ref q_13, .ref q_17, .long 0, .ref p0, .int (-1)])), (q_8, .inl (ct 4, 11, .inr (.inr (.inr (.inr f_26))))), (q_28, .inr (1, [.int 0, .long 0, .long 0, .long 0, .long 0]))] := hD
  refine lv_dup hx hb dX3_init_121 rfl ?_
  have hPc := hP.sub (ws' := [(q_28, .inr (1, [.int 0, .long 0, .long 0, .long 0, .long 0]))]) [2] rfl
  have hDc := hD.sub (ws' := [(q_28, .inr (1, [.int 0, .long 0, .long 0, .long 0, .long 0]))]) [2] (by decide) rfl
  refine go_v (k1 := 13) (n1 := 36) (wr := [(h0, .inr (3, [.ref q_1, .ref q_2, .ref q_3, .ref q_4, .ref q_5, .ref q_6, .ref q_7, .ref q_8, .ref q_9, .ref q_13, .ref q_17, .long 0, .ref p0, .int (-1)])), (q_8, .inl (ct 4, 11, .inr (.inr (.inr (.inr f_26)))))]) [2] [0, 1] (rn_IN (As := []) (rest := [.ref q_28, .int 1, .ref q_8]) (c_X1_init l D ct q_28  _) (cn_of (n := 0) hn mw_315 mw_12 mw_313 mhX1_init ⟨Nat.le_of_ble_eq_true rfl, Nat.le_of_ble_eq_true rfl⟩) hx hb hml hown hn hK hPc hDc mw_314 rfl rfl hl.1 (Nat.le_of_ble_eq_true rfl) dX3_init_122 ⟨(Nat.le_of_ble_eq_true rfl), (Nat.le_of_ble_eq_true rfl)⟩) hP hD hS hA rfl rfl (by decide) (by decide) (Nat.le_of_ble_eq_true rfl) (Nat.le_of_ble_eq_true rfl) (fun u_30 H locs hp_31 hP hD hS => ?_)
  have hP : va_P D vwCl [(h0, .inr (3, [.ref q_1, .ref q_2, .ref q_3, .ref q_4, .ref q_5, .ref q_6, .ref q_7, .ref q_8, .ref q_9, .ref q_13, .ref q_17, .long 0, .ref p0, .int (-1)])), (q_8, .inl (ct 4, 11, .inr (.inr (.inr (.inr f_26))))), (q_28, .inr (1, [.int 0, .long 0, .long 0, .long 0, .long 0]))] _ := hP
  have hD : va_D A [(h0, .inr (3, [.ref q_1, .ref q_2, .ref q_3, .ref q_4, .ref q_5, .ref q_6, .ref q_7, .ref q_8, .ref q_9, .ref q_13, .ref q_17, .long 0, .ref p0, .int (-1)])), (q_8, .inl (ct 4, 11, .inr (.inr (.inr (.inr f_26))))), (q_28, .inr (1, [.int 0, .long 0, .long 0, .long 0, .long 0]))] := hD
  refine va_astq hx hb hK hP hD hS 1 4 2 1 (r := (RX1, TX1, 5)) rfl rfl rfl rfl (vp_in_iff.mpr (by decide)) dX3_init_125 (fun H locs hP hD hS => ?_)
  have hP : va_P D vwCl [(h0, .inr (3, [.ref q_1, .ref q_2, .ref q_3, .ref q_4, .ref q_5, .ref q_6, .ref q_7, .ref q_8, .ref q_9, .ref q_13, .ref q_17, .long 0, .ref p0, .int (-1)])), (q_8, .inl (ct 4, 11, .inr (.inr (.inr (.inr (va_up f_26 (1 : Int32).toNatClampNeg (some q_28))))))), (q_28, .inr (1, [.int 0, .long 0, .long 0, .long 0, .long 0]))] _ := hP
  have hD : va_D A [(h0, .inr (3, [.ref q_1, .ref q_2, .ref q_3, .ref q_4, .ref q_5, .ref q_6, .ref q_7, .ref q_8, .ref q_9, .ref q_13, .ref q_17, .long 0, .ref p0, .int (-1)])), (q_8, .inl (ct 4, 11, .inr (.inr (.inr (.inr (va_up f_26 (1 : Int32).toNatClampNeg (some q_28))))))), (q_28, .inr (1, [.int 0, .long 0, .long 0, .long 0, .long 0]))] := hD
  generalize (va_up f_26 (1 : Int32).toNatClampNeg (some q_28)) = f_32 at hP hD
  have hP := hP.sub (ws' := [(h0, .inr (3, [.ref q_1, .ref q_2, .ref q_3, .ref q_4, .ref q_5, .ref q_6, .ref q_7, .ref q_8, .ref q_9, .ref q_13, .ref q_17, .long 0, .ref p0, .int (-1)])), (q_8, .inl (ct 4, 11, .inr (.inr (.inr (.inr f_32)))))]) [0, 1] rfl
  have hD := hD.sub (ws' := [(h0, .inr (3, [.ref q_1, .ref q_2, .ref q_3, .ref q_4, .ref q_5, .ref q_6, .ref q_7, .ref q_8, .ref q_9, .ref q_13, .ref q_17, .long 0, .ref p0, .int (-1)])), (q_8, .inl (ct 4, 11, .inr (.inr (.inr (.inr f_32)))))]) [0, 1] (by decide) rfl
  refine lv_iinc (v := 2) (lv' := [(2, .int 2), (0, .ref h0), (1, .ref p0)]) hx hb dX3_init_126 hl (k := 0) rfl (by decide) (by decide) rfl (fun ls hl => ?_)
  refine lv_goto (tgt := 107) hx hb dX3_init_129 (by decide) ?_
  refine lv_iload_n hx hb dX3_init_107 rfl (lv_at hl 0 rfl) ?_
  refine lv_bipush (v := 11) hx hb dX3_init_108 (by decide) ?_
  refine lv_icmp_ge (tgt := 132) hx hb dX3_init_110 (by decide) (fun c_33 => absurd c_33 (by decide)) (fun c_33 => ?_)
  refine lv_aload_n hx hb dX3_init_113 rfl (lv_at hl 1 rfl) ?_
  refine va_get (D := D) (ci := 3) (v := .ref q_8) (C := RX3) (T := TX3) (N := 14) hx hb (htX3 hn) (fun _ h => h) hown hK hP 0 rfl rfl 7 (by decide) (hn.get mw_345 rfl) (fun _ h9 => h9) rfl dX3_init_114 ?_
  refine lv_iload_n hx hb dX3_init_117 rfl (lv_at hl 0 rfl) ?_
  refine W.widen (k := 13) (n := 36) (Nat.le_of_ble_eq_true rfl) (Nat.le_of_ble_eq_true rfl) ?_
  refine va_new (ci := 1) (fs := [.int 0, .long 0, .long 0, .long 0, .long 0]) (C := RX1) (T := TX1) (N := 5) hx hb (htX1 hn) (fun _ h => h) tyX1 tyX1_ok hown (hn.get mw_310 rfl) (hn.get mw_312 rfl) (hn.get mw_12 rfl) hK hP hD hS hA rfl (dfX1) (Nat.le_of_ble_eq_true rfl) (Nat.le_of_ble_eq_true rfl) dX3_init_118 (fun q_34 H hP hD hS => ?_)
  refine W.widen (k := 14) (n := 41) (Nat.le_of_ble_eq_true rfl) (Nat.le_of_ble_eq_true rfl) ?_
  have hP : va_P D vwCl [(h0, .inr (3, [.ref q_1, .ref q_2, .ref q_3, .ref q_4, .ref q_5, .ref q_6, .ref q_7, .ref q_8, .ref q_9, .ref q_13, .ref q_17, .long 0, .ref p0, .int (-1)])), (q_8, .inl (ct 4, 11, .inr (.inr (.inr (.inr f_32))))), (q_34, .inr (1, [.int 0, .long 0, .long 0, .long 0, .long 0]))] _ := hP
  have hD : va_D A [(h0, .inr (3, [.ref q_1, .ref q_2, .ref q_3, .ref q_4, .ref q_5, .ref q_6, .ref q_7, .ref q_8, .ref q_9, .ref q_13, .ref q_17, .long 0, .ref p0, .int (-1)])), (q_8, .inl (ct 4, 11, .inr (.inr (.inr (.inr f_32))))), (q_34, .inr (1, [.int 0, .long 0, .long 0, .long 0, .long 0]))] := hD
  refine lv_dup hx hb dX3_init_121 rfl ?_
  have hPc := hP.sub (ws' := [(q_34, .inr (1, [.int 0, .long 0, .long 0, .long 0, .long 0]))]) [2] rfl
  have hDc := hD.sub (ws' := [(q_34, .inr (1, [.int 0, .long 0, .long 0, .long 0, .long 0]))]) [2] (by decide) rfl
  refine go_v (k1 := 14) (n1 := 41) (wr := [(h0, .inr (3, [.ref q_1, .ref q_2, .ref q_3, .ref q_4, .ref q_5, .ref q_6, .ref q_7, .ref q_8, .ref q_9, .ref q_13, .ref q_17, .long 0, .ref p0, .int (-1)])), (q_8, .inl (ct 4, 11, .inr (.inr (.inr (.inr f_32)))))]) [2] [0, 1] (rn_IN (As := []) (rest := [.ref q_34, .int 2, .ref q_8]) (c_X1_init l D ct q_34  _) (cn_of (n := 0) hn mw_315 mw_12 mw_313 mhX1_init ⟨Nat.le_of_ble_eq_true rfl, Nat.le_of_ble_eq_true rfl⟩) hx hb hml hown hn hK hPc hDc mw_314 rfl rfl hl.1 (Nat.le_of_ble_eq_true rfl) dX3_init_122 ⟨(Nat.le_of_ble_eq_true rfl), (Nat.le_of_ble_eq_true rfl)⟩) hP hD hS hA rfl rfl (by decide) (by decide) (Nat.le_of_ble_eq_true rfl) (Nat.le_of_ble_eq_true rfl) (fun u_36 H locs hp_37 hP hD hS => ?_)
  have hP : va_P D vwCl [(h0, .inr (3, [.ref q_1, .ref q_2, .ref q_3, .ref q_4, .ref q_5, .ref q_6, .ref q_7, .ref q_8, .ref q_9, .ref q_13, .ref q_17, .long 0, .ref p0, .int (-1)])), (q_8, .inl (ct 4, 11, .inr (.inr (.inr (.inr f_32))))), (q_34, .inr (1, [.int 0, .long 0, .long 0, .long 0, .long 0]))] _ := hP
  have hD : va_D A [(h0, .inr (3, [.ref q_1, .ref q_2, .ref q_3, .ref q_4, .ref q_5, .ref q_6, .ref q_7, .ref q_8, .ref q_9, .ref q_13, .ref q_17, .long 0, .ref p0, .int (-1)])), (q_8, .inl (ct 4, 11, .inr (.inr (.inr (.inr f_32))))), (q_34, .inr (1, [.int 0, .long 0, .long 0, .long 0, .long 0]))] := hD
  refine va_astq hx hb hK hP hD hS 1 4 2 1 (r := (RX1, TX1, 5)) rfl rfl rfl rfl (vp_in_iff.mpr (by decide)) dX3_init_125 (fun H locs hP hD hS => ?_)
  have hP : va_P D vwCl [(h0, .inr (3, [.ref q_1, .ref q_2, .ref q_3, .ref q_4, .ref q_5, .ref q_6, .ref q_7, .ref q_8, .ref q_9, .ref q_13, .ref q_17, .long 0, .ref p0, .int (-1)])), (q_8, .inl (ct 4, 11, .inr (.inr (.inr (.inr (va_up f_32 (2 : Int32).toNatClampNeg (some q_34))))))), (q_34, .inr (1, [.int 0, .long 0, .long 0, .long 0, .long 0]))] _ := hP
  have hD : va_D A [(h0, .inr (3, [.ref q_1, .ref q_2, .ref q_3, .ref q_4, .ref q_5, .ref q_6, .ref q_7, .ref q_8, .ref q_9, .ref q_13, .ref q_17, .long 0, .ref p0, .int (-1)])), (q_8, .inl (ct 4, 11, .inr (.inr (.inr (.inr (va_up f_32 (2 : Int32).toNatClampNeg (some q_34))))))), (q_34, .inr (1, [.int 0, .long 0, .long 0, .long 0, .long 0]))] := hD
  generalize (va_up f_32 (2 : Int32).toNatClampNeg (some q_34)) = f_38 at hP hD
  have hP := hP.sub (ws' := [(h0, .inr (3, [.ref q_1, .ref q_2, .ref q_3, .ref q_4, .ref q_5, .ref q_6, .ref q_7, .ref q_8, .ref q_9, .ref q_13, .ref q_17, .long 0, .ref p0, .int (-1)])), (q_8, .inl (ct 4, 11, .inr (.inr (.inr (.inr f_38)))))]) [0, 1] rfl
  have hD := hD.sub (ws' := [(h0, .inr (3, [.ref q_1, .ref q_2, .ref q_3, .ref q_4, .ref q_5, .ref q_6, .ref q_7, .ref q_8, .ref q_9, .ref q_13, .ref q_17, .long 0, .ref p0, .int (-1)])), (q_8, .inl (ct 4, 11, .inr (.inr (.inr (.inr f_38)))))]) [0, 1] (by decide) rfl
  refine lv_iinc (v := 3) (lv' := [(2, .int 3), (0, .ref h0), (1, .ref p0)]) hx hb dX3_init_126 hl (k := 0) rfl (by decide) (by decide) rfl (fun ls hl => ?_)
  refine lv_goto (tgt := 107) hx hb dX3_init_129 (by decide) ?_
  refine lv_iload_n hx hb dX3_init_107 rfl (lv_at hl 0 rfl) ?_
  refine lv_bipush (v := 11) hx hb dX3_init_108 (by decide) ?_
  refine lv_icmp_ge (tgt := 132) hx hb dX3_init_110 (by decide) (fun c_39 => absurd c_39 (by decide)) (fun c_39 => ?_)
  refine lv_aload_n hx hb dX3_init_113 rfl (lv_at hl 1 rfl) ?_
  refine va_get (D := D) (ci := 3) (v := .ref q_8) (C := RX3) (T := TX3) (N := 14) hx hb (htX3 hn) (fun _ h => h) hown hK hP 0 rfl rfl 7 (by decide) (hn.get mw_345 rfl) (fun _ h9 => h9) rfl dX3_init_114 ?_
  refine lv_iload_n hx hb dX3_init_117 rfl (lv_at hl 0 rfl) ?_
  refine W.widen (k := 14) (n := 41) (Nat.le_of_ble_eq_true rfl) (Nat.le_of_ble_eq_true rfl) ?_
  refine va_new (ci := 1) (fs := [.int 0, .long 0, .long 0, .long 0, .long 0]) (C := RX1) (T := TX1) (N := 5) hx hb (htX1 hn) (fun _ h => h) tyX1 tyX1_ok hown (hn.get mw_310 rfl) (hn.get mw_312 rfl) (hn.get mw_12 rfl) hK hP hD hS hA rfl (dfX1) (Nat.le_of_ble_eq_true rfl) (Nat.le_of_ble_eq_true rfl) dX3_init_118 (fun q_40 H hP hD hS => ?_)
  refine W.widen (k := 15) (n := 46) (Nat.le_of_ble_eq_true rfl) (Nat.le_of_ble_eq_true rfl) ?_
  have hP : va_P D vwCl [(h0, .inr (3, [.ref q_1, .ref q_2, .ref q_3, .ref q_4, .ref q_5, .ref q_6, .ref q_7, .ref q_8, .ref q_9, .ref q_13, .ref q_17, .long 0, .ref p0, .int (-1)])), (q_8, .inl (ct 4, 11, .inr (.inr (.inr (.inr f_38))))), (q_40, .inr (1, [.int 0, .long 0, .long 0, .long 0, .long 0]))] _ := hP
  have hD : va_D A [(h0, .inr (3, [.ref q_1, .ref q_2, .ref q_3, .ref q_4, .ref q_5, .ref q_6, .ref q_7, .ref q_8, .ref q_9, .ref q_13, .ref q_17, .long 0, .ref p0, .int (-1)])), (q_8, .inl (ct 4, 11, .inr (.inr (.inr (.inr f_38))))), (q_40, .inr (1, [.int 0, .long 0, .long 0, .long 0, .long 0]))] := hD
  refine lv_dup hx hb dX3_init_121 rfl ?_
  have hPc := hP.sub (ws' := [(q_40, .inr (1, [.int 0, .long 0, .long 0, .long 0, .long 0]))]) [2] rfl
  have hDc := hD.sub (ws' := [(q_40, .inr (1, [.int 0, .long 0, .long 0, .long 0, .long 0]))]) [2] (by decide) rfl
  refine go_v (k1 := 15) (n1 := 46) (wr := [(h0, .inr (3, [.ref q_1, .ref q_2, .ref q_3, .ref q_4, .ref q_5, .ref q_6, .ref q_7, .ref q_8, .ref q_9, .ref q_13, .ref q_17, .long 0, .ref p0, .int (-1)])), (q_8, .inl (ct 4, 11, .inr (.inr (.inr (.inr f_38)))))]) [2] [0, 1] (rn_IN (As := []) (rest := [.ref q_40, .int 3, .ref q_8]) (c_X1_init l D ct q_40  _) (cn_of (n := 0) hn mw_315 mw_12 mw_313 mhX1_init ⟨Nat.le_of_ble_eq_true rfl, Nat.le_of_ble_eq_true rfl⟩) hx hb hml hown hn hK hPc hDc mw_314 rfl rfl hl.1 (Nat.le_of_ble_eq_true rfl) dX3_init_122 ⟨(Nat.le_of_ble_eq_true rfl), (Nat.le_of_ble_eq_true rfl)⟩) hP hD hS hA rfl rfl (by decide) (by decide) (Nat.le_of_ble_eq_true rfl) (Nat.le_of_ble_eq_true rfl) (fun u_42 H locs hp_43 hP hD hS => ?_)
  have hP : va_P D vwCl [(h0, .inr (3, [.ref q_1, .ref q_2, .ref q_3, .ref q_4, .ref q_5, .ref q_6, .ref q_7, .ref q_8, .ref q_9, .ref q_13, .ref q_17, .long 0, .ref p0, .int (-1)])), (q_8, .inl (ct 4, 11, .inr (.inr (.inr (.inr f_38))))), (q_40, .inr (1, [.int 0, .long 0, .long 0, .long 0, .long 0]))] _ := hP
  have hD : va_D A [(h0, .inr (3, [.ref q_1, .ref q_2, .ref q_3, .ref q_4, .ref q_5, .ref q_6, .ref q_7, .ref q_8, .ref q_9, .ref q_13, .ref q_17, .long 0, .ref p0, .int (-1)])), (q_8, .inl (ct 4, 11, .inr (.inr (.inr (.inr f_38))))), (q_40, .inr (1, [.int 0, .long 0, .long 0, .long 0, .long 0]))] := hD
  refine va_astq hx hb hK hP hD hS 1 4 2 1 (r := (RX1, TX1, 5)) rfl rfl rfl rfl (vp_in_iff.mpr (by decide)) dX3_init_125 (fun H locs hP hD hS => ?_)
  have hP : va_P D vwCl [(h0, .inr (3, [.ref q_1, .ref q_2, .ref q_3, .ref q_4, .ref q_5, .ref q_6, .ref q_7, .ref q_8, .ref q_9, .ref q_13, .ref q_17, .long 0, .ref p0, .int (-1)])), (q_8, .inl (ct 4, 11, .inr (.inr (.inr (.inr (va_up f_38 (3 : Int32).toNatClampNeg (some q_40))))))), (q_40, .inr (1, [.int 0, .long 0, .long 0, .long 0, .long 0]))] _ := hP
  have hD : va_D A [(h0, .inr (3, [.ref q_1, .ref q_2, .ref q_3, .ref q_4, .ref q_5, .ref q_6, .ref q_7, .ref q_8, .ref q_9, .ref q_13, .ref q_17, .long 0, .ref p0, .int (-1)])), (q_8, .inl (ct 4, 11, .inr (.inr (.inr (.inr (va_up f_38 (3 : Int32).toNatClampNeg (some q_40))))))), (q_40, .inr (1, [.int 0, .long 0, .long 0, .long 0, .long 0]))] := hD
  generalize (va_up f_38 (3 : Int32).toNatClampNeg (some q_40)) = f_44 at hP hD
  have hP := hP.sub (ws' := [(h0, .inr (3, [.ref q_1, .ref q_2, .ref q_3, .ref q_4, .ref q_5, .ref q_6, .ref q_7, .ref q_8, .ref q_9, .ref q_13, .ref q_17, .long 0, .ref p0, .int (-1)])), (q_8, .inl (ct 4, 11, .inr (.inr (.inr (.inr f_44)))))]) [0, 1] rfl
  have hD := hD.sub (ws' := [(h0, .inr (3, [.ref q_1, .ref q_2, .ref q_3, .ref q_4, .ref q_5, .ref q_6, .ref q_7, .ref q_8, .ref q_9, .ref q_13, .ref q_17, .long 0, .ref p0, .int (-1)])), (q_8, .inl (ct 4, 11, .inr (.inr (.inr (.inr f_44)))))]) [0, 1] (by decide) rfl
  refine lv_iinc (v := 4) (lv' := [(2, .int 4), (0, .ref h0), (1, .ref p0)]) hx hb dX3_init_126 hl (k := 0) rfl (by decide) (by decide) rfl (fun ls hl => ?_)
  refine lv_goto (tgt := 107) hx hb dX3_init_129 (by decide) ?_
  refine lv_iload_n hx hb dX3_init_107 rfl (lv_at hl 0 rfl) ?_
  refine lv_bipush (v := 11) hx hb dX3_init_108 (by decide) ?_
  refine lv_icmp_ge (tgt := 132) hx hb dX3_init_110 (by decide) (fun c_45 => absurd c_45 (by decide)) (fun c_45 => ?_)
  refine lv_aload_n hx hb dX3_init_113 rfl (lv_at hl 1 rfl) ?_
  refine va_get (D := D) (ci := 3) (v := .ref q_8) (C := RX3) (T := TX3) (N := 14) hx hb (htX3 hn) (fun _ h => h) hown hK hP 0 rfl rfl 7 (by decide) (hn.get mw_345 rfl) (fun _ h9 => h9) rfl dX3_init_114 ?_
  refine lv_iload_n hx hb dX3_init_117 rfl (lv_at hl 0 rfl) ?_
  refine W.widen (k := 15) (n := 46) (Nat.le_of_ble_eq_true rfl) (Nat.le_of_ble_eq_true rfl) ?_
  refine va_new (ci := 1) (fs := [.int 0, .long 0, .long 0, .long 0, .long 0]) (C := RX1) (T := TX1) (N := 5) hx hb (htX1 hn) (fun _ h => h) tyX1 tyX1_ok hown (hn.get mw_310 rfl) (hn.get mw_312 rfl) (hn.get mw_12 rfl) hK hP hD hS hA rfl (dfX1) (Nat.le_of_ble_eq_true rfl) (Nat.le_of_ble_eq_true rfl) dX3_init_118 (fun q_46 H hP hD hS => ?_)
  refine W.widen (k := 16) (n := 51) (Nat.le_of_ble_eq_true rfl) (Nat.le_of_ble_eq_true rfl) ?_
  have hP : va_P D vwCl [(h0, .inr (3, [.ref q_1, .ref q_2, .ref q_3, .ref q_4, .ref q_5, .ref q_6, .ref q_7, .ref q_8, .ref q_9, .ref q_13, .ref q_17, .long 0, .ref p0, .int (-1)])), (q_8, .inl (ct 4, 11, .inr (.inr (.inr (.inr f_44))))), (q_46, .inr (1, [.int 0, .long 0, .long 0, .long 0, .long 0]))] _ := hP
  have hD : va_D A [(h0, .inr (3, [.ref q_1, .ref q_2, .ref q_3, .ref q_4, .ref q_5, .ref q_6, .ref q_7, .ref q_8, .ref q_9, .ref q_13, .ref q_17, .long 0, .ref p0, .int (-1)])), (q_8, .inl (ct 4, 11, .inr (.inr (.inr (.inr f_44))))), (q_46, .inr (1, [.int 0, .long 0, .long 0, .long 0, .long 0]))] := hD
  refine lv_dup hx hb dX3_init_121 rfl ?_
  have hPc := hP.sub (ws' := [(q_46, .inr (1, [.int 0, .long 0, .long 0, .long 0, .long 0]))]) [2] rfl
  have hDc := hD.sub (ws' := [(q_46, .inr (1, [.int 0, .long 0, .long 0, .long 0, .long 0]))]) [2] (by decide) rfl
  refine go_v (k1 := 16) (n1 := 51) (wr := [(h0, .inr (3, [.ref q_1, .ref q_2, .ref q_3, .ref q_4, .ref q_5, .ref q_6, .ref q_7, .ref q_8, .ref q_9, .ref q_13, .ref q_17, .long 0, .ref p0, .int (-1)])), (q_8, .inl (ct 4, 11, .inr (.inr (.inr (.inr f_44)))))]) [2] [0, 1] (rn_IN (As := []) (rest := [.ref q_46, .int 4, .ref q_8]) (c_X1_init l D ct q_46  _) (cn_of (n := 0) hn mw_315 mw_12 mw_313 mhX1_init ⟨Nat.le_of_ble_eq_true rfl, Nat.le_of_ble_eq_true rfl⟩) hx hb hml hown hn hK hPc hDc mw_314 rfl rfl hl.1 (Nat.le_of_ble_eq_true rfl) dX3_init_122 ⟨(Nat.le_of_ble_eq_true rfl), (Nat.le_of_ble_eq_true rfl)⟩) hP hD hS hA rfl rfl (by decide) (by decide) (Nat.le_of_ble_eq_true rfl) (Nat.le_of_ble_eq_true rfl) (fun u_48 H locs hp_49 hP hD hS => ?_)
  have hP : va_P D vwCl [(h0, .inr (3, [.ref q_1, .ref q_2, .ref q_3, .ref q_4, .ref q_5, .ref q_6, .ref q_7, .ref q_8, .ref q_9, .ref q_13, .ref q_17, .long 0, .ref p0, .int (-1)])), (q_8, .inl (ct 4, 11, .inr (.inr (.inr (.inr f_44))))), (q_46, .inr (1, [.int 0, .long 0, .long 0, .long 0, .long 0]))] _ := hP
  have hD : va_D A [(h0, .inr (3, [.ref q_1, .ref q_2, .ref q_3, .ref q_4, .ref q_5, .ref q_6, .ref q_7, .ref q_8, .ref q_9, .ref q_13, .ref q_17, .long 0, .ref p0, .int (-1)])), (q_8, .inl (ct 4, 11, .inr (.inr (.inr (.inr f_44))))), (q_46, .inr (1, [.int 0, .long 0, .long 0, .long 0, .long 0]))] := hD
  refine va_astq hx hb hK hP hD hS 1 4 2 1 (r := (RX1, TX1, 5)) rfl rfl rfl rfl (vp_in_iff.mpr (by decide)) dX3_init_125 (fun H locs hP hD hS => ?_)
  have hP : va_P D vwCl [(h0, .inr (3, [.ref q_1, .ref q_2, .ref q_3, .ref q_4, .ref q_5, .ref q_6, .ref q_7, .ref q_8, .ref q_9, .ref q_13, .ref q_17, .long 0, .ref p0, .int (-1)])), (q_8, .inl (ct 4, 11, .inr (.inr (.inr (.inr (va_up f_44 (4 : Int32).toNatClampNeg (some q_46))))))), (q_46, .inr (1, [.int 0, .long 0, .long 0, .long 0, .long 0]))] _ := hP
  have hD : va_D A [(h0, .inr (3, [.ref q_1, .ref q_2, .ref q_3, .ref q_4, .ref q_5, .ref q_6, .ref q_7, .ref q_8, .ref q_9, .ref q_13, .ref q_17, .long 0, .ref p0, .int (-1)])), (q_8, .inl (ct 4, 11, .inr (.inr (.inr (.inr (va_up f_44 (4 : Int32).toNatClampNeg (some q_46))))))), (q_46, .inr (1, [.int 0, .long 0, .long 0, .long 0, .long 0]))] := hD
  generalize (va_up f_44 (4 : Int32).toNatClampNeg (some q_46)) = f_50 at hP hD
  have hP := hP.sub (ws' := [(h0, .inr (3, [.ref q_1, .ref q_2, .ref q_3, .ref q_4, .ref q_5, .ref q_6, .ref q_7, .ref q_8, .ref q_9, .ref q_13, .ref q_17, .long 0, .ref p0, .int (-1)])), (q_8, .inl (ct 4, 11, .inr (.inr (.inr (.inr f_50)))))]) [0, 1] rfl
  have hD := hD.sub (ws' := [(h0, .inr (3, [.ref q_1, .ref q_2, .ref q_3, .ref q_4, .ref q_5, .ref q_6, .ref q_7, .ref q_8, .ref q_9, .ref q_13, .ref q_17, .long 0, .ref p0, .int (-1)])), (q_8, .inl (ct 4, 11, .inr (.inr (.inr (.inr f_50)))))]) [0, 1] (by decide) rfl
  refine lv_iinc (v := 5) (lv' := [(2, .int 5), (0, .ref h0), (1, .ref p0)]) hx hb dX3_init_126 hl (k := 0) rfl (by decide) (by decide) rfl (fun ls hl => ?_)
  refine lv_goto (tgt := 107) hx hb dX3_init_129 (by decide) ?_
  refine lv_iload_n hx hb dX3_init_107 rfl (lv_at hl 0 rfl) ?_
  refine lv_bipush (v := 11) hx hb dX3_init_108 (by decide) ?_
  refine lv_icmp_ge (tgt := 132) hx hb dX3_init_110 (by decide) (fun c_51 => absurd c_51 (by decide)) (fun c_51 => ?_)
  refine lv_aload_n hx hb dX3_init_113 rfl (lv_at hl 1 rfl) ?_
  refine va_get (D := D) (ci := 3) (v := .ref q_8) (C := RX3) (T := TX3) (N := 14) hx hb (htX3 hn) (fun _ h => h) hown hK hP 0 rfl rfl 7 (by decide) (hn.get mw_345 rfl) (fun _ h9 => h9) rfl dX3_init_114 ?_
  refine lv_iload_n hx hb dX3_init_117 rfl (lv_at hl 0 rfl) ?_
  refine W.widen (k := 16) (n := 51) (Nat.le_of_ble_eq_true rfl) (Nat.le_of_ble_eq_true rfl) ?_
  refine va_new (ci := 1) (fs := [.int 0, .long 0, .long 0, .long 0, .long 0]) (C := RX1) (T := TX1) (N := 5) hx hb (htX1 hn) (fun _ h => h) tyX1 tyX1_ok hown (hn.get mw_310 rfl) (hn.get mw_312 rfl) (hn.get mw_12 rfl) hK hP hD hS hA rfl (dfX1) (Nat.le_of_ble_eq_true rfl) (Nat.le_of_ble_eq_true rfl) dX3_init_118 (fun q_52 H hP hD hS => ?_)
  refine W.widen (k := 17) (n := 56) (Nat.le_of_ble_eq_true rfl) (Nat.le_of_ble_eq_true rfl) ?_
  have hP : va_P D vwCl [(h0, .inr (3, [.ref q_1, .ref q_2, .ref q_3, .ref q_4, .ref q_5, .ref q_6, .ref q_7, .ref q_8, .ref q_9, .ref q_13, .ref q_17, .long 0, .ref p0, .int (-1)])), (q_8, .inl (ct 4, 11, .inr (.inr (.inr (.inr f_50))))), (q_52, .inr (1, [.int 0, .long 0, .long 0, .long 0, .long 0]))] _ := hP
  have hD : va_D A [(h0, .inr (3, [.ref q_1, .ref q_2, .ref q_3, .ref q_4, .ref q_5, .ref q_6, .ref q_7, .ref q_8, .ref q_9, .ref q_13, .ref q_17, .long 0, .ref p0, .int (-1)])), (q_8, .inl (ct 4, 11, .inr (.inr (.inr (.inr f_50))))), (q_52, .inr (1, [.int 0, .long 0, .long 0, .long 0, .long 0]))] := hD
  refine lv_dup hx hb dX3_init_121 rfl ?_
  have hPc := hP.sub (ws' := [(q_52, .inr (1, [.int 0, .long 0, .long 0, .long 0, .long 0]))]) [2] rfl
  have hDc := hD.sub (ws' := [(q_52, .inr (1, [.int 0, .long 0, .long 0, .long 0, .long 0]))]) [2] (by decide) rfl
  refine go_v (k1 := 17) (n1 := 56) (wr := [(h0, .inr (3, [.ref q_1, .ref q_2, .ref q_3, .ref q_4, .ref q_5, .ref q_6, .ref q_7, .ref q_8, .ref q_9, .ref q_13, .ref q_17, .long 0, .ref p0, .int (-1)])), (q_8, .inl (ct 4, 11, .inr (.inr (.inr (.inr f_50)))))]) [2] [0, 1] (rn_IN (As := []) (rest := [.ref q_52, .int 5, .ref q_8]) (c_X1_init l D ct q_52  _) (cn_of (n := 0) hn mw_315 mw_12 mw_313 mhX1_init ⟨Nat.le_of_ble_eq_true rfl, Nat.le_of_ble_eq_true rfl⟩) hx hb hml hown hn hK hPc hDc mw_314 rfl rfl hl.1 (Nat.le_of_ble_eq_true rfl) dX3_init_122 ⟨(Nat.le_of_ble_eq_true rfl), (Nat.le_of_ble_eq_true rfl)⟩) hP hD hS hA rfl rfl (by decide) (by decide) (Nat.le_of_ble_eq_true rfl) (Nat.le_of_ble_eq_true rfl) (fun u_54 H locs hp_55 hP hD hS => ?_)
  have hP : va_P D vwCl [(h0, .inr (3, [.ref q_1, .ref q_2, .ref q_3, .ref q_4, .ref q_5, .ref q_6, .ref q_7, .ref q_8, .ref q_9, .ref q_13, .ref q_17, .long 0, .ref p0, .int (-1)])), (q_8, .inl (ct 4, 11, .inr (.inr (.inr (.inr f_50))))), (q_52, .inr (1, [.int 0, .long 0, .long 0, .long 0, .long 0]))] _ := hP
  have hD : va_D A [(h0, .inr (3, [.ref q_1, .ref q_2, .ref q_3, .ref q_4, .ref q_5, .ref q_6, .ref q_7, .ref q_8, .ref q_9, .ref q_13, .ref q_17, .long 0, .ref p0, .int (-1)])), (q_8, .inl (ct 4, 11, .inr (.inr (.inr (.inr f_50))))), (q_52, .inr (1, [.int 0, .long 0, .long 0, .long 0, .long 0]))] := hD
  refine va_astq hx hb hK hP hD hS 1 4 2 1 (r := (RX1, TX1, 5)) rfl rfl rfl rfl (vp_in_iff.mpr (by decide)) dX3_init_125 (fun H locs hP hD hS => ?_)
  have hP : va_P D vwCl [(h0, .inr (3, [.ref q_1, .ref q_2, .ref q_3, .ref q_4, .ref q_5, .ref q_6, .ref q_7, .ref q_8, .ref q_9, .ref q_13, .ref q_17, .long 0, .ref p0, .int (-1)])), (q_8, .inl (ct 4, 11, .inr (.inr (.inr (.inr (va_up f_50 (5 : Int32).toNatClampNeg (some q_52))))))), (q_52, .inr (1, [.int 0, .long 0, .long 0, .long 0, .long 0]))] _ := hP
  have hD : va_D A [(h0, .inr (3, [.ref q_1, .ref q_2, .ref q_3, .ref q_4, .ref q_5, .ref q_6, .ref q_7, .ref q_8, .ref q_9, .ref q_13, .ref q_17, .long 0, .ref p0, .int (-1)])), (q_8, .inl (ct 4, 11, .inr (.inr (.inr (.inr (va_up f_50 (5 : Int32).toNatClampNeg (some q_52))))))), (q_52, .inr (1, [.int 0, .long 0, .long 0, .long 0, .long 0]))] := hD
  generalize (va_up f_50 (5 : Int32).toNatClampNeg (some q_52)) = f_56 at hP hD
  have hP := hP.sub (ws' := [(h0, .inr (3, [.ref q_1, .ref q_2, .ref q_3, .ref q_4, .ref q_5, .ref q_6, .ref q_7, .ref q_8, .ref q_9, .ref q_13, .ref q_17, .long 0, .ref p0, .int (-1)])), (q_8, .inl (ct 4, 11, .inr (.inr (.inr (.inr f_56)))))]) [0, 1] rfl
  have hD := hD.sub (ws' := [(h0, .inr (3, [.ref q_1, .ref q_2, .ref q_3, .ref q_4, .ref q_5, .ref q_6, .ref q_7, .ref q_8, .ref q_9, .ref q_13, .ref q_17, .long 0, .ref p0, .int (-1)])), (q_8, .inl (ct 4, 11, .inr (.inr (.inr (.inr f_56)))))]) [0, 1] (by decide) rfl
  refine lv_iinc (v := 6) (lv' := [(2, .int 6), (0, .ref h0), (1, .ref p0)]) hx hb dX3_init_126 hl (k := 0) rfl (by decide) (by decide) rfl (fun ls hl => ?_)
  refine lv_goto (tgt := 107) hx hb dX3_init_129 (by decide) ?_
  refine lv_iload_n hx hb dX3_init_107 rfl (lv_at hl 0 rfl) ?_
  refine lv_bipush (v := 11) hx hb dX3_init_108 (by decide) ?_
  refine lv_icmp_ge (tgt := 132) hx hb dX3_init_110 (by decide) (fun c_57 => absurd c_57 (by decide)) (fun c_57 => ?_)
  refine lv_aload_n hx hb dX3_init_113 rfl (lv_at hl 1 rfl) ?_
  refine va_get (D := D) (ci := 3) (v := .ref q_8) (C := RX3) (T := TX3) (N := 14) hx hb (htX3 hn) (fun _ h => h) hown hK hP 0 rfl rfl 7 (by decide) (hn.get mw_345 rfl) (fun _ h9 => h9) rfl dX3_init_114 ?_
  refine lv_iload_n hx hb dX3_init_117 rfl (lv_at hl 0 rfl) ?_
  refine W.widen (k := 17) (n := 56) (Nat.le_of_ble_eq_true rfl) (Nat.le_of_ble_eq_true rfl) ?_
  refine va_new (ci := 1) (fs := [.int 0, .long 0, .long 0, .long 0, .long 0]) (C := RX1) (T := TX1) (N := 5) hx hb (htX1 hn) (fun _ h => h) tyX1 tyX1_ok hown (hn.get mw_310 rfl) (hn.get mw_312 rfl) (hn.get mw_12 rfl) hK hP hD hS hA rfl (dfX1) (Nat.le_of_ble_eq_true rfl) (Nat.le_of_ble_eq_true rfl) dX3_init_118 (fun q_58 H hP hD hS => ?_)
  refine W.widen (k := 18) (n := 61) (Nat.le_of_ble_eq_true rfl) (Nat.le_of_ble_eq_true rfl) ?_
  have hP : va_P D vwCl [(h0, .inr (3, [.ref q_1, .ref q_2, .ref q_3, .ref q_4, .ref q_5, .ref q_6, .ref q_7, .ref q_8, .ref q_9, .ref q_13, .ref q_17, .long 0, .ref p0, .int (-1)])), (q_8, .inl (ct 4, 11, .inr (.inr (.inr (.inr f_56))))), (q_58, .inr (1, [.int 0, .long 0, .long 0, .long 0, .long 0]))] _ := hP
  have hD : va_D A [(h0, .inr (3, [.ref q_1, .ref q_2, .ref q_3, .ref q_4, .ref q_5, .ref q_6, .ref q_7, .ref q_8, .ref q_9, .ref q_13, .ref q_17, .long 0, .ref p0, .int (-1)])), (q_8, .inl (ct 4, 11, .inr (.inr (.inr (.inr f_56))))), (q_58, .inr (1, [.int 0, .long 0, .long 0, .long 0, .long 0]))] := hD
  refine lv_dup hx hb dX3_init_121 rfl ?_
  have hPc := hP.sub (ws' := [(q_58, .inr (1, [.int 0, .long 0, .long 0, .long 0, .long 0]))]) [2] rfl
  have hDc := hD.sub (ws' := [(q_58, .inr (1, [.int 0, .long 0, .long 0, .long 0, .long 0]))]) [2] (by decide) rfl
  refine go_v (k1 := 18) (n1 := 61) (wr := [(h0, .inr (3, [.ref q_1, .ref q_2, .ref q_3, .ref q_4, .ref q_5, .ref q_6, .ref q_7, .ref q_8, .ref q_9, .ref q_13, .ref q_17, .long 0, .ref p0, .int (-1)])), (q_8, .inl (ct 4, 11, .inr (.inr (.inr (.inr f_56)))))]) [2] [0, 1] (rn_IN (As := []) (rest := [.ref q_58, .int 6, .ref q_8]) (c_X1_init l D ct q_58  _) (cn_of (n := 0) hn mw_315 mw_12 mw_313 mhX1_init ⟨Nat.le_of_ble_eq_true rfl, Nat.le_of_ble_eq_true rfl⟩) hx hb hml hown hn hK hPc hDc mw_314 rfl rfl hl.1 (Nat.le_of_ble_eq_true rfl) dX3_init_122 ⟨(Nat.le_of_ble_eq_true rfl), (Nat.le_of_ble_eq_true rfl)⟩) hP hD hS hA rfl rfl (by decide) (by decide) (Nat.le_of_ble_eq_true rfl) (Nat.le_of_ble_eq_true rfl) (fun u_60 H locs hp_61 hP hD hS => ?_)
  have hP : va_P D vwCl [(h0, .inr (3, [.ref q_1, .ref q_2, .ref q_3, .ref q_4, .ref q_5, .ref q_6, .ref q_7, .ref q_8, .ref q_9, .ref q_13, .ref q_17, .long 0, .ref p0, .int (-1)])), (q_8, .inl (ct 4, 11, .inr (.inr (.inr (.inr f_56))))), (q_58, .inr (1, [.int 0, .long 0, .long 0, .long 0, .long 0]))] _ := hP
  have hD : va_D A [(h0, .inr (3, [.ref q_1, .ref q_2, .ref q_3, .ref q_4, .ref q_5, .ref q_6, .ref q_7, .ref q_8, .ref q_9, .ref q_13, .ref q_17, .long 0, .ref p0, .int (-1)])), (q_8, .inl (ct 4, 11, .inr (.inr (.inr (.inr f_56))))), (q_58, .inr (1, [.int 0, .long 0, .long 0, .long 0, .long 0]))] := hD
  refine va_astq hx hb hK hP hD hS 1 4 2 1 (r := (RX1, TX1, 5)) rfl rfl rfl rfl (vp_in_iff.mpr (by decide)) dX3_init_125 (fun H locs hP hD hS => ?_)
  have hP : va_P D vwCl [(h0, .inr (3, [.ref q_1, .ref q_2, .ref q_3, .ref q_4, .ref q_5, .ref q_6, .ref q_7, .ref q_8, .ref q_9, .ref q_13, .ref q_17, .long 0, .ref p0, .int (-1)])), (q_8, .inl (ct 4, 11, .inr (.inr (.inr (.inr (va_up f_56 (6 : Int32).toNatClampNeg (some q_58))))))), (q_58, .inr (1, [.int 0, .long 0, .long 0, .long 0, .long 0]))] _ := hP
  have hD : va_D A [(h0, .inr (3, [.ref q_1, .ref q_2, .ref q_3, .ref q_4, .ref q_5, .ref q_6, .ref q_7, .ref q_8, .ref q_9, .ref q_13, .ref q_17, .long 0, .ref p0, .int (-1)])), (q_8, .inl (ct 4, 11, .inr (.inr (.inr (.inr (va_up f_56 (6 : Int32).toNatClampNeg (some q_58))))))), (q_58, .inr (1, [.int 0, .long 0, .long 0, .long 0, .long 0]))] := hD
  generalize (va_up f_56 (6 : Int32).toNatClampNeg (some q_58)) = f_62 at hP hD
  have hP := hP.sub (ws' := [(h0, .inr (3, [.ref q_1, .ref q_2, .ref q_3, .ref q_4, .ref q_5, .ref q_6, .ref q_7, .ref q_8, .ref q_9, .ref q_13, .ref q_17, .long 0, .ref p0, .int (-1)])), (q_8, .inl (ct 4, 11, .inr (.inr (.inr (.inr f_62)))))]) [0, 1] rfl
  have hD := hD.sub (ws' := [(h0, .inr (3, [.ref q_1, .ref q_2, .ref q_3, .ref q_4, .ref q_5, .ref q_6, .ref q_7, .ref q_8, .ref q_9, .ref q_13, .ref q_17, .long 0, .ref p0, .int (-1)])), (q_8, .inl (ct 4, 11, .inr (.inr (.inr (.inr f_62)))))]) [0, 1] (by decide) rfl
  refine lv_iinc (v := 7) (lv' := [(2, .int 7), (0, .ref h0), (1, .ref p0)]) hx hb dX3_init_126 hl (k := 0) rfl (by decide) (by decide) rfl (fun ls hl => ?_)
  refine lv_goto (tgt := 107) hx hb dX3_init_129 (by decide) ?_
  refine lv_iload_n hx hb dX3_init_107 rfl (lv_at hl 0 rfl) ?_
  refine lv_bipush (v := 11) hx hb dX3_init_108 (by decide) ?_
  refine lv_icmp_ge (tgt := 132) hx hb dX3_init_110 (by decide) (fun c_63 => absurd c_63 (by decide)) (fun c_63 => ?_)
  refine lv_aload_n hx hb dX3_init_113 rfl (lv_at hl 1 rfl) ?_
  refine va_get (D := D) (ci := 3) (v := .ref q_8) (C := RX3) (T := TX3) (N := 14) hx hb (htX3 hn) (fun _ h => h) hown hK hP 0 rfl rfl 7 (by decide) (hn.get mw_345 rfl) (fun _ h9 => h9) rfl dX3_init_114 ?_
  refine lv_iload_n hx hb dX3_init_117 rfl (lv_at hl 0 rfl) ?_
  refine W.widen (k := 18) (n := 61) (Nat.le_of_ble_eq_true rfl) (Nat.le_of_ble_eq_true rfl) ?_
  refine va_new (ci := 1) (fs := [.int 0, .long 0, .long 0, .long 0, .long 0]) (C := RX1) (T := TX1) (N := 5) hx hb (htX1 hn) (fun _ h => h) tyX1 tyX1_ok hown (hn.get mw_310 rfl) (hn.get mw_312 rfl) (hn.get mw_12 rfl) hK hP hD hS hA rfl (dfX1) (Nat.le_of_ble_eq_true rfl) (Nat.le_of_ble_eq_true rfl) dX3_init_118 (fun q_64 H hP hD hS => ?_)
  refine W.widen (k := 19) (n := 66) (Nat.le_of_ble_eq_true rfl) (Nat.le_of_ble_eq_true rfl) ?_
  have hP : va_P D vwCl [(h0, .inr (3, [.ref q_1, .ref q_2, .ref q_3, .ref q_4, .ref q_5, .ref q_6, .ref q_7, .ref q_8, .ref q_9, .ref q_13, .ref q_17, .long 0, .ref p0, .int (-1)])), (q_8, .inl (ct 4, 11, .inr (.inr (.inr (.inr f_62))))), (q_64, .inr (1, [.int 0, .long 0, .long 0, .long 0, .long 0]))] _ := hP
  have hD : va_D A [(h0, .inr (3, [.ref q_1, .ref q_2, .ref q_3, .ref q_4, .ref q_5, .ref q_6, .ref q_7, .ref q_8, .ref q_9, .ref q_13, .ref q_17, .long 0, .ref p0, .int (-1)])), (q_8, .inl (ct 4, 11, .inr (.inr (.inr (.inr f_62))))), (q_64, .inr (1, [.int 0, .long 0, .long 0, .long 0, .long 0]))] := hD
  refine lv_dup hx hb dX3_init_121 rfl ?_
  have hPc := hP.sub (ws' := [(q_64, .inr (1, [.int 0, .long 0, .long 0, .long 0, .long 0]))]) [2] rfl
  have hDc := hD.sub (ws' := [(q_64, .inr (1, [.int 0, .long 0, .long 0, .long 0, .long 0]))]) [2] (by decide) rfl
  refine go_v (k1 := 19) (n1 := 66) (wr := [(h0, .inr (3, [.ref q_1, .ref q_2, .ref q_3, .ref q_4, .ref q_5, .ref q_6, .ref q_7, .ref q_8, .ref q_9, .ref q_13, .ref q_17, .long 0, .ref p0, .int (-1)])), (q_8, .inl (ct 4, 11, .inr (.inr (.inr (.inr f_62)))))]) [2] [0, 1] (rn_IN (As := []) (rest := [.ref q_64, .int 7, .ref q_8]) (c_X1_init l D ct q_64  _) (cn_of (n := 0) hn mw_315 mw_12 mw_313 mhX1_init ⟨Nat.le_of_ble_eq_true rfl, Nat.le_of_ble_eq_true rfl⟩) hx hb hml hown hn hK hPc hDc mw_314 rfl rfl hl.1 (Nat.le_of_ble_eq_true rfl) dX3_init_122 ⟨(Nat.le_of_ble_eq_true rfl), (Nat.le_of_ble_eq_true rfl)⟩) hP hD hS hA rfl rfl (by decide) (by decide) (Nat.le_of_ble_eq_true rfl) (Nat.le_of_ble_eq_true rfl) (fun u_66 H locs hp_67 hP hD hS => ?_)
  have hP : va_P D vwCl [(h0, .inr (3, [.ref q_1, .ref q_2, .ref q_3, .ref q_4, .ref q_5, .ref q_6, .ref q_7, .ref q_8, .ref q_9, .ref q_13, .ref q_17, .long 0, .ref p0, .int (-1)])), (q_8, .inl (ct 4, 11, .inr (.inr (.inr (.inr f_62))))), (q_64, .inr (1, [.int 0, .long 0, .long 0, .long 0, .long 0]))] _ := hP
  have hD : va_D A [(h0, .inr (3, [.ref q_1, .ref q_2, .ref q_3, .ref q_4, .ref q_5, .ref q_6, .ref q_7, .ref q_8, .ref q_9, .ref q_13, .ref q_17, .long 0, .ref p0, .int (-1)])), (q_8, .inl (ct 4, 11, .inr (.inr (.inr (.inr f_62))))), (q_64, .inr (1, [.int 0, .long 0, .long 0, .long 0, .long 0]))] := hD
  refine va_astq hx hb hK hP hD hS 1 4 2 1 (r := (RX1, TX1, 5)) rfl rfl rfl rfl (vp_in_iff.mpr (by decide)) dX3_init_125 (fun H locs hP hD hS => ?_)
  have hP : va_P D vwCl [(h0, .inr (3, [.ref q_1, .ref q_2, .ref q_3, .ref q_4, .ref q_5, .ref q_6, .ref q_7, .ref q_8, .ref q_9, .ref q_13, .ref q_17, .long 0, .ref p0, .int (-1)])), (q_8, .inl (ct 4, 11, .inr (.inr (.inr (.inr (va_up f_62 (7 : Int32).toNatClampNeg (some q_64))))))), (q_64, .inr (1, [.int 0, .long 0, .long 0, .long 0, .long 0]))] _ := hP
  have hD : va_D A [(h0, .inr (3, [.ref q_1, .ref q_2, .ref q_3, .ref q_4, .ref q_5, .ref q_6, .ref q_7, .ref q_8, .ref q_9, .ref q_13, .ref q_17, .long 0, .ref p0, .int (-1)])), (q_8, .inl (ct 4, 11, .inr (.inr (.inr (.inr (va_up f_62 (7 : Int32).toNatClampNeg (some q_64))))))), (q_64, .inr (1, [.int 0, .long 0, .long 0, .long 0, .long 0]))] := hD
  generalize (va_up f_62 (7 : Int32).toNatClampNeg (some q_64)) = f_68 at hP hD
  have hP := hP.sub (ws' := [(h0, .inr (3, [.ref q_1, .ref q_2, .ref q_3, .ref q_4, .ref q_5, .ref q_6, .ref q_7, .ref q_8, .ref q_9, .ref q_13, .ref q_17, .long 0, .ref p0, .int (-1)])), (q_8, .inl (ct 4, 11, .inr (.inr (.inr (.inr f_68)))))]) [0, 1] rfl
  have hD := hD.sub (ws' := [(h0, .inr (3, [.ref q_1, .ref q_2, .ref q_3, .ref q_4, .ref q_5, .ref q_6, .ref q_7, .ref q_8, .ref q_9, .ref q_13, .ref q_17, .long 0, .ref p0, .int (-1)])), (q_8, .inl (ct 4, 11, .inr (.inr (.inr (.inr f_68)))))]) [0, 1] (by decide) rfl
  refine lv_iinc (v := 8) (lv' := [(2, .int 8), (0, .ref h0), (1, .ref p0)]) hx hb dX3_init_126 hl (k := 0) rfl (by decide) (by decide) rfl (fun ls hl => ?_)
  refine lv_goto (tgt := 107) hx hb dX3_init_129 (by decide) ?_
  refine lv_iload_n hx hb dX3_init_107 rfl (lv_at hl 0 rfl) ?_
  refine lv_bipush (v := 11) hx hb dX3_init_108 (by decide) ?_
  refine lv_icmp_ge (tgt := 132) hx hb dX3_init_110 (by decide) (fun c_69 => absurd c_69 (by decide)) (fun c_69 => ?_)
  refine lv_aload_n hx hb dX3_init_113 rfl (lv_at hl 1 rfl) ?_
  refine va_get (D := D) (ci := 3) (v := .ref q_8) (C := RX3) (T := TX3) (N := 14) hx hb (htX3 hn) (fun _ h => h) hown hK hP 0 rfl rfl 7 (by decide) (hn.get mw_345 rfl) (fun _ h9 => h9) rfl dX3_init_114 ?_
  refine lv_iload_n hx hb dX3_init_117 rfl (lv_at hl 0 rfl) ?_
  refine W.widen (k := 19) (n := 66) (Nat.le_of_ble_eq_true rfl) (Nat.le_of_ble_eq_true rfl) ?_
  refine va_new (ci := 1) (fs := [.int 0, .long 0, .long 0, .long 0, .long 0]) (C := RX1) (T := TX1) (N := 5) hx hb (htX1 hn) (fun _ h => h) tyX1 tyX1_ok hown (hn.get mw_310 rfl) (hn.get mw_312 rfl) (hn.get mw_12 rfl) hK hP hD hS hA rfl (dfX1) (Nat.le_of_ble_eq_true rfl) (Nat.le_of_ble_eq_true rfl) dX3_init_118 (fun q_70 H hP hD hS => ?_)
  refine W.widen (k := 20) (n := 71) (Nat.le_of_ble_eq_true rfl) (Nat.le_of_ble_eq_true rfl) ?_
  have hP : va_P D vwCl [(h0, .inr (3, [.ref q_1, .ref q_2, .ref q_3, .ref q_4, .ref q_5, .ref q_6, .ref q_7, .ref q_8, .ref q_9, .ref q_13, .ref q_17, .long 0, .ref p0, .int (-1)])), (q_8, .inl (ct 4, 11, .inr (.inr (.inr (.inr f_68))))), (q_70, .inr (1, [.int 0, .long 0, .long 0, .long 0, .long 0]))] _ := hP
  have hD : va_D A [(h0, .inr (3, [.ref q_1, .ref q_2, .ref q_3, .ref q_4, .ref q_5, .ref q_6, .ref q_7, .ref q_8, .ref q_9, .ref q_13, .ref q_17, .long 0, .ref p0, .int (-1)])), (q_8, .inl (ct 4, 11, .inr (.inr (.inr (.inr f_68))))), (q_70, .inr (1, [.int 0, .long 0, .long 0, .long 0, .long 0]))] := hD
  refine lv_dup hx hb dX3_init_121 rfl ?_
  have hPc := hP.sub (ws' := [(q_70, .inr (1, [.int 0, .long 0, .long 0, .long 0, .long 0]))]) [2] rfl
  have hDc := hD.sub (ws' := [(q_70, .inr (1, [.int 0, .long 0, .long 0, .long 0, .long 0]))]) [2] (by decide) rfl
  refine go_v (k1 := 20) (n1 := 71) (wr := [(h0, .inr (3, [.ref q_1, .ref q_2, .ref q_3, .ref q_4, .ref q_5, .ref q_6, .ref q_7, .ref q_8, .ref q_9, .ref q_13, .ref q_17, .long 0, .ref p0, .int (-1)])), (q_8, .inl (ct 4, 11, .inr (.inr (.inr (.inr f_68)))))]) [2] [0, 1] (rn_IN (As := []) (rest := [.ref q_70, .int 8, .ref q_8]) (c_X1_init l D ct q_70  _) (cn_of (n := 0) hn mw_315 mw_12 mw_313 mhX1_init ⟨Nat.le_of_ble_eq_true rfl, Nat.le_of_ble_eq_true rfl⟩) hx hb hml hown hn hK hPc hDc mw_314 rfl rfl hl.1 (Nat.le_of_ble_eq_true rfl) dX3_init_122 ⟨(Nat.le_of_ble_eq_true rfl), (Nat.le_of_ble_eq_true rfl)⟩) hP hD hS hA rfl rfl (by decide) (by decide) (Nat.le_of_ble_eq_true rfl) (Nat.le_of_ble_eq_true rfl) (fun u_72 H locs hp_73 hP hD hS => ?_)
  have hP : va_P D vwCl [(h0, .inr (3, [.ref q_1, .ref q_2, .ref q_3, .ref q_4, .ref q_5, .ref q_6, .ref q_7, .ref q_8, .ref q_9, .ref q_13, .ref q_17, .long 0, .ref p0, .int (-1)])), (q_8, .inl (ct 4, 11, .inr (.inr (.inr (.inr f_68))))), (q_70, .inr (1, [.int 0, .long 0, .long 0, .long 0, .long 0]))] _ := hP
  have hD : va_D A [(h0, .inr (3, [.ref q_1, .ref q_2, .ref q_3, .ref q_4, .ref q_5, .ref q_6, .ref q_7, .ref q_8, .ref q_9, .ref q_13, .ref q_17, .long 0, .ref p0, .int (-1)])), (q_8, .inl (ct 4, 11, .inr (.inr (.inr (.inr f_68))))), (q_70, .inr (1, [.int 0, .long 0, .long 0, .long 0, .long 0]))] := hD
  refine va_astq hx hb hK hP hD hS 1 4 2 1 (r := (RX1, TX1, 5)) rfl rfl rfl rfl (vp_in_iff.mpr (by decide)) dX3_init_125 (fun H locs hP hD hS => ?_)
  have hP : va_P D vwCl [(h0, .inr (3, [.ref q_1, .ref q_2, .ref q_3, .ref q_4, .ref q_5, .ref q_6, .ref q_7, .ref q_8, .ref q_9, .ref q_13, .ref q_17, .long 0, .ref p0, .int (-1)])), (q_8, .inl (ct 4, 11, .inr (.inr (.inr (.inr (va_up f_68 (8 : Int32).toNatClampNeg (some q_70))))))), (q_70, .inr (1, [.int 0, .long 0, .long 0, .long 0, .long 0]))] _ := hP
  have hD : va_D A [(h0, .inr (3, [.ref q_1, .ref q_2, .ref q_3, .ref q_4, .ref q_5, .ref q_6, .ref q_7, .ref q_8, .ref q_9, .ref q_13, .ref q_17, .long 0, .ref p0, .int (-1)])), (q_8, .inl (ct 4, 11, .inr (.inr (.inr (.inr (va_up f_68 (8 : Int32).toNatClampNeg (some q_70))))))), (q_70, .inr (1, [.int 0, .long 0, .long 0, .long 0, .long 0]))] := hD
  generalize (va_up f_68 (8 : Int32).toNatClampNeg (some q_70)) = f_74 at hP hD
  have hP := hP.sub (ws' := [(h0, .inr (3, [.ref q_1, .ref q_2, .ref q_3, .ref q_4, .ref q_5, .ref q_6, .ref q_7, .ref q_8, .ref q_9, .ref q_13, .ref q_17, .long 0, .ref p0, .int (-1)])), (q_8, .inl (ct 4, 11, .inr (.inr (.inr (.inr f_74)))))]) [0, 1] rfl
  have hD := hD.sub (ws' := [(h0, .inr (3, [.ref q_1, .ref q_2, .ref q_3, .ref q_4, .ref q_5, .ref q_6, .ref q_7, .ref q_8, .ref q_9, .ref q_13, .ref q_17, .long 0, .ref p0, .int (-1)])), (q_8, .inl (ct 4, 11, .inr (.inr (.inr (.inr f_74)))))]) [0, 1] (by decide) rfl
  refine lv_iinc (v := 9) (lv' := [(2, .int 9), (0, .ref h0), (1, .ref p0)]) hx hb dX3_init_126 hl (k := 0) rfl (by decide) (by decide) rfl (fun ls hl => ?_)
  refine lv_goto (tgt := 107) hx hb dX3_init_129 (by decide) ?_
  refine lv_iload_n hx hb dX3_init_107 rfl (lv_at hl 0 rfl) ?_
  refine lv_bipush (v := 11) hx hb dX3_init_108 (by decide) ?_
  refine lv_icmp_ge (tgt := 132) hx hb dX3_init_110 (by decide) (fun c_75 => absurd c_75 (by decide)) (fun c_75 => ?_)
  refine lv_aload_n hx hb dX3_init_113 rfl (lv_at hl 1 rfl) ?_
  refine va_get (D := D) (ci := 3) (v := .ref q_8) (C := RX3) (T := TX3) (N := 14) hx hb (htX3 hn) (fun _ h => h) hown hK hP 0 rfl rfl 7 (by decide) (hn.get mw_345 rfl) (fun _ h9 => h9) rfl dX3_init_114 ?_
  refine lv_iload_n hx hb dX3_init_117 rfl (lv_at hl 0 rfl) ?_
  refine W.widen (k := 20) (n := 71) (Nat.le_of_ble_eq_true rfl) (Nat.le_of_ble_eq_true rfl) ?_
  refine va_new (ci := 1) (fs := [.int 0, .long 0, .long 0, .long 0, .long 0]) (C := RX1) (T := TX1) (N := 5) hx hb (htX1 hn) (fun _ h => h) tyX1 tyX1_ok hown (hn.get mw_310 rfl) (hn.get mw_312 rfl) (hn.get mw_12 rfl) hK hP hD hS hA rfl (dfX1) (Nat.le_of_ble_eq_true rfl) (Nat.le_of_ble_eq_true rfl) dX3_init_118 (fun q_76 H hP hD hS => ?_)
  refine W.widen (k := 21) (n := 76) (Nat.le_of_ble_eq_true rfl) (Nat.le_of_ble_eq_true rfl) ?_
  have hP : va_P D vwCl [(h0, .inr (3, [.ref q_1, .ref q_2, .ref q_3, .ref q_4, .ref q_5, .ref q_6, .ref q_7, .ref q_8, .ref q_9, .ref q_13, .ref q_17, .long 0, .ref p0, .int (-1)])), (q_8, .inl (ct 4, 11, .inr (.inr (.inr (.inr f_74))))), (q_76, .inr (1, [.int 0, .long 0, .long 0, .long 0, .long 0]))] _ := hP
  have hD : va_D A [(h0, .inr (3, [.ref q_1, .ref q_2, .ref q_3, .ref q_4, .ref q_5, .ref q_6, .ref q_7, .ref q_8, .ref q_9, .ref q_13, .ref q_17, .long 0, .ref p0, .int (-1)])), (q_8, .inl (ct 4, 11, .inr (.inr (.inr (.inr f_74))))), (q_76, .inr (1, [.int 0, .long 0, .long 0, .long 0, .long 0]))] := hD
  refine lv_dup hx hb dX3_init_121 rfl ?_
  have hPc := hP.sub (ws' := [(q_76, .inr (1, [.int 0, .long 0, .long 0, .long 0, .long 0]))]) [2] rfl
  have hDc := hD.sub (ws' := [(q_76, .inr (1, [.int 0, .long 0, .long 0, .long 0, .long 0]))]) [2] (by decide) rfl
  refine go_v (k1 := 21) (n1 := 76) (wr := [(h0, .inr (3, [.ref q_1, .ref q_2, .ref q_3, .ref q_4, .ref q_5, .ref q_6, .ref q_7, .ref q_8, .ref q_9, .ref q_13, .ref q_17, .long 0, .ref p0, .int (-1)])), (q_8, .inl (ct 4, 11, .inr (.inr (.inr (.inr f_74)))))]) [2] [0, 1] (rn_IN (As := []) (rest := [.ref q_76, .int 9, .ref q_8]) (c_X1_init l D ct q_76  _) (cn_of (n := 0) hn mw_315 mw_12 mw_313 mhX1_init ⟨Nat.le_of_ble_eq_true rfl, Nat.le_of_ble_eq_true rfl⟩) hx hb hml hown hn hK hPc hDc mw_314 rfl rfl hl.1 (Nat.le_of_ble_eq_true rfl) dX3_init_122 ⟨(Nat.le_of_ble_eq_true rfl), (Nat.le_of_ble_eq_true rfl)⟩) hP hD hS hA rfl rfl (by decide) (by decide) (Nat.le_of_ble_eq_true rfl) (Nat.le_of_ble_eq_true rfl) (fun u_78 H locs hp_79 hP hD hS => ?_)
  have hP : va_P D vwCl [(h0, .inr (3, [.ref q_1, .ref q_2, .ref q_3, .ref q_4, .ref q_5, .ref q_6, .ref q_7, .ref q_8, .ref q_9, .ref q_13, .ref q_17, .long 0, .ref p0, .int (-1)])), (q_8, .inl (ct 4, 11, .inr (.inr (.inr (.inr f_74))))), (q_76, .inr (1, [.int 0, .long 0, .long 0, .long 0, .long 0]))] _ := hP
  have hD : va_D A [(h0, .inr (3, [.ref q_1, .ref q_2, .ref q_3, .ref q_4, .ref q_5, .ref q_6, .ref q_7, .ref q_8, .ref q_9, .ref q_13, .ref q_17, .long 0, .ref p0, .int (-1)])), (q_8, .inl (ct 4, 11, .inr (.inr (.inr (.inr f_74))))), (q_76, .inr (1, [.int 0, .long 0, .long 0, .long 0, .long 0]))] := hD
  refine va_astq hx hb hK hP hD hS 1 4 2 1 (r := (RX1, TX1, 5)) rfl rfl rfl rfl (vp_in_iff.mpr (by decide)) dX3_init_125 (fun H locs hP hD hS => ?_)
  have hP : va_P D vwCl [(h0, .inr (3, [.ref q_1, .ref q_2, .ref q_3, .ref q_4, .ref q_5, .ref q_6, .ref q_7, .ref q_8, .ref q_9, .ref q_13, .ref q_17, .long 0, .ref p0, .int (-1)])), (q_8, .inl (ct 4, 11, .inr (.inr (.inr (.inr (va_up f_74 (9 : Int32).toNatClampNeg (some q_76))))))), (q_76, .inr (1, [.int 0, .long 0, .long 0, .long 0, .long 0]))] _ := hP
  have hD : va_D A [(h0, .inr (3, [.ref q_1, .ref q_2, .ref q_3, .ref q_4, .ref q_5, .ref q_6, .ref q_7, .ref q_8, .ref q_9, .ref q_13, .ref q_17, .long 0, .ref p0, .int (-1)])), (q_8, .inl (ct 4, 11, .inr (.inr (.inr (.inr (va_up f_74 (9 : Int32).toNatClampNeg (some q_76))))))), (q_76, .inr (1, [.int 0, .long 0, .long 0, .long 0, .long 0]))] := hD
  generalize (va_up f_74 (9 : Int32).toNatClampNeg (some q_76)) = f_80 at hP hD
  have hP := hP.sub (ws' := [(h0, .inr (3, [.ref q_1, .ref q_2, .ref q_3, .ref q_4, .ref q_5, .ref q_6, .ref q_7, .ref q_8, .ref q_9, .ref q_13, .ref q_17, .long 0, .ref p0, .int (-1)])), (q_8, .inl (ct 4, 11, .inr (.inr (.inr (.inr f_80)))))]) [0, 1] rfl
  have hD := hD.sub (ws' := [(h0, .inr (3, [.ref q_1, .ref q_2, .ref q_3, .ref q_4, .ref q_5, .ref q_6, .ref q_7, .ref q_8, .ref q_9, .ref q_13, .ref q_17, .long 0, .ref p0, .int (-1)])), (q_8, .inl (ct 4, 11, .inr (.inr (.inr (.inr f_80)))))]) [0, 1] (by decide) rfl
  refine lv_iinc (v := 10) (lv' := [(2, .int 10), (0, .ref h0), (1, .ref p0)]) hx hb dX3_init_126 hl (k := 0) rfl (by decide) (by decide) rfl (fun ls hl => ?_)
  refine lv_goto (tgt := 107) hx hb dX3_init_129 (by decide) ?_
  refine lv_iload_n hx hb dX3_init_107 rfl (lv_at hl 0 rfl) ?_
  refine lv_bipush (v := 11) hx hb dX3_init_108 (by decide) ?_
  refine lv_icmp_ge (tgt := 132) hx hb dX3_init_110 (by decide) (fun c_81 => absurd c_81 (by decide)) (fun c_81 => ?_)
  refine lv_aload_n hx hb dX3_init_113 rfl (lv_at hl 1 rfl) ?_
  refine va_get (D := D) (ci := 3) (v := .ref q_8) (C := RX3) (T := TX3) (N := 14) hx hb (htX3 hn) (fun _ h => h) hown hK hP 0 rfl rfl 7 (by decide) (hn.get mw_345 rfl) (fun _ h9 => h9) rfl dX3_init_114 ?_
  refine lv_iload_n hx hb dX3_init_117 rfl (lv_at hl 0 rfl) ?_
  refine W.widen (k := 21) (n := 76) (Nat.le_of_ble_eq_true rfl) (Nat.le_of_ble_eq_true rfl) ?_
  refine va_new (ci := 1) (fs := [.int 0, .long 0, .long 0, .long 0, .long 0]) (C := RX1) (T := TX1) (N := 5) hx hb (htX1 hn) (fun _ h => h) tyX1 tyX1_ok hown (hn.get mw_310 rfl) (hn.get mw_312 rfl) (hn.get mw_12 rfl) hK hP hD hS hA rfl (dfX1) (Nat.le_of_ble_eq_true rfl) (Nat.le_of_ble_eq_true rfl) dX3_init_118 (fun q_82 H hP hD hS => ?_)
  refine W.widen (k := 22) (n := 81) (Nat.le_of_ble_eq_true rfl) (Nat.le_of_ble_eq_true rfl) ?_
  have hP : va_P D vwCl [(h0, .inr (3, [.ref q_1, .ref q_2, .ref q_3, .ref q_4, .ref q_5, .ref q_6, .ref q_7, .ref q_8, .ref q_9, .ref q_13, .ref q_17, .long 0, .ref p0, .int (-1)])), (q_8, .inl (ct 4, 11, .inr (.inr (.inr (.inr f_80))))), (q_82, .inr (1, [.int 0, .long 0, .long 0, .long 0, .long 0]))] _ := hP
  have hD : va_D A [(h0, .inr (3, [.ref q_1, .ref q_2, .ref q_3, .ref q_4, .ref q_5, .ref q_6, .ref q_7, .ref q_8, .ref q_9, .ref q_13, .ref q_17, .long 0, .ref p0, .int (-1)])), (q_8, .inl (ct 4, 11, .inr (.inr (.inr (.inr f_80))))), (q_82, .inr (1, [.int 0, .long 0, .long 0, .long 0, .long 0]))] := hD
  refine lv_dup hx hb dX3_init_121 rfl ?_
  have hPc := hP.sub (ws' := [(q_82, .inr (1, [.int 0, .long 0, .long 0, .long 0, .long 0]))]) [2] rfl
  have hDc := hD.sub (ws' := [(q_82, .inr (1, [.int 0, .long 0, .long 0, .long 0, .long 0]))]) [2] (by decide) rfl
  refine go_v (k1 := 22) (n1 := 81) (wr := [(h0, .inr (3, [.ref q_1, .ref q_2, .ref q_3, .ref q_4, .ref q_5, .ref q_6, .ref q_7, .ref q_8, .ref q_9, .ref q_13, .ref q_17, .long 0, .ref p0, .int (-1)])), (q_8, .inl (ct 4, 11, .inr (.inr (.inr (.inr f_80)))))]) [2] [0, 1] (rn_IN (As := []) (rest := [.ref q_82, .int 10, .ref q_8]) (c_X1_init l D ct q_82  _) (cn_of (n := 0) hn mw_315 mw_12 mw_313 mhX1_init ⟨Nat.le_of_ble_eq_true rfl, Nat.le_of_ble_eq_true rfl⟩) hx hb hml hown hn hK hPc hDc mw_314 rfl rfl hl.1 (Nat.le_of_ble_eq_true rfl) dX3_init_122 ⟨(Nat.le_of_ble_eq_true rfl), (Nat.le_of_ble_eq_true rfl)⟩) hP hD hS hA rfl rfl (by decide) (by decide) (Nat.le_of_ble_eq_true rfl) (Nat.le_of_ble_eq_true rfl) (fun u_84 H locs hp_85 hP hD hS => ?_)
  have hP : va_P D vwCl [(h0, .inr (3, [.ref q_1, .ref q_2, .ref q_3, .ref q_4, .ref q_5, .ref q_6, .ref q_7, .ref q_8, .ref q_9, .ref q_13, .ref q_17, .long 0, .ref p0, .int (-1)])), (q_8, .inl (ct 4, 11, .inr (.inr (.inr (.inr f_80))))), (q_82, .inr (1, [.int 0, .long 0, .long 0, .long 0, .long 0]))] _ := hP
  have hD : va_D A [(h0, .inr (3, [.ref q_1, .ref q_2, .ref q_3, .ref q_4, .ref q_5, .ref q_6, .ref q_7, .ref q_8, .ref q_9, .ref q_13, .ref q_17, .long 0, .ref p0, .int (-1)])), (q_8, .inl (ct 4, 11, .inr (.inr (.inr (.inr f_80))))), (q_82, .inr (1, [.int 0, .long 0, .long 0, .long 0, .long 0]))] := hD
  refine va_astq hx hb hK hP hD hS 1 4 2 1 (r := (RX1, TX1, 5)) rfl rfl rfl rfl (vp_in_iff.mpr (by decide)) dX3_init_125 (fun H locs hP hD hS => ?_)
  have hP : va_P D vwCl [(h0, .inr (3, [.ref q_1, .ref q_2, .ref q_3, .ref q_4, .ref q_5, .ref q_6, .ref q_7, .ref q_8, .ref q_9, .ref q_13, .ref q_17, .long 0, .ref p0, .int (-1)])), (q_8, .inl (ct 4, 11, .inr (.inr (.inr (.inr (va_up f_80 (10 : Int32).toNatClampNeg (some q_82))))))), (q_82, .inr (1, [.int 0, .long 0, .long 0, .long 0, .long 0]))] _ := hP
  have hD : va_D A [(h0, .inr (3, [.ref q_1, .ref q_2, .ref q_3, .ref q_4, .ref q_5, .ref q_6, .ref q_7, .ref q_8, .ref q_9, .ref q_13, .ref q_17, .long 0, .ref p0, .int (-1)])), (q_8, .inl (ct 4, 11, .inr (.inr (.inr (.inr (va_up f_80 (10 : Int32).toNatClampNeg (some q_82))))))), (q_82, .inr (1, [.int 0, .long 0, .long 0, .long 0, .long 0]))] := hD
  generalize (va_up f_80 (10 : Int32).toNatClampNeg (some q_82)) = f_86 at hP hD
  have hP := hP.sub (ws' := [(h0, .inr (3, [.ref q_1, .ref q_2, .ref q_3, .ref q_4, .ref q_5, .ref q_6, .ref q_7, .ref q_8, .ref q_9, .ref q_13, .ref q_17, .long 0, .ref p0, .int (-1)])), (q_8, .inl (ct 4, 11, .inr (.inr (.inr (.inr f_86)))))]) [0, 1] rfl
  have hD := hD.sub (ws' := [(h0, .inr (3, [.ref q_1, .ref q_2, .ref q_3, .ref q_4, .ref q_5, .ref q_6, .ref q_7, .ref q_8, .ref q_9, .ref q_13, .ref q_17, .long 0, .ref p0, .int (-1)])), (q_8, .inl (ct 4, 11, .inr (.inr (.inr (.inr f_86)))))]) [0, 1] (by decide) rfl
  refine lv_iinc (v := 11) (lv' := [(2, .int 11), (0, .ref h0), (1, .ref p0)]) hx hb dX3_init_126 hl (k := 0) rfl (by decide) (by decide) rfl (fun ls hl => ?_)
  refine lv_goto (tgt := 107) hx hb dX3_init_129 (by decide) ?_
  refine lv_iload_n hx hb dX3_init_107 rfl (lv_at hl 0 rfl) ?_
  refine lv_bipush (v := 11) hx hb dX3_init_108 (by decide) ?_
  refine lv_icmp_ge (tgt := 132) hx hb dX3_init_110 (by decide) (fun c_87 => ?_) (fun c_87 => absurd (by decide) c_87)
  exact end_v hx hb hr hlocks dX3_init_132 (fun k => [q_1, q_2, q_3, q_4, q_5, q_6, q_7, q_8, q_9, q_13, q_17].getD k 0) trivial hP hD hS [0] rfl (by decide) rfl (Nat.le_of_ble_eq_true rfl) (Nat.le_of_ble_eq_true rfl)
set_option maxHeartbeats 4000000 in
set_option maxRecDepth 100000 in
theorem c_X11_init (l : Launch) (D : va_G) (ct : Nat → ClassId) (h0 : Nat)  : KV (S := Nat → Nat) l yX11_init cX11_init 1 none 4 62 D ct [.ref h0] [(h0, .inr (11, [.null, .null, .null, .null, .null, .null, .null, .null, .int 0, .null, .null, .null, .null, .null]))] 94 179502 (fun _ => True) (fun (u : Nat → Nat) => [(h0, .inr (11, [.ref (u 0), .ref (u 1), .ref (u 2), .ref (u 3), .ref (u 4), .ref (u 5), .ref (u 6), .ref (u 7), .int 0, .ref (u 8), .ref (u 9), .ref (u 10), .ref (u 11), .ref (u 12)])), ((u 0), .inr (9, [.ref (u 13), .int 0])), ((u 13), .inl (ct 0, 2000, .inl (fun _ => 0))), ((u 1), .inr (6, [.ref (u 14), .ref (u 15), .int 0])), ((u 15), .inl (ct 1, 16, .inl (fun _ => 0))), ((u 2), .inr (4, [.ref (u 16), .ref (u 17), .ref (u 1), .int 0, .int 0, .int 0, .int 0, .int 0, .long 0, .int 0])), ((u 17), .inl (ct 0, 64, .inl (fun _ => 0))), ((u 3), .inr (5, [.ref (u 18), .int 0])), ((u 5), .inr (2, [.ref (u 19), .ref (u 20), .ref (u 21), .int 0, .ref (u 22), .ref (u 23), .ref (u 24), .ref (u 25), .ref (u 26), .ref (u 27), .ref (u 28), .int 0, .int 0, .ref (u 29), .int 0, .ref (u 30), .int 0, .ref (u 31)])), ((u 29), .inl (ct 1, 5000, .inl (fun _ => 0))), ((u 6), .inr (7, [.ref (u 32), .int 0])), ((u 8), .inr (8, [.ref (u 0), .ref (u 5), .int 0, .int 0, .int 0, .int 0])), ((u 11), .inr (3, [.ref (u 33), .ref (u 34), .ref (u 35), .ref (u 36), .ref (u 37), .ref (u 38), .ref (u 39), .ref (u 40), .ref (u 41), .ref (u 42), .ref (u 43), .long 0, .ref (u 6), .int (-1)])), ((u 12), .inr (3, [.ref (u 44), .ref (u 45), .ref (u 46), .ref (u 47), .ref (u 48), .ref (u 49), .ref (u 50), .ref (u 51), .ref (u 52), .ref (u 53), .ref (u 54), .long 0, .ref (u 6), .int (-1)]))]) := by
  intro sz
  refine K_of (Qf := fun A => va_Qv (fun _ => True) (PoC D A (fun (u : Nat → Nat) => [(h0, .inr (11, [.ref (u 0), .ref (u 1), .ref (u 2), .ref (u 3), .ref (u 4), .ref (u 5), .ref (u 6), .ref (u 7), .int 0, .ref (u 8), .ref (u 9), .ref (u 10), .ref (u 11), .ref (u 12)])), ((u 0), .inr (9, [.ref (u 13), .int 0])), ((u 13), .inl (ct 0, 2000, .inl (fun _ => 0))), ((u 1), .inr (6, [.ref (u 14), .ref (u 15), .int 0])), ((u 15), .inl (ct 1, 16, .inl (fun _ => 0))), ((u 2), .inr (4, [.ref (u 16), .ref (u 17), .ref (u 1), .int 0, .int 0, .int 0, .int 0, .int 0, .long 0, .int 0])), ((u 17), .inl (ct 0, 64, .inl (fun _ => 0))), ((u 3), .inr (5, [.ref (u 18), .int 0])), ((u 5), .inr (2, [.ref (u 19), .ref (u 20), .ref (u 21), .int 0, .ref (u 22), .ref (u 23), .ref (u 24), .ref (u 25), .ref (u 26), .ref (u 27), .ref (u 28), .int 0, .int 0, .ref (u 29), .int 0, .ref (u 30), .int 0, .ref (u 31)])), ((u 29), .inl (ct 1, 5000, .inl (fun _ => 0))), ((u 6), .inr (7, [.ref (u 32), .int 0])), ((u 8), .inr (8, [.ref (u 0), .ref (u 5), .int 0, .int 0, .int 0, .int 0])), ((u 11), .inr (3, [.ref (u 33), .ref (u 34), .ref (u 35), .ref (u 36), .ref (u 37), .ref (u 38), .ref (u 39), .ref (u 40), .ref (u 41), .ref (u 42), .ref (u 43), .long 0, .ref (u 6), .int (-1)])), ((u 12), .inr (3, [.ref (u 44), .ref (u 45), .ref (u 46), .ref (u 47), .ref (u 48), .ref (u 49), .ref (u 50), .ref (u 51), .ref (u 52), .ref (u 53), .ref (u 54), .long 0, .ref (u 6), .int (-1)]))])) A) sz (by decide) (Nat.le_of_ble_eq_true rfl) (fun p e s m below meth c A C0 hA hS hP hD ls hl => ?_)
  obtain ⟨hx, hb, hr, hown, hin, hml, hlocks, hn, hK⟩ := C0
  have hl : lv_has ls 1 [(0, .ref h0)] := hl
  refine lv_aload_n hx hb dX11_init_0 rfl (lv_at hl 0 rfl) ?_
  refine W.objInit hx hb hown (hn.get mw_33 rfl) (hn.get mw_34 rfl) (hn.get mw_oi rfl) rfl (by rw [hml]; exact hl.1) rfl dX11_init_1 (Nat.le_of_ble_eq_true rfl) (Nat.le_of_ble_eq_true rfl) ?_
  refine W.eq (g2 := F0 m 4 ls []) rfl ?_
  refine lv_aload_n hx hb dX11_init_4 rfl (lv_at hl 0 rfl) ?_
  refine W.widen (k := 0) (n := 0) (Nat.le_of_ble_eq_true rfl) (Nat.le_of_ble_eq_true rfl) ?_
  refine va_new (ci := 9) (fs := [.null, .int 0]) (C := RX9) (T := TX9) (N := 2) hx hb (htX9 hn) (fun _ h => h) tyX9 tyX9_ok hown (hn.get mw_36 rfl) (hn.get mw_37 rfl) (hn.get mw_2 rfl) hK hP hD hS hA rfl (dfX9) (Nat.le_of_ble_eq_true rfl) (Nat.le_of_ble_eq_true rfl) dX11_init_5 (fun q_1 H hP hD hS => ?_)
  refine W.widen (k := 1) (n := 2) (Nat.le_of_ble_eq_true rfl) (Nat.le_of_ble_eq_true rfl) ?_
  have hP : va_P D vwCl [(h0, .inr (11, [.null, .null, .null, .null, .null, .null, .null, .null, .int 0, .null, .null, .null, .null, .null])), (q_1, .inr (9, [.null, .int 0]))] _ := hP
  have hD : va_D A [(h0, .inr (11, [.null, .null, .null, .null, .null, .null, .null, .null, .int 0, .null, .null, .null, .null, .null])), (q_1, .inr (9, [.null, .int 0]))] := hD
  refine lv_dup hx hb dX11_init_8 rfl ?_
  have hPc := hP.sub (ws' := [(q_1, .inr (9, [.null, .int 0]))]) [1] rfl
  have hDc := hD.sub (ws' := [(q_1, .inr (9, [.null, .int 0]))]) [1] (by decide) rfl
  refine go_v (k1 := 2) (n1 := 2002) (wr := [(h0, .inr (11, [.null, .null, .null, .null, .null, .null, .null, .null, .int 0, .null, .null, .null, .null, .null]))]) [1] [0] (rn_IN (As := []) (rest := [.ref q_1, .ref h0]) (c_X9_init l D ct q_1  _) (cn_of (n := 0) hn mw_40 mw_2 mw_38 mhX9_init ⟨Nat.le_of_ble_eq_true rfl, Nat.le_of_ble_eq_true rfl⟩) hx hb hml hown hn hK hPc hDc mw_39 rfl rfl hl.1 (Nat.le_of_ble_eq_true rfl) dX11_init_9 ⟨(Nat.le_of_ble_eq_true rfl), (Nat.le_of_ble_eq_true rfl)⟩) hP hD hS hA rfl rfl (by decide) (by decide) (Nat.le_of_ble_eq_true rfl) (Nat.le_of_ble_eq_true rfl) (fun u_3 H locs hp_4 hP hD hS => ?_)
  obtain ⟨r_5, rfl⟩ : ∃ z, z = u_3 := ⟨_, rfl⟩
  have hP : va_P D vwCl [(h0, .inr (11, [.null, .null, .null, .null, .null, .null, .null, .null, .int 0, .null, .null, .null, .null, .null])), (q_1, .inr (9, [.ref r_5, .int 0])), (r_5, .inl (ct 0, 2000, .inl (fun _ => 0)))] _ := hP
  have hD : va_D A [(h0, .inr (11, [.null, .null, .null, .null, .null, .null, .null, .null, .int 0, .null, .null, .null, .null, .null])), (q_1, .inr (9, [.ref r_5, .int 0])), (r_5, .inl (ct 0, 2000, .inl (fun _ => 0)))] := hD
  refine va_putF (D := D) (ci := 11) (v := .ref q_1) (ty := .object "FilterForge$Tape") (C := RX11) (T := TX11) (N := 14) hx hb (htX11 hn) (fun _ h => h) tyX11 tyX11_ok nmX11 hown hK hP hD hS 0 rfl rfl 0 (by decide) (hn.get mw_381 rfl) (fun _ h9 => h9) rfl hin rfl (by decide +kernel) rfl rfl (Nat.le_of_ble_eq_true rfl) dX11_init_12 (fun H locs hP hD hS => ?_)
  have hP : va_P D vwCl [(h0, .inr (11, [.ref q_1, .null, .null, .null, .null, .null, .null, .null, .int 0, .null, .null, .null, .null, .null])), (q_1, .inr (9, [.ref r_5, .int 0])), (r_5, .inl (ct 0, 2000, .inl (fun _ => 0)))] _ := hP
  have hD : va_D A [(h0, .inr (11, [.ref q_1, .null, .null, .null, .null, .null, .null, .null, .int 0, .null, .null, .null, .null, .null])), (q_1, .inr (9, [.ref r_5, .int 0])), (r_5, .inl (ct 0, 2000, .inl (fun _ => 0)))] := hD
  refine lv_aload_n hx hb dX11_init_15 rfl (lv_at hl 0 rfl) ?_
  refine W.widen (k := 2) (n := 2002) (Nat.le_of_ble_eq_true rfl) (Nat.le_of_ble_eq_true rfl) ?_
  refine va_new (ci := 6) (fs := [.null, .null, .int 0]) (C := RX6) (T := TX6) (N := 3) hx hb (htX6 hn) (fun _ h => h) tyX6 tyX6_ok hown (hn.get mw_55 rfl) (hn.get mw_56 rfl) (hn.get mw_3 rfl) hK hP hD hS hA rfl (dfX6) (Nat.le_of_ble_eq_true rfl) (Nat.le_of_ble_eq_true rfl) dX11_init_16 (fun q_6 H hP hD hS => ?_)
  refine W.widen (k := 3) (n := 2005) (Nat.le_of_ble_eq_true rfl) (Nat.le_of_ble_eq_true rfl) ?_
  have hP : va_P D vwCl [(h0, .inr (11, [.ref q_1, .null, .null, .null, .null, .null, .null, .null, .int 0, .null, .null, .null, .null, .null])), (q_1, .inr (9, [.ref r_5, .int 0])), (r_5, .inl (ct 0, 2000, .inl (fun _ => 0))), (q_6, .inr (6, [.null, .null, .int 0]))] _ := hP
  have hD : va_D A [(h0, .inr (11, [.ref q_1, .null, .null, .null, .null, .null, .null, .null, .int 0, .null, .null, .null, .null, .null])), (q_1, .inr (9, [.ref r_5, .int 0])), (r_5, .inl (ct 0, 2000, .inl (fun _ => 0))), (q_6, .inr (6, [.null, .null, .int 0]))] := hD
  refine lv_dup hx hb dX11_init_19 rfl ?_
  have hPc := hP.sub (ws' := [(q_6, .inr (6, [.null, .null, .int 0]))]) [3] rfl
  have hDc := hD.sub (ws' := [(q_6, .inr (6, [.null, .null, .int 0]))]) [3] (by decide) rfl
  refine go_v (k1 := 5) (n1 := 6117) (wr := [(h0, .inr (11, [.ref q_1, .null, .null, .null, .null, .null, .null, .null, .int 0, .null, .null, .null, .null, .null])), (q_1, .inr (9, [.ref r_5, .int 0])), (r_5, .inl (ct 0, 2000, .inl (fun _ => 0)))]) [3] [0, 1, 2] (rn_IN (As := []) (rest := [.ref q_6, .ref h0]) (c_X6_init l D ct q_6  _) (cn_of (n := 0) hn mw_59 mw_3 mw_57 mhX6_init ⟨Nat.le_of_ble_eq_true rfl, Nat.le_of_ble_eq_true rfl⟩) hx hb hml hown hn hK hPc hDc mw_58 rfl rfl hl.1 (Nat.le_of_ble_eq_true rfl) dX11_init_20 ⟨(Nat.le_of_ble_eq_true rfl), (Nat.le_of_ble_eq_true rfl)⟩) hP hD hS hA rfl rfl (by decide) (by decide) (Nat.le_of_ble_eq_true rfl) (Nat.le_of_ble_eq_true rfl) (fun u_8 H locs hp_9 hP hD hS => ?_)
  obtain ⟨a_10, b_11⟩ := u_8
  have hP : va_P D vwCl [(h0, .inr (11, [.ref q_1, .null, .null, .null, .null, .null, .null, .null, .int 0, .null, .null, .null, .null, .null])), (q_1, .inr (9, [.ref r_5, .int 0])), (r_5, .inl (ct 0, 2000, .inl (fun _ => 0))), (q_6, .inr (6, [.ref a_10, .ref b_11, .int 0])), (a_10, .inl (ct 0, 4096, .inl (fun _ => 0))), (b_11, .inl (ct 1, 16, .inl (fun _ => 0)))] _ := hP
  have hD : va_D A [(h0, .inr (11, [.ref q_1, .null, .null, .null, .null, .null, .null, .null, .int 0, .null, .null, .null, .null, .null])), (q_1, .inr (9, [.ref r_5, .int 0])), (r_5, .inl (ct 0, 2000, .inl (fun _ => 0))), (q_6, .inr (6, [.ref a_10, .ref b_11, .int 0])), (a_10, .inl (ct 0, 4096, .inl (fun _ => 0))), (b_11, .inl (ct 1, 16, .inl (fun _ => 0)))] := hD
  refine va_putF (D := D) (ci := 11) (v := .ref q_6) (ty := .object "FilterForge$Packets") (C := RX11) (T := TX11) (N := 14) hx hb (htX11 hn) (fun _ h => h) tyX11 tyX11_ok nmX11 hown hK hP hD hS 0 rfl rfl 1 (by decide) (hn.get mw_382 rfl) (fun _ h9 => h9) rfl hin rfl (by decide +kernel) rfl rfl (Nat.le_of_ble_eq_true rfl) dX11_init_23 (fun H locs hP hD hS => ?_)
  have hP : va_P D vwCl [(h0, .inr (11, [.ref q_1, .ref q_6, .null, .null, .null, .null, .null, .null, .int 0, .null, .null, .null, .null, .null])), (q_1, .inr (9, [.ref r_5, .int 0])), (r_5, .inl (ct 0, 2000, .inl (fun _ => 0))), (q_6, .inr (6, [.ref a_10, .ref b_11, .int 0])), (a_10, .inl (ct 0, 4096, .inl (fun _ => 0))), (b_11, .inl (ct 1, 16, .inl (fun _ => 0)))] _ := hP
  have hD : va_D A [(h0, .inr (11, [.ref q_1, .ref q_6, .null, .null, .null, .null, .null, .null, .int 0, .null, .null, .null, .null, .null])), (q_1, .inr (9, [.ref r_5, .int 0])), (r_5, .inl (ct 0, 2000, .inl (fun _ => 0))), (q_6, .inr (6, [.ref a_10, .ref b_11, .int 0])), (a_10, .inl (ct 0, 4096, .inl (fun _ => 0))), (b_11, .inl (ct 1, 16, .inl (fun _ => 0)))] := hD
  have hP := hP.sub (ws' := [(h0, .inr (11, [.ref q_1, .ref q_6, .null, .null, .null, .null, .null, .null, .int 0, .null, .null, .null, .null, .null])), (q_1, .inr (9, [.ref r_5, .int 0])), (r_5, .inl (ct 0, 2000, .inl (fun _ => 0))), (q_6, .inr (6, [.ref a_10, .ref b_11, .int 0])), (b_11, .inl (ct 1, 16, .inl (fun _ => 0)))]) [0, 1, 2, 3, 5] rfl
  have hD := hD.sub (ws' := [(h0, .inr (11, [.ref q_1, .ref q_6, .null, .null, .null, .null, .null, .null, .int 0, .null, .null, .null, .null, .null])), (q_1, .inr (9, [.ref r_5, .int 0])), (r_5, .inl (ct 0, 2000, .inl (fun _ => 0))), (q_6, .inr (6, [.ref a_10, .ref b_11, .int 0])), (b_11, .inl (ct 1, 16, .inl (fun _ => 0)))]) [0, 1, 2, 3, 5] (by decide) rfl
  refine lv_aload_n hx hb dX11_init_26 rfl (lv_at hl 0 rfl) ?_
  refine W.widen (k := 5) (n := 6117) (Nat.le_of_ble_eq_true rfl) (Nat.le_of_ble_eq_true rfl) ?_
  refine va_new (ci := 4) (fs := [.null, .null, .null, .int 0, .int 0, .int 0, .int 0, .int 0, .long 0, .int 0]) (C := RX4) (T := TX4) (N := 10) hx hb (htX4 hn) (fun _ h => h) tyX4 tyX4_ok hown (hn.get mw_73 rfl) (hn.get mw_74 rfl) (hn.get mw_4 rfl) hK hP hD hS hA rfl (dfX4) (Nat.le_of_ble_eq_true rfl) (Nat.le_of_ble_eq_true rfl) dX11_init_27 (fun q_12 H hP hD hS => ?_)
  refine W.widen (k := 6) (n := 6127) (Nat.le_of_ble_eq_true rfl) (Nat.le_of_ble_eq_true rfl) ?_
  have hP : va_P D vwCl [(h0, .inr (11, [.ref q_1, .ref q_6, .null, .null, .null, .null, .null, .null, .int 0, .null, .null, .null, .null, .null])), (q_1, .inr (9, [.ref r_5, .int 0])), (r_5, .inl (ct 0, 2000, .inl (fun _ => 0))), (q_6, .inr (6, [.ref a_10, .ref b_11, .int 0])), (b_11, .inl (ct 1, 16, .inl (fun _ => 0))), (q_12, .inr (4, [.null, .null, .null, .int 0, .int 0, .int 0, .int 0, .int 0, .long 0, .int 0]))] _ := hP
  have hD : va_D A [(h0, .inr (11, [.ref q_1, .ref q_6, .null, .null, .null, .null, .null, .null, .int 0, .null, .null, .null, .null, .null])), (q_1, .inr (9, [.ref r_5, .int 0])), (r_5, .inl (ct 0, 2000, .inl (fun _ => 0))), (q_6, .inr (6, [.ref a_10, .ref b_11, .int 0])), (b_11, .inl (ct 1, 16, .inl (fun _ => 0))), (q_12, .inr (4, [.null, .null, .null, .int 0, .int 0, .int 0, .int 0, .int 0, .long 0, .int 0]))] := hD
  refine lv_dup hx hb dX11_init_30 rfl ?_
  refine lv_aload_n hx hb dX11_init_31 rfl (lv_at hl 0 rfl) ?_
  refine va_get (D := D) (ci := 11) (v := .ref q_6) (C := RX11) (T := TX11) (N := 14) hx hb (htX11 hn) (fun _ h => h) hown hK hP 0 rfl rfl 1 (by decide) (hn.get mw_382 rfl) (fun _ h9 => h9) rfl dX11_init_32 ?_
  have hPc := hP.sub (ws' := [(q_12, .inr (4, [.null, .null, .null, .int 0, .int 0, .int 0, .int 0, .int 0, .long 0, .int 0]))]) [5] rfl
  have hDc := hD.sub (ws' := [(q_12, .inr (4, [.null, .null, .null, .int 0, .int 0, .int 0, .int 0, .int 0, .long 0, .int 0]))]) [5] (by decide) rfl
  refine go_v (k1 := 8) (n1 := 6223) (wr := [(h0, .inr (11, [.ref q_1, .ref q_6, .null, .null, .null, .null, .null, .null, .int 0, .null, .null, .null, .null, .null])), (q_1, .inr (9, [.ref r_5, .int 0])), (r_5, .inl (ct 0, 2000, .inl (fun _ => 0))), (q_6, .inr (6, [.ref a_10, .ref b_11, .int 0])), (b_11, .inl (ct 1, 16, .inl (fun _ => 0)))]) [5] [0, 1, 2, 3, 4] (rn_IN (As := [.ref q_6]) (rest := [.ref q_12, .ref h0]) (c_X4_init l D ct q_12 q_6  _) (cn_of (n := 1) hn mw_77 mw_4 mw_75 mhX4_init ⟨Nat.le_of_ble_eq_true rfl, Nat.le_of_ble_eq_true rfl⟩) hx hb hml hown hn hK hPc hDc mw_76 rfl rfl hl.1 (Nat.le_of_ble_eq_true rfl) dX11_init_35 ⟨(Nat.le_of_ble_eq_true rfl), (Nat.le_of_ble_eq_true rfl)⟩) hP hD hS hA rfl rfl (by decide) (by decide) (Nat.le_of_ble_eq_true rfl) (Nat.le_of_ble_eq_true rfl) (fun u_14 H locs hp_15 hP hD hS => ?_)
  obtain ⟨a_16, b_17⟩ := u_14
  have hP : va_P D vwCl [(h0, .inr (11, [.ref q_1, .ref q_6, .null, .null, .null, .null, .null, .null, .int 0, .null, .null, .null, .null, .null])), (q_1, .inr (9, [.ref r_5, .int 0])), (r_5, .inl (ct 0, 2000, .inl (fun _ => 0))), (q_6, .inr (6, [.ref a_10, .ref b_11, .int 0])), (b_11, .inl (ct 1, 16, .inl (fun _ => 0))), (q_12, .inr (4, [.ref a_16, .ref b_17, .ref q_6, .int 0, .int 0, .int 0, .int 0, .int 0, .long 0, .int 0])), (a_16, .inl (ct 2, 32, .inr (.inl (fun _ => 0)))), (b_17, .inl (ct 0, 64, .inl (fun _ => 0)))] _ := hP
  have hD : va_D A [(h0, .inr (11, [.ref q_1, .ref q_6, .null, .null, .null, .null, .null, .null, .int 0, .null, .null, .null, .null, .null])), (q_1, .inr (9, [.ref r_5, .int 0])), (r_5, .inl (ct 0, 2000, .inl (fun _ => 0))), (q_6, .inr (6, [.ref a_10, .ref b_11, .int 0])), (b_11, .inl (ct 1, 16, .inl (fun _ => 0))), (q_12, .inr (4, [.ref a_16, .ref b_17, .ref q_6, .int 0, .int 0, .int 0, .int 0, .int 0, .long 0, .int 0])), (a_16, .inl (ct 2, 32, .inr (.inl (fun _ => 0)))), (b_17, .inl (ct 0, 64, .inl (fun _ => 0)))] := hD
  refine va_putF (D := D) (ci := 11) (v := .ref q_12) (ty := .object "FilterForge$Machine") (C := RX11) (T := TX11) (N := 14) hx hb (htX11 hn) (fun _ h => h) tyX11 tyX11_ok nmX11 hown hK hP hD hS 0 rfl rfl 2 (by decide) (hn.get mw_383 rfl) (fun _ h9 => h9) rfl hin rfl (by decide +kernel) rfl rfl (Nat.le_of_ble_eq_true rfl) dX11_init_38 (fun H locs hP hD hS => ?_)
  have hP : va_P D vwCl [(h0, .inr (11, [.ref q_1, .ref q_6, .ref q_12, .null, .null, .null, .null, .null, .int 0, .null, .null, .null, .null, .null])), (q_1, .inr (9, [.ref r_5, .int 0])), (r_5, .inl (ct 0, 2000, .inl (fun _ => 0))), (q_6, .inr (6, [.ref a_10, .ref b_11, .int 0])), (b_11, .inl (ct 1, 16, .inl (fun _ => 0))), (q_12, .inr (4, [.ref a_16, .ref b_17, .ref q_6, .int 0, .int 0, .int 0, .int 0, .int 0, .long 0, .int 0])), (a_16, .inl (ct 2, 32, .inr (.inl (fun _ => 0)))), (b_17, .inl (ct 0, 64, .inl (fun _ => 0)))] _ := hP
  have hD : va_D A [(h0, .inr (11, [.ref q_1, .ref q_6, .ref q_12, .null, .null, .null, .null, .null, .int 0, .null, .null, .null, .null, .null])), (q_1, .inr (9, [.ref r_5, .int 0])), (r_5, .inl (ct 0, 2000, .inl (fun _ => 0))), (q_6, .inr (6, [.ref a_10, .ref b_11, .int 0])), (b_11, .inl (ct 1, 16, .inl (fun _ => 0))), (q_12, .inr (4, [.ref a_16, .ref b_17, .ref q_6, .int 0, .int 0, .int 0, .int 0, .int 0, .long 0, .int 0])), (a_16, .inl (ct 2, 32, .inr (.inl (fun _ => 0)))), (b_17, .inl (ct 0, 64, .inl (fun _ => 0)))] := hD
  have hP := hP.sub (ws' := [(h0, .inr (11, [.ref q_1, .ref q_6, .ref q_12, .null, .null, .null, .null, .null, .int 0, .null, .null, .null, .null, .null])), (q_1, .inr (9, [.ref r_5, .int 0])), (r_5, .inl (ct 0, 2000, .inl (fun _ => 0))), (q_6, .inr (6, [.ref a_10, .ref b_11, .int 0])), (b_11, .inl (ct 1, 16, .inl (fun _ => 0))), (q_12, .inr (4, [.ref a_16, .ref b_17, .ref q_6, .int 0, .int 0, .int 0, .int 0, .int 0, .long 0, .int 0])), (b_17, .inl (ct 0, 64, .inl (fun _ => 0)))]) [0, 1, 2, 3, 4, 5, 7] rfl
  have hD := hD.sub (ws' := [(h0, .inr (11, [.ref q_1, .ref q_6, .ref q_12, .null, .null, .null, .null, .null, .int 0, .null, .null, .null, .null, .null])), (q_1, .inr (9, [.ref r_5, .int 0])), (r_5, .inl (ct 0, 2000, .inl (fun _ => 0))), (q_6, .inr (6, [.ref a_10, .ref b_11, .int 0])), (b_11, .inl (ct 1, 16, .inl (fun _ => 0))), (q_12, .inr (4, [.ref a_16, .ref b_17, .ref q_6, .int 0, .int 0, .int 0, .int 0, .int 0, .long 0, .int 0])), (b_17, .inl (ct 0, 64, .inl (fun _ => 0)))]) [0, 1, 2, 3, 4, 5, 7] (by decide) rfl
  refine lv_aload_n hx hb dX11_init_41 rfl (lv_at hl 0 rfl) ?_
  refine W.widen (k := 8) (n := 6223) (Nat.le_of_ble_eq_true rfl) (Nat.le_of_ble_eq_true rfl) ?_
  refine va_new (ci := 5) (fs := [.null, .int 0]) (C := RX5) (T := TX5) (N := 2) hx hb (htX5 hn) (fun _ h => h) tyX5 tyX5_ok hown (hn.get mw_124 rfl) (hn.get mw_125 rfl) (hn.get mw_5 rfl) hK hP hD hS hA rfl (dfX5) (Nat.le_of_ble_eq_true rfl) (Nat.le_of_ble_eq_true rfl) dX11_init_42 (fun q_18 H hP hD hS => ?_)
  refine W.widen (k := 9) (n := 6225) (Nat.le_of_ble_eq_true rfl) (Nat.le_of_ble_eq_true rfl) ?_
  have hP : va_P D vwCl [(h0, .inr (11, [.ref q_1, .ref q_6, .ref q_12, .null, .null, .null, .null, .null, .int 0, .null, .null, .null, .null, .null])), (q_1, .inr (9, [.ref r_5, .int 0])), (r_5, .inl (ct 0, 2000, .inl (fun _ => 0))), (q_6, .inr (6, [.ref a_10, .ref b_11, .int 0])), (b_11, .inl (ct 1, 16, .inl (fun _ => 0))), (q_12, .inr (4, [.ref a_16, .ref b_17, .ref q_6, .int 0, .int 0, .int 0, .int 0, .int 0, .long 0, .int 0])), (b_17, .inl (ct 0, 64, .inl (fun _ => 0))), (q_18, .inr (5, [.null, .int 0]))] _ := hP
  have hD : va_D A [(h0, .inr (11, [.ref q_1, .ref q_6, .ref q_12, .null, .null, .null, .null, .null, .int 0, .null, .null, .null, .null, .null])), (q_1, .inr (9, [.ref r_5, .int 0])), (r_5, .inl (ct 0, 2000, .inl (fun _ => 0))), (q_6, .inr (6, [.ref a_10, .ref b_11, .int 0])), (b_11, .inl (ct 1, 16, .inl (fun _ => 0))), (q_12, .inr (4, [.ref a_16, .ref b_17, .ref q_6, .int 0, .int 0, .int 0, .int 0, .int 0, .long 0, .int 0])), (b_17, .inl (ct 0, 64, .inl (fun _ => 0))), (q_18, .inr (5, [.null, .int 0]))] := hD
  refine lv_dup hx hb dX11_init_45 rfl ?_
  have hPc := hP.sub (ws' := [(q_18, .inr (5, [.null, .int 0]))]) [7] rfl
  have hDc := hD.sub (ws' := [(q_18, .inr (5, [.null, .int 0]))]) [7] (by decide) rfl
  refine go_v (k1 := 10) (n1 := 66225) (wr := [(h0, .inr (11, [.ref q_1, .ref q_6, .ref q_12, .null, .null, .null, .null, .null, .int 0, .null, .null, .null, .null, .null])), (q_1, .inr (9, [.ref r_5, .int 0])), (r_5, .inl (ct 0, 2000, .inl (fun _ => 0))), (q_6, .inr (6, [.ref a_10, .ref b_11, .int 0])), (b_11, .inl (ct 1, 16, .inl (fun _ => 0))), (q_12, .inr (4, [.ref a_16, .ref b_17, .ref q_6, .int 0, .int 0, .int 0, .int 0, .int 0, .long 0, .int 0])), (b_17, .inl (ct 0, 64, .inl (fun _ => 0)))]) [7] [0, 1, 2, 3, 4, 5, 6] (rn_IN (As := []) (rest := [.ref q_18, .ref h0]) (c_X5_init l D ct q_18  _) (cn_of (n := 0) hn mw_128 mw_5 mw_126 mhX5_init ⟨Nat.le_of_ble_eq_true rfl, Nat.le_of_ble_eq_true rfl⟩) hx hb hml hown hn hK hPc hDc mw_127 rfl rfl hl.1 (Nat.le_of_ble_eq_true rfl) dX11_init_46 ⟨(Nat.le_of_ble_eq_true rfl), (Nat.le_of_ble_eq_true rfl)⟩) hP hD hS hA rfl rfl (by decide) (by decide) (Nat.le_of_ble_eq_true rfl) (Nat.le_of_ble_eq_true rfl) (fun u_20 H locs hp_21 hP hD hS => ?_)
  obtain ⟨r_22, rfl⟩ : ∃ z, z = u_20 := ⟨_, rfl⟩
  have hP : va_P D vwCl [(h0, .inr (11, [.ref q_1, .ref q_6, .ref q_12, .null, .null, .null, .null, .null, .int 0, .null, .null, .null, .null, .null])), (q_1, .inr (9, [.ref r_5, .int 0])), (r_5, .inl (ct 0, 2000, .inl (fun _ => 0))), (q_6, .inr (6, [.ref a_10, .ref b_11, .int 0])), (b_11, .inl (ct 1, 16, .inl (fun _ => 0))), (q_12, .inr (4, [.ref a_16, .ref b_17, .ref q_6, .int 0, .int 0, .int 0, .int 0, .int 0, .long 0, .int 0])), (b_17, .inl (ct 0, 64, .inl (fun _ => 0))), (q_18, .inr (5, [.ref r_22, .int 0])), (r_22, .inl (ct 1, 60000, .inl (fun _ => 0)))] _ := hP
  have hD : va_D A [(h0, .inr (11, [.ref q_1, .ref q_6, .ref q_12, .null, .null, .null, .null, .null, .int 0, .null, .null, .null, .null, .null])), (q_1, .inr (9, [.ref r_5, .int 0])), (r_5, .inl (ct 0, 2000, .inl (fun _ => 0))), (q_6, .inr (6, [.ref a_10, .ref b_11, .int 0])), (b_11, .inl (ct 1, 16, .inl (fun _ => 0))), (q_12, .inr (4, [.ref a_16, .ref b_17, .ref q_6, .int 0, .int 0, .int 0, .int 0, .int 0, .long 0, .int 0])), (b_17, .inl (ct 0, 64, .inl (fun _ => 0))), (q_18, .inr (5, [.ref r_22, .int 0])), (r_22, .inl (ct 1, 60000, .inl (fun _ => 0)))] := hD
  refine va_putF (D := D) (ci := 11) (v := .ref q_18) (ty := .object "FilterForge$ObjectCode") (C := RX11) (T := TX11) (N := 14) hx hb (htX11 hn) (fun _ h => h) tyX11 tyX11_ok nmX11 hown hK hP hD hS 0 rfl rfl 3 (by decide) (hn.get mw_384 rfl) (fun _ h9 => h9) rfl hin rfl (by decide +kernel) rfl rfl (Nat.le_of_ble_eq_true rfl) dX11_init_49 (fun H locs hP hD hS => ?_)
  have hP : va_P D vwCl [(h0, .inr (11, [.ref q_1, .ref q_6, .ref q_12, .ref q_18, .null, .null, .null, .null, .int 0, .null, .null, .null, .null, .null])), (q_1, .inr (9, [.ref r_5, .int 0])), (r_5, .inl (ct 0, 2000, .inl (fun _ => 0))), (q_6, .inr (6, [.ref a_10, .ref b_11, .int 0])), (b_11, .inl (ct 1, 16, .inl (fun _ => 0))), (q_12, .inr (4, [.ref a_16, .ref b_17, .ref q_6, .int 0, .int 0, .int 0, .int 0, .int 0, .long 0, .int 0])), (b_17, .inl (ct 0, 64, .inl (fun _ => 0))), (q_18, .inr (5, [.ref r_22, .int 0])), (r_22, .inl (ct 1, 60000, .inl (fun _ => 0)))] _ := hP
  have hD : va_D A [(h0, .inr (11, [.ref q_1, .ref q_6, .ref q_12, .ref q_18, .null, .null, .null, .null, .int 0, .null, .null, .null, .null, .null])), (q_1, .inr (9, [.ref r_5, .int 0])), (r_5, .inl (ct 0, 2000, .inl (fun _ => 0))), (q_6, .inr (6, [.ref a_10, .ref b_11, .int 0])), (b_11, .inl (ct 1, 16, .inl (fun _ => 0))), (q_12, .inr (4, [.ref a_16, .ref b_17, .ref q_6, .int 0, .int 0, .int 0, .int 0, .int 0, .long 0, .int 0])), (b_17, .inl (ct 0, 64, .inl (fun _ => 0))), (q_18, .inr (5, [.ref r_22, .int 0])), (r_22, .inl (ct 1, 60000, .inl (fun _ => 0)))] := hD
  have hP := hP.sub (ws' := [(h0, .inr (11, [.ref q_1, .ref q_6, .ref q_12, .ref q_18, .null, .null, .null, .null, .int 0, .null, .null, .null, .null, .null])), (q_1, .inr (9, [.ref r_5, .int 0])), (r_5, .inl (ct 0, 2000, .inl (fun _ => 0))), (q_6, .inr (6, [.ref a_10, .ref b_11, .int 0])), (b_11, .inl (ct 1, 16, .inl (fun _ => 0))), (q_12, .inr (4, [.ref a_16, .ref b_17, .ref q_6, .int 0, .int 0, .int 0, .int 0, .int 0, .long 0, .int 0])), (b_17, .inl (ct 0, 64, .inl (fun _ => 0))), (q_18, .inr (5, [.ref r_22, .int 0]))]) [0, 1, 2, 3, 4, 5, 6, 7] rfl
  have hD := hD.sub (ws' := [(h0, .inr (11, [.ref q_1, .ref q_6, .ref q_12, .ref q_18, .null, .null, .null, .null, .int 0, .null, .null, .null, .null, .null])), (q_1, .inr (9, [.ref r_5, .int 0])), (r_5, .inl (ct 0, 2000, .inl (fun _ => 0))), (q_6, .inr (6, [.ref a_10, .ref b_11, .int 0])), (b_11, .inl (ct 1, 16, .inl (fun _ => 0))), (q_12, .inr (4, [.ref a_16, .ref b_17, .ref q_6, .int 0, .int 0, .int 0, .int 0, .int 0, .long 0, .int 0])), (b_17, .inl (ct 0, 64, .inl (fun _ => 0))), (q_18, .inr (5, [.ref r_22, .int 0]))]) [0, 1, 2, 3, 4, 5, 6, 7] (by decide) rfl
  refine lv_aload_n hx hb dX11_init_52 rfl (lv_at hl 0 rfl) ?_
  refine W.widen (k := 10) (n := 66225) (Nat.le_of_ble_eq_true rfl) (Nat.le_of_ble_eq_true rfl) ?_
  refine va_new (ci := 2) (fs := [.null, .null, .null, .int 0, .null, .null, .null, .null, .null, .null, .null, .int 0, .int 0, .null, .int 0, .null, .int 0, .null]) (C := RX2) (T := TX2) (N := 18) hx hb (htX2 hn) (fun _ h => h) tyX2 tyX2_ok hown (hn.get mw_141 rfl) (hn.get mw_142 rfl) (hn.get mw_6 rfl) hK hP hD hS hA rfl (dfX2) (Nat.le_of_ble_eq_true rfl) (Nat.le_of_ble_eq_true rfl) dX11_init_53 (fun q_23 H hP hD hS => ?_)
  refine W.widen (k := 11) (n := 66243) (Nat.le_of_ble_eq_true rfl) (Nat.le_of_ble_eq_true rfl) ?_
  have hP : va_P D vwCl [(h0, .inr (11, [.ref q_1, .ref q_6, .ref q_12, .ref q_18, .null, .null, .null, .null, .int 0, .null, .null, .null, .null, .null])), (q_1, .inr (9, [.ref r_5, .int 0])), (r_5, .inl (ct 0, 2000, .inl (fun _ => 0))), (q_6, .inr (6, [.ref a_10, .ref b_11, .int 0])), (b_11, .inl (ct 1, 16, .inl (fun _ => 0))), (q_12, .inr (4, [.ref a_16, .ref b_17, .ref q_6, .int 0, .int 0, .int 0, .int 0, .int 0, .long 0, .int 0])), (b_17, .inl (ct 0, 64, .inl (fun _ => 0))), (q_18, .inr (5, [.ref r_22, .int 0])), (q_23, .inr (2, [.null, .null, .null, .int 0, .null, .null, .null, .null, .null, .null, .null, .int 0, .int 0, .null, .int 0, .null, .int 0, .null]))] _ := hP
  have hD : va_D A [(h0, .inr (11, [.ref q_1, .ref q_6, .ref q_12, .ref q_18, .null, .null, .null, .null, .int 0, .null, .null, .null, .null, .null])), (q_1, .inr (9, [.ref r_5, .int 0])), (r_5, .inl (ct 0, 2000, .inl (fun _ => 0))), (q_6, .inr (6, [.ref a_10, .ref b_11, .int 0])), (b_11, .inl (ct 1, 16, .inl (fun _ => 0))), (q_12, .inr (4, [.ref a_16, .ref b_17, .ref q_6, .int 0, .int 0, .int 0, .int 0, .int 0, .long 0, .int 0])), (b_17, .inl (ct 0, 64, .inl (fun _ => 0))), (q_18, .inr (5, [.ref r_22, .int 0])), (q_23, .inr (2, [.null, .null, .null, .int 0, .null, .null, .null, .null, .null, .null, .null, .int 0, .int 0, .null, .int 0, .null, .int 0, .null]))] := hD
  refine lv_dup hx hb dX11_init_56 rfl ?_
  have hPc := hP.sub (ws' := [(q_23, .inr (2, [.null, .null, .null, .int 0, .null, .null, .null, .null, .null, .null, .null, .int 0, .int 0, .null, .int 0, .null, .int 0, .null]))]) [8] rfl
  have hDc := hD.sub (ws' := [(q_23, .inr (2, [.null, .null, .null, .int 0, .null, .null, .null, .null, .null, .null, .null, .int 0, .int 0, .null, .int 0, .null, .int 0, .null]))]) [8] (by decide) rfl
  refine go_v (k1 := 24) (n1 := 113257) (wr := [(h0, .inr (11, [.ref q_1, .ref q_6, .ref q_12, .ref q_18, .null, .null, .null, .null, .int 0, .null, .null, .null, .null, .null])), (q_1, .inr (9, [.ref r_5, .int 0])), (r_5, .inl (ct 0, 2000, .inl (fun _ => 0))), (q_6, .inr (6, [.ref a_10, .ref b_11, .int 0])), (b_11, .inl (ct 1, 16, .inl (fun _ => 0))), (q_12, .inr (4, [.ref a_16, .ref b_17, .ref q_6, .int 0, .int 0, .int 0, .int 0, .int 0, .long 0, .int 0])), (b_17, .inl (ct 0, 64, .inl (fun _ => 0))), (q_18, .inr (5, [.ref r_22, .int 0]))]) [8] [0, 1, 2, 3, 4, 5, 6, 7] (rn_IN (As := []) (rest := [.ref q_23, .ref h0]) (c_X2_init l D ct q_23  _) (cn_of (n := 0) hn mw_145 mw_6 mw_143 mhX2_init ⟨Nat.le_of_ble_eq_true rfl, Nat.le_of_ble_eq_true rfl⟩) hx hb hml hown hn hK hPc hDc mw_144 rfl rfl hl.1 (Nat.le_of_ble_eq_true rfl) dX11_init_57 ⟨(Nat.le_of_ble_eq_true rfl), (Nat.le_of_ble_eq_true rfl)⟩) hP hD hS hA rfl rfl (by decide) (by decide) (Nat.le_of_ble_eq_true rfl) (Nat.le_of_ble_eq_true rfl) (fun u_25 H locs hp_26 hP hD hS => ?_)
  obtain ⟨a0_27, a1_28, a2_29, a4_30, a5_31, a6_32, a7_33, a8_34, a9_35, a10_36, a13_37, a15_38, a17_39⟩ := u_25
  have hP : va_P D vwCl [(h0, .inr (11, [.ref q_1, .ref q_6, .ref q_12, .ref q_18, .null, .null, .null, .null, .int 0, .null, .null, .null, .null, .null])), (q_1, .inr (9, [.ref r_5, .int 0])), (r_5, .inl (ct 0, 2000, .inl (fun _ => 0))), (q_6, .inr (6, [.ref a_10, .ref b_11, .int 0])), (b_11, .inl (ct 1, 16, .inl (fun _ => 0))), (q_12, .inr (4, [.ref a_16, .ref b_17, .ref q_6, .int 0, .int 0, .int 0, .int 0, .int 0, .long 0, .int 0])), (b_17, .inl (ct 0, 64, .inl (fun _ => 0))), (q_18, .inr (5, [.ref r_22, .int 0])), (q_23, .inr (2, [.ref a0_27, .ref a1_28, .ref a2_29, .int 0, .ref a4_30, .ref a5_31, .ref a6_32, .ref a7_33, .ref a8_34, .ref a9_35, .ref a10_36, .int 0, .int 0, .ref a13_37, .int 0, .ref a15_38, .int 0, .ref a17_39])), (a13_37, .inl (ct 1, 5000, .inl (fun _ => 0)))] _ := hP
  have hD : va_D A [(h0, .inr (11, [.ref q_1, .ref q_6, .ref q_12, .ref q_18, .null, .null, .null, .null, .int 0, .null, .null, .null, .null, .null])), (q_1, .inr (9, [.ref r_5, .int 0])), (r_5, .inl (ct 0, 2000, .inl (fun _ => 0))), (q_6, .inr (6, [.ref a_10, .ref b_11, .int 0])), (b_11, .inl (ct 1, 16, .inl (fun _ => 0))), (q_12, .inr (4, [.ref a_16, .ref b_17, .ref q_6, .int 0, .int 0, .int 0, .int 0, .int 0, .long 0, .int 0])), (b_17, .inl (ct 0, 64, .inl (fun _ => 0))), (q_18, .inr (5, [.ref r_22, .int 0])), (q_23, .inr (2, [.ref a0_27, .ref a1_28, .ref a2_29, .int 0, .ref a4_30, .ref a5_31, .ref a6_32, .ref a7_33, .ref a8_34, .ref a9_35, .ref a10_36, .int 0, .int 0, .ref a13_37, .int 0, .ref a15_38, .int 0, .ref a17_39])), (a13_37, .inl (ct 1, 5000, .inl (fun _ => 0)))] := hD
  refine va_put (D := D) (ci := 11) (v := .ref q_23) (ty := .object "FilterForge$Filter") (C := RX11) (T := TX11) (N := 14) hx hb (htX11 hn) (fun _ h => h) tyX11 tyX11_ok nmX11 hown hK hP hD hS 0 rfl rfl 4 (by decide) (hn.get mw_385 rfl) (fun _ h9 => h9) rfl (by decide +kernel) rfl rfl (Nat.le_of_ble_eq_true rfl) dX11_init_60 (fun H locs hP hD hS => ?_)
  have hP : va_P D vwCl [(h0, .inr (11, [.ref q_1, .ref q_6, .ref q_12, .ref q_18, .ref q_23, .null, .null, .null, .int 0, .null, .null, .null, .null, .null])), (q_1, .inr (9, [.ref r_5, .int 0])), (r_5, .inl (ct 0, 2000, .inl (fun _ => 0))), (q_6, .inr (6, [.ref a_10, .ref b_11, .int 0])), (b_11, .inl (ct 1, 16, .inl (fun _ => 0))), (q_12, .inr (4, [.ref a_16, .ref b_17, .ref q_6, .int 0, .int 0, .int 0, .int 0, .int 0, .long 0, .int 0])), (b_17, .inl (ct 0, 64, .inl (fun _ => 0))), (q_18, .inr (5, [.ref r_22, .int 0])), (q_23, .inr (2, [.ref a0_27, .ref a1_28, .ref a2_29, .int 0, .ref a4_30, .ref a5_31, .ref a6_32, .ref a7_33, .ref a8_34, .ref a9_35, .ref a10_36, .int 0, .int 0, .ref a13_37, .int 0, .ref a15_38, .int 0, .ref a17_39])), (a13_37, .inl (ct 1, 5000, .inl (fun _ => 0)))] _ := hP
  have hD : va_D A [(h0, .inr (11, [.ref q_1, .ref q_6, .ref q_12, .ref q_18, .ref q_23, .null, .null, .null, .int 0, .null, .null, .null, .null, .null])), (q_1, .inr (9, [.ref r_5, .int 0])), (r_5, .inl (ct 0, 2000, .inl (fun _ => 0))), (q_6, .inr (6, [.ref a_10, .ref b_11, .int 0])), (b_11, .inl (ct 1, 16, .inl (fun _ => 0))), (q_12, .inr (4, [.ref a_16, .ref b_17, .ref q_6, .int 0, .int 0, .int 0, .int 0, .int 0, .long 0, .int 0])), (b_17, .inl (ct 0, 64, .inl (fun _ => 0))), (q_18, .inr (5, [.ref r_22, .int 0])), (q_23, .inr (2, [.ref a0_27, .ref a1_28, .ref a2_29, .int 0, .ref a4_30, .ref a5_31, .ref a6_32, .ref a7_33, .ref a8_34, .ref a9_35, .ref a10_36, .int 0, .int 0, .ref a13_37, .int 0, .ref a15_38, .int 0, .ref a17_39])), (a13_37, .inl (ct 1, 5000, .inl (fun _ => 0)))] := hD
  have hP := hP.sub (ws' := [(h0, .inr (11, [.ref q_1, .ref q_6, .ref q_12, .ref q_18, .ref q_23, .null, .null, .null, .int 0, .null, .null, .null, .null, .null])), (q_1, .inr (9, [.ref r_5, .int 0])), (r_5, .inl (ct 0, 2000, .inl (fun _ => 0))), (q_6, .inr (6, [.ref a_10, .ref b_11, .int 0])), (b_11, .inl (ct 1, 16, .inl (fun _ => 0))), (q_12, .inr (4, [.ref a_16, .ref b_17, .ref q_6, .int 0, .int 0, .int 0, .int 0, .int 0, .long 0, .int 0])), (b_17, .inl (ct 0, 64, .inl (fun _ => 0))), (q_18, .inr (5, [.ref r_22, .int 0]))]) [0, 1, 2, 3, 4, 5, 6, 7] rfl
  have hD := hD.sub (ws' := [(h0, .inr (11, [.ref q_1, .ref q_6, .ref q_12, .ref q_18, .ref q_23, .null, .null, .null, .int 0, .null, .null, .null, .null, .null])), (q_1, .inr (9, [.ref r_5, .int 0])), (r_5, .inl (ct 0, 2000, .inl (fun _ => 0))), (q_6, .inr (6, [.ref a_10, .ref b_11, .int 0])), (b_11, .inl (ct 1, 16, .inl (fun _ => 0))), (q_12, .inr (4, [.ref a_16, .ref b_17, .ref q_6, .int 0, .int 0, .int 0, .int 0, .int 0, .long 0, .int 0])), (b_17, .inl (ct 0, 64, .inl (fun _ => 0))), (q_18, .inr (5, [.ref r_22, .int 0]))]) [0, 1, 2, 3, 4, 5, 6, 7] (by decide) rfl
  refine lv_aload_n hx hb dX11_init_63 rfl (lv_at hl 0 rfl) ?_
  refine W.widen (k := 24) (n := 113257) (Nat.le_of_ble_eq_true rfl) (Nat.le_of_ble_eq_true rfl) ?_
  refine va_new (ci := 2) (fs := [.null, .null, .null, .int 0, .null, .null, .null, .null, .null, .null, .null, .int 0, .int 0, .null, .int 0, .null, .int 0, .null]) (C := RX2) (T := TX2) (N := 18) hx hb (htX2 hn) (fun _ h => h) tyX2 tyX2_ok hown (hn.get mw_141 rfl) (hn.get mw_142 rfl) (hn.get mw_6 rfl) hK hP hD hS hA rfl (dfX2) (Nat.le_of_ble_eq_true rfl) (Nat.le_of_ble_eq_true rfl) dX11_init_64 (fun q_40 H hP hD hS => ?_)
  refine W.widen (k := 25) (n := 113275) (Nat.le_of_ble_eq_true rfl) (Nat.le_of_ble_eq_true rfl) ?_
  have hP : va_P D vwCl [(h0, .inr (11, [.ref q_1, .ref q_6, .ref q_12, .ref q_18, .ref q_23, .null, .null, .null, .int 0, .null, .null, .null, .null, .null])), (q_1, .inr (9, [.ref r_5, .int 0])), (r_5, .inl (ct 0, 2000, .inl (fun _ => 0))), (q_6, .inr (6, [.ref a_10, .ref b_11, .int 0])), (b_11, .inl (ct 1, 16, .inl (fun _ => 0))), (q_12, .inr (4, [.ref a_16, .ref b_17, .ref q_6, .int 0, .int 0, .int 0, .int 0, .int 0, .long 0, .int 0])), (b_17, .inl (ct 0, 64, .inl (fun _ => 0))), (q_18, .inr (5, [.ref r_22, .int 0])), (q_40, .inr (2, [.null, .null, .null, .int 0, .null, .null, .null, .null, .null, .null, .null, .int 0, .int 0, .null, .int 0, .null, .int 0, .null]))] _ := hP
  have hD : va_D A [(h0, .inr (11, [.ref q_1, .ref q_6, .ref q_12, .ref q_18, .ref q_23, .null, .null, .null, .int 0, .null, .null, .null, .null, .null])), (q_1, .inr (9, [.ref r_5, .int 0])), (r_5, .inl (ct 0, 2000, .inl (fun _ => 0))), (q_6, .inr (6, [.ref a_10, .ref b_11, .int 0])), (b_11, .inl (ct 1, 16, .inl (fun _ => 0))), (q_12, .inr (4, [.ref a_16, .ref b_17, .ref q_6, .int 0, .int 0, .int 0, .int 0, .int 0, .long 0, .int 0])), (b_17, .inl (ct 0, 64, .inl (fun _ => 0))), (q_18, .inr (5, [.ref r_22, .int 0])), (q_40, .inr (2, [.null, .null, .null, .int 0, .null, .null, .null, .null, .null, .null, .null, .int 0, .int 0, .null, .int 0, .null, .int 0, .null]))] := hD
  refine lv_dup hx hb dX11_init_67 rfl ?_
  have hPc := hP.sub (ws' := [(q_40, .inr (2, [.null, .null, .null, .int 0, .null, .null, .null, .null, .null, .null, .null, .int 0, .int 0, .null, .int 0, .null, .int 0, .null]))]) [8] rfl
  have hDc := hD.sub (ws' := [(q_40, .inr (2, [.null, .null, .null, .int 0, .null, .null, .null, .null, .null, .null, .null, .int 0, .int 0, .null, .int 0, .null, .int 0, .null]))]) [8] (by decide) rfl
  refine go_v (k1 := 38) (n1 := 160289) (wr := [(h0, .inr (11, [.ref q_1, .ref q_6, .ref q_12, .ref q_18, .ref q_23, .null, .null, .null, .int 0, .null, .null, .null, .null, .null])), (q_1, .inr (9, [.ref r_5, .int 0])), (r_5, .inl (ct 0, 2000, .inl (fun _ => 0))), (q_6, .inr (6, [.ref a_10, .ref b_11, .int 0])), (b_11, .inl (ct 1, 16, .inl (fun _ => 0))), (q_12, .inr (4, [.ref a_16, .ref b_17, .ref q_6, .int 0, .int 0, .int 0, .int 0, .int 0, .long 0, .int 0])), (b_17, .inl (ct 0, 64, .inl (fun _ => 0))), (q_18, .inr (5, [.ref r_22, .int 0]))]) [8] [0, 1, 2, 3, 4, 5, 6, 7] (rn_IN (As := []) (rest := [.ref q_40, .ref h0]) (c_X2_init l D ct q_40  _) (cn_of (n := 0) hn mw_145 mw_6 mw_143 mhX2_init ⟨Nat.le_of_ble_eq_true rfl, Nat.le_of_ble_eq_true rfl⟩) hx hb hml hown hn hK hPc hDc mw_144 rfl rfl hl.1 (Nat.le_of_ble_eq_true rfl) dX11_init_68 ⟨(Nat.le_of_ble_eq_true rfl), (Nat.le_of_ble_eq_true rfl)⟩) hP hD hS hA rfl rfl (by decide) (by decide) (Nat.le_of_ble_eq_true rfl) (Nat.le_of_ble_eq_true rfl) (fun u_42 H locs hp_43 hP hD hS => ?_)
  obtain ⟨a0_44, a1_45, a2_46, a4_47, a5_48, a6_49, a7_50, a8_51, a9_52, a10_53, a13_54, a15_55, a17_56⟩ := u_42
  have hP : va_P D vwCl [(h0, .inr (11, [.ref q_1, .ref q_6, .ref q_12, .ref q_18, .ref q_23, .null, .null, .null, .int 0, .null, .null, .null, .null, .null])), (q_1, .inr (9, [.ref r_5, .int 0])), (r_5, .inl (ct 0, 2000, .inl (fun _ => 0))), (q_6, .inr (6, [.ref a_10, .ref b_11, .int 0])), (b_11, .inl (ct 1, 16, .inl (fun _ => 0))), (q_12, .inr (4, [.ref a_16, .ref b_17, .ref q_6, .int 0, .int 0, .int 0, .int 0, .int 0, .long 0, .int 0])), (b_17, .inl (ct 0, 64, .inl (fun _ => 0))), (q_18, .inr (5, [.ref r_22, .int 0])), (q_40, .inr (2, [.ref a0_44, .ref a1_45, .ref a2_46, .int 0, .ref a4_47, .ref a5_48, .ref a6_49, .ref a7_50, .ref a8_51, .ref a9_52, .ref a10_53, .int 0, .int 0, .ref a13_54, .int 0, .ref a15_55, .int 0, .ref a17_56])), (a13_54, .inl (ct 1, 5000, .inl (fun _ => 0)))] _ := hP
  have hD : va_D A [(h0, .inr (11, [.ref q_1, .ref q_6, .ref q_12, .ref q_18, .ref q_23, .null, .null, .null, .int 0, .null, .null, .null, .null, .null])), (q_1, .inr (9, [.ref r_5, .int 0])), (r_5, .inl (ct 0, 2000, .inl (fun _ => 0))), (q_6, .inr (6, [.ref a_10, .ref b_11, .int 0])), (b_11, .inl (ct 1, 16, .inl (fun _ => 0))), (q_12, .inr (4, [.ref a_16, .ref b_17, .ref q_6, .int 0, .int 0, .int 0, .int 0, .int 0, .long 0, .int 0])), (b_17, .inl (ct 0, 64, .inl (fun _ => 0))), (q_18, .inr (5, [.ref r_22, .int 0])), (q_40, .inr (2, [.ref a0_44, .ref a1_45, .ref a2_46, .int 0, .ref a4_47, .ref a5_48, .ref a6_49, .ref a7_50, .ref a8_51, .ref a9_52, .ref a10_53, .int 0, .int 0, .ref a13_54, .int 0, .ref a15_55, .int 0, .ref a17_56])), (a13_54, .inl (ct 1, 5000, .inl (fun _ => 0)))] := hD
  refine va_put (D := D) (ci := 11) (v := .ref q_40) (ty := .object "FilterForge$Filter") (C := RX11) (T := TX11) (N := 14) hx hb (htX11 hn) (fun _ h => h) tyX11 tyX11_ok nmX11 hown hK hP hD hS 0 rfl rfl 5 (by decide) (hn.get mw_386 rfl) (fun _ h9 => h9) rfl (by decide +kernel) rfl rfl (Nat.le_of_ble_eq_true rfl) dX11_init_71 (fun H locs hP hD hS => ?_)
  have hP : va_P D vwCl [(h0, .inr (11, [.ref q_1, .ref q_6, .ref q_12, .ref q_18, .ref q_23, .ref q_40, .null, .null, .int 0, .null, .null, .null, .null, .null])), (q_1, .inr (9, [.ref r_5, .int 0])), (r_5, .inl (ct 0, 2000, .inl (fun _ => 0))), (q_6, .inr (6, [.ref a_10, .ref b_11, .int 0])), (b_11, .inl (ct 1, 16, .inl (fun _ => 0))), (q_12, .inr (4, [.ref a_16, .ref b_17, .ref q_6, .int 0, .int 0, .int 0, .int 0, .int 0, .long 0, .int 0])), (b_17, .inl (ct 0, 64, .inl (fun _ => 0))), (q_18, .inr (5, [.ref r_22, .int 0])), (q_40, .inr (2, [.ref a0_44, .ref a1_45, .ref a2_46, .int 0, .ref a4_47, .ref a5_48, .ref a6_49, .ref a7_50, .ref a8_51, .ref a9_52, .ref a10_53, .int 0, .int 0, .ref a13_54, .int 0, .ref a15_55, .int 0, .ref a17_56])), (a13_54, .inl (ct 1, 5000, .inl (fun _ => 0)))] _ := hP
  have hD : va_D A [(h0, .inr (11, [.ref q_1, .ref q_6, .ref q_12, .ref q_18, .ref q_23, .ref q_40, .null, .null, .int 0, .null, .null, .null, .null, .null])), (q_1, .inr (9, [.ref r_5, .int 0])), (r_5, .inl (ct 0, 2000, .inl (fun _ => 0))), (q_6, .inr (6, [.ref a_10, .ref b_11, .int 0])), (b_11, .inl (ct 1, 16, .inl (fun _ => 0))), (q_12, .inr (4, [.ref a_16, .ref b_17, .ref q_6, .int 0, .int 0, .int 0, .int 0, .int 0, .long 0, .int 0])), (b_17, .inl (ct 0, 64, .inl (fun _ => 0))), (q_18, .inr (5, [.ref r_22, .int 0])), (q_40, .inr (2, [.ref a0_44, .ref a1_45, .ref a2_46, .int 0, .ref a4_47, .ref a5_48, .ref a6_49, .ref a7_50, .ref a8_51, .ref a9_52, .ref a10_53, .int 0, .int 0, .ref a13_54, .int 0, .ref a15_55, .int 0, .ref a17_56])), (a13_54, .inl (ct 1, 5000, .inl (fun _ => 0)))] := hD
  refine lv_aload_n hx hb dX11_init_74 rfl (lv_at hl 0 rfl) ?_
  refine W.widen (k := 38) (n := 160289) (Nat.le_of_ble_eq_true rfl) (Nat.le_of_ble_eq_true rfl) ?_
  refine va_new (ci := 7) (fs := [.null, .int 0]) (C := RX7) (T := TX7) (N := 2) hx hb (htX7 hn) (fun _ h => h) tyX7 tyX7_ok hown (hn.get mw_217 rfl) (hn.get mw_218 rfl) (hn.get mw_7 rfl) hK hP hD hS hA rfl (dfX7) (Nat.le_of_ble_eq_true rfl) (Nat.le_of_ble_eq_true rfl) dX11_init_75 (fun q_57 H hP hD hS => ?_)
  refine W.widen (k := 39) (n := 160291) (Nat.le_of_ble_eq_true rfl) (Nat.le_of_ble_eq_true rfl) ?_
  have hP : va_P D vwCl [(h0, .inr (11, [.ref q_1, .ref q_6, .ref q_12, .ref q_18, .ref q_23, .ref q_40, .null, .null, .int 0, .null, .null, .null, .null, .null])), (q_1, .inr (9, [.ref r_5, .int 0])), (r_5, .inl (ct 0, 2000, .inl (fun _ => 0))), (q_6, .inr (6, [.ref a_10, .ref b_11, .int 0])), (b_11, .inl (ct 1, 16, .inl (fun _ => 0))), (q_12, .inr (4, [.ref a_16, .ref b_17, .ref q_6, .int 0, .int 0, .int 0, .int 0, .int 0, .long 0, .int 0])), (b_17, .inl (ct 0, 64, .inl (fun _ => 0))), (q_18, .inr (5, [.ref r_22, .int 0])), (q_40, .inr (2, [.ref a0_44, .ref a1_45, .ref a2_46, .int 0, .ref a4_47, .ref a5_48, .ref a6_49, .ref a7_50, .ref a8_51, .ref a9_52, .ref a10_53, .int 0, .int 0, .ref a13_54, .int 0, .ref a15_55, .int 0, .ref a17_56])), (a13_54, .inl (ct 1, 5000, .inl (fun _ => 0))), (q_57, .inr (7, [.null, .int 0]))] _ := hP
  have hD : va_D A [(h0, .inr (11, [.ref q_1, .ref q_6, .ref q_12, .ref q_18, .ref q_23, .ref q_40, .null, .null, .int 0, .null, .null, .null, .null, .null])), (q_1, .inr (9, [.ref r_5, .int 0])), (r_5, .inl (ct 0, 2000, .inl (fun _ => 0))), (q_6, .inr (6, [.ref a_10, .ref b_11, .int 0])), (b_11, .inl (ct 1, 16, .inl (fun _ => 0))), (q_12, .inr (4, [.ref a_16, .ref b_17, .ref q_6, .int 0, .int 0, .int 0, .int 0, .int 0, .long 0, .int 0])), (b_17, .inl (ct 0, 64, .inl (fun _ => 0))), (q_18, .inr (5, [.ref r_22, .int 0])), (q_40, .inr (2, [.ref a0_44, .ref a1_45, .ref a2_46, .int 0, .ref a4_47, .ref a5_48, .ref a6_49, .ref a7_50, .ref a8_51, .ref a9_52, .ref a10_53, .int 0, .int 0, .ref a13_54, .int 0, .ref a15_55, .int 0, .ref a17_56])), (a13_54, .inl (ct 1, 5000, .inl (fun _ => 0))), (q_57, .inr (7, [.null, .int 0]))] := hD
  refine lv_dup hx hb dX11_init_78 rfl ?_
  have hPc := hP.sub (ws' := [(q_57, .inr (7, [.null, .int 0]))]) [10] rfl
  have hDc := hD.sub (ws' := [(q_57, .inr (7, [.null, .int 0]))]) [10] (by decide) rfl
  refine go_v (k1 := 40) (n1 := 164291) (wr := [(h0, .inr (11, [.ref q_1, .ref q_6, .ref q_12, .ref q_18, .ref q_23, .ref q_40, .null, .null, .int 0, .null, .null, .null, .null, .null])), (q_1, .inr (9, [.ref r_5, .int 0])), (r_5, .inl (ct 0, 2000, .inl (fun _ => 0))), (q_6, .inr (6, [.ref a_10, .ref b_11, .int 0])), (b_11, .inl (ct 1, 16, .inl (fun _ => 0))), (q_12, .inr (4, [.ref a_16, .ref b_17, .ref q_6, .int 0, .int 0, .int 0, .int 0, .int 0, .long 0, .int 0])), (b_17, .inl (ct 0, 64, .inl (fun _ => 0))), (q_18, .inr (5, [.ref r_22, .int 0])), (q_40, .inr (2, [.ref a0_44, .ref a1_45, .ref a2_46, .int 0, .ref a4_47, .ref a5_48, .ref a6_49, .ref a7_50, .ref a8_51, .ref a9_52, .ref a10_53, .int 0, .int 0, .ref a13_54, .int 0, .ref a15_55, .int 0, .ref a17_56])), (a13_54, .inl (ct 1, 5000, .inl (fun _ => 0)))]) [10] [0, 1, 2, 3, 4, 5, 6, 7, 8, 9] (rn_IN (As := []) (rest := [.ref q_57, .ref h0]) (c_X7_init l D ct q_57  _) (cn_of (n := 0) hn mw_221 mw_7 mw_219 mhX7_init ⟨Nat.le_of_ble_eq_true rfl, Nat.le_of_ble_eq_true rfl⟩) hx hb hml hown hn hK hPc hDc mw_220 rfl rfl hl.1 (Nat.le_of_ble_eq_true rfl) dX11_init_79 ⟨(Nat.le_of_ble_eq_true rfl), (Nat.le_of_ble_eq_true rfl)⟩) hP hD hS hA rfl rfl (by decide) (by decide) (Nat.le_of_ble_eq_true rfl) (Nat.le_of_ble_eq_true rfl) (fun u_59 H locs hp_60 hP hD hS => ?_)
  obtain ⟨r_61, rfl⟩ : ∃ z, z = u_59 := ⟨_, rfl⟩
  have hP : va_P D vwCl [(h0, .inr (11, [.ref q_1, .ref q_6, .ref q_12, .ref q_18, .ref q_23, .ref q_40, .null, .null, .int 0, .null, .null, .null, .null, .null])), (q_1, .inr (9, [.ref r_5, .int 0])), (r_5, .inl (ct 0, 2000, .inl (fun _ => 0))), (q_6, .inr (6, [.ref a_10, .ref b_11, .int 0])), (b_11, .inl (ct 1, 16, .inl (fun _ => 0))), (q_12, .inr (4, [.ref a_16, .ref b_17, .ref q_6, .int 0, .int 0, .int 0, .int 0, .int 0, .long 0, .int 0])), (b_17, .inl (ct 0, 64, .inl (fun _ => 0))), (q_18, .inr (5, [.ref r_22, .int 0])), (q_40, .inr (2, [.ref a0_44, .ref a1_45, .ref a2_46, .int 0, .ref a4_47, .ref a5_48, .ref a6_49, .ref a7_50, .ref a8_51, .ref a9_52, .ref a10_53, .int 0, .int 0, .ref a13_54, .int 0, .ref a15_55, .int 0, .ref a17_56])), (a13_54, .inl (ct 1, 5000, .inl (fun _ => 0))), (q_57, .inr (7, [.ref r_61, .int 0])), (r_61, .inl (ct 2, 4000, .inr (.inl (fun _ => 0))))] _ := hP
  have hD : va_D A [(h0, .inr (11, [.ref q_1, .ref q_6, .ref q_12, .ref q_18, .ref q_23, .ref q_40, .null, .null, .int 0, .null, .null, .null, .null, .null])), (q_1, .inr (9, [.ref r_5, .int 0])), (r_5, .inl (ct 0, 2000, .inl (fun _ => 0))), (q_6, .inr (6, [.ref a_10, .ref b_11, .int 0])), (b_11, .inl (ct 1, 16, .inl (fun _ => 0))), (q_12, .inr (4, [.ref a_16, .ref b_17, .ref q_6, .int 0, .int 0, .int 0, .int 0, .int 0, .long 0, .int 0])), (b_17, .inl (ct 0, 64, .inl (fun _ => 0))), (q_18, .inr (5, [.ref r_22, .int 0])), (q_40, .inr (2, [.ref a0_44, .ref a1_45, .ref a2_46, .int 0, .ref a4_47, .ref a5_48, .ref a6_49, .ref a7_50, .ref a8_51, .ref a9_52, .ref a10_53, .int 0, .int 0, .ref a13_54, .int 0, .ref a15_55, .int 0, .ref a17_56])), (a13_54, .inl (ct 1, 5000, .inl (fun _ => 0))), (q_57, .inr (7, [.ref r_61, .int 0])), (r_61, .inl (ct 2, 4000, .inr (.inl (fun _ => 0))))] := hD
  refine va_put (D := D) (ci := 11) (v := .ref q_57) (ty := .object "FilterForge$Program") (C := RX11) (T := TX11) (N := 14) hx hb (htX11 hn) (fun _ h => h) tyX11 tyX11_ok nmX11 hown hK hP hD hS 0 rfl rfl 6 (by decide) (hn.get mw_387 rfl) (fun _ h9 => h9) rfl (by decide +kernel) rfl rfl (Nat.le_of_ble_eq_true rfl) dX11_init_82 (fun H locs hP hD hS => ?_)
  have hP : va_P D vwCl [(h0, .inr (11, [.ref q_1, .ref q_6, .ref q_12, .ref q_18, .ref q_23, .ref q_40, .ref q_57, .null, .int 0, .null, .null, .null, .null, .null])), (q_1, .inr (9, [.ref r_5, .int 0])), (r_5, .inl (ct 0, 2000, .inl (fun _ => 0))), (q_6, .inr (6, [.ref a_10, .ref b_11, .int 0])), (b_11, .inl (ct 1, 16, .inl (fun _ => 0))), (q_12, .inr (4, [.ref a_16, .ref b_17, .ref q_6, .int 0, .int 0, .int 0, .int 0, .int 0, .long 0, .int 0])), (b_17, .inl (ct 0, 64, .inl (fun _ => 0))), (q_18, .inr (5, [.ref r_22, .int 0])), (q_40, .inr (2, [.ref a0_44, .ref a1_45, .ref a2_46, .int 0, .ref a4_47, .ref a5_48, .ref a6_49, .ref a7_50, .ref a8_51, .ref a9_52, .ref a10_53, .int 0, .int 0, .ref a13_54, .int 0, .ref a15_55, .int 0, .ref a17_56])), (a13_54, .inl (ct 1, 5000, .inl (fun _ => 0))), (q_57, .inr (7, [.ref r_61, .int 0])), (r_61, .inl (ct 2, 4000, .inr (.inl (fun _ => 0))))] _ := hP
  have hD : va_D A [(h0, .inr (11, [.ref q_1, .ref q_6, .ref q_12, .ref q_18, .ref q_23, .ref q_40, .ref q_57, .null, .int 0, .null, .null, .null, .null, .null])), (q_1, .inr (9, [.ref r_5, .int 0])), (r_5, .inl (ct 0, 2000, .inl (fun _ => 0))), (q_6, .inr (6, [.ref a_10, .ref b_11, .int 0])), (b_11, .inl (ct 1, 16, .inl (fun _ => 0))), (q_12, .inr (4, [.ref a_16, .ref b_17, .ref q_6, .int 0, .int 0, .int 0, .int 0, .int 0, .long 0, .int 0])), (b_17, .inl (ct 0, 64, .inl (fun _ => 0))), (q_18, .inr (5, [.ref r_22, .int 0])), (q_40, .inr (2, [.ref a0_44, .ref a1_45, .ref a2_46, .int 0, .ref a4_47, .ref a5_48, .ref a6_49, .ref a7_50, .ref a8_51, .ref a9_52, .ref a10_53, .int 0, .int 0, .ref a13_54, .int 0, .ref a15_55, .int 0, .ref a17_56])), (a13_54, .inl (ct 1, 5000, .inl (fun _ => 0))), (q_57, .inr (7, [.ref r_61, .int 0])), (r_61, .inl (ct 2, 4000, .inr (.inl (fun _ => 0))))] := hD
  have hP := hP.sub (ws' := [(h0, .inr (11, [.ref q_1, .ref q_6, .ref q_12, .ref q_18, .ref q_23, .ref q_40, .ref q_57, .null, .int 0, .null, .null, .null, .null, .null])), (q_1, .inr (9, [.ref r_5, .int 0])), (r_5, .inl (ct 0, 2000, .inl (fun _ => 0))), (q_6, .inr (6, [.ref a_10, .ref b_11, .int 0])), (b_11, .inl (ct 1, 16, .inl (fun _ => 0))), (q_12, .inr (4, [.ref a_16, .ref b_17, .ref q_6, .int 0, .int 0, .int 0, .int 0, .int 0, .long 0, .int 0])), (b_17, .inl (ct 0, 64, .inl (fun _ => 0))), (q_18, .inr (5, [.ref r_22, .int 0])), (q_40, .inr (2, [.ref a0_44, .ref a1_45, .ref a2_46, .int 0, .ref a4_47, .ref a5_48, .ref a6_49, .ref a7_50, .ref a8_51, .ref a9_52, .ref a10_53, .int 0, .int 0, .ref a13_54, .int 0, .ref a15_55, .int 0, .ref a17_56])), (a13_54, .inl (ct 1, 5000, .inl (fun _ => 0))), (q_57, .inr (7, [.ref r_61, .int 0]))]) [0, 1, 2, 3, 4, 5, 6, 7, 8, 9, 10] rfl
  have hD := hD.sub (ws' := [(h0, .inr (11, [.ref q_1, .ref q_6, .ref q_12, .ref q_18, .ref q_23, .ref q_40, .ref q_57, .null, .int 0, .null, .null, .null, .null, .null])), (q_1, .inr (9, [.ref r_5, .int 0])), (r_5, .inl (ct 0, 2000, .inl (fun _ => 0))), (q_6, .inr (6, [.ref a_10, .ref b_11, .int 0])), (b_11, .inl (ct 1, 16, .inl (fun _ => 0))), (q_12, .inr (4, [.ref a_16, .ref b_17, .ref q_6, .int 0, .int 0, .int 0, .int 0, .int 0, .long 0, .int 0])), (b_17, .inl (ct 0, 64, .inl (fun _ => 0))), (q_18, .inr (5, [.ref r_22, .int 0])), (q_40, .inr (2, [.ref a0_44, .ref a1_45, .ref a2_46, .int 0, .ref a4_47, .ref a5_48, .ref a6_49, .ref a7_50, .ref a8_51, .ref a9_52, .ref a10_53, .int 0, .int 0, .ref a13_54, .int 0, .ref a15_55, .int 0, .ref a17_56])), (a13_54, .inl (ct 1, 5000, .inl (fun _ => 0))), (q_57, .inr (7, [.ref r_61, .int 0]))]) [0, 1, 2, 3, 4, 5, 6, 7, 8, 9, 10] (by decide) rfl
  refine lv_aload_n hx hb dX11_init_85 rfl (lv_at hl 0 rfl) ?_
  refine W.widen (k := 40) (n := 164291) (Nat.le_of_ble_eq_true rfl) (Nat.le_of_ble_eq_true rfl) ?_
  refine va_new (ci := 7) (fs := [.null, .int 0]) (C := RX7) (T := TX7) (N := 2) hx hb (htX7 hn) (fun _ h => h) tyX7 tyX7_ok hown (hn.get mw_217 rfl) (hn.get mw_218 rfl) (hn.get mw_7 rfl) hK hP hD hS hA rfl (dfX7) (Nat.le_of_ble_eq_true rfl) (Nat.le_of_ble_eq_true rfl) dX11_init_86 (fun q_62 H hP hD hS => ?_)
  refine W.widen (k := 41) (n := 164293) (Nat.le_of_ble_eq_true rfl) (Nat.le_of_ble_eq_true rfl) ?_
  have hP : va_P D vwCl [(h0, .inr (11, [.ref q_1, .ref q_6, .ref q_12, .ref q_18, .ref q_23, .ref q_40, .ref q_57, .null, .int 0, .null, .null, .null, .null, .null])), (q_1, .inr (9, [.ref r_5, .int 0])), (r_5, .inl (ct 0, 2000, .inl (fun _ => 0))), (q_6, .inr (6, [.ref a_10, .ref b_11, .int 0])), (b_11, .inl (ct 1, 16, .inl (fun _ => 0))), (q_12, .inr (4, [.ref a_16, .ref b_17, .ref q_6, .int 0, .int 0, .int 0, .int 0, .int 0, .long 0, .int 0])), (b_17, .inl (ct 0, 64, .inl (fun _ => 0))), (q_18, .inr (5, [.ref r_22, .int 0])), (q_40, .inr (2, [.ref a0_44, .ref a1_45, .ref a2_46, .int 0, .ref a4_47, .ref a5_48, .ref a6_49, .ref a7_50, .ref a8_51, .ref a9_52, .ref a10_53, .int 0, .int 0, .ref a13_54, .int 0, .ref a15_55, .int 0, .ref a17_56])), (a13_54, .inl (ct 1, 5000, .inl (fun _ => 0))), (q_57, .inr (7, [.ref r_61, .int 0])), (q_62, .inr (7, [.null, .int 0]))] _ := hP
  have hD : va_D A [(h0, .inr (11, [.ref q_1, .ref q_6, .ref q_12, .ref q_18, .ref q_23, .ref q_40, .ref q_57, .null, .int 0, .null, .null, .null, .null, .null])), (q_1, .inr (9, [.ref r_5, .int 0])), (r_5, .inl (ct 0, 2000, .inl (fun _ => 0))), (q_6, .inr (6, [.ref a_10, .ref b_11, .int 0])), (b_11, .inl (ct 1, 16, .inl (fun _ => 0))), (q_12, .inr (4, [.ref a_16, .ref b_17, .ref q_6, .int 0, .int 0, .int 0, .int 0, .int 0, .long 0, .int 0])), (b_17, .inl (ct 0, 64, .inl (fun _ => 0))), (q_18, .inr (5, [.ref r_22, .int 0])), (q_40, .inr (2, [.ref a0_44, .ref a1_45, .ref a2_46, .int 0, .ref a4_47, .ref a5_48, .ref a6_49, .ref a7_50, .ref a8_51, .ref a9_52, .ref a10_53, .int 0, .int 0, .ref a13_54, .int 0, .ref a15_55, .int 0, .ref a17_56])), (a13_54, .inl (ct 1, 5000, .inl (fun _ => 0))), (q_57, .inr (7, [.ref r_61, .int 0])), (q_62, .inr (7, [.null, .int 0]))] := hD
  refine lv_dup hx hb dX11_init_89 rfl ?_
  have hPc := hP.sub (ws' := [(q_62, .inr (7, [.null, .int 0]))]) [11] rfl
  have hDc := hD.sub (ws' := [(q_62, .inr (7, [.null, .int 0]))]) [11] (by decide) rfl
  refine go_v (k1 := 42) (n1 := 168293) (wr := [(h0, .inr (11, [.ref q_1, .ref q_6, .ref q_12, .ref q_18, .ref q_23, .ref q_40, .ref q_57, .null, .int 0, .null, .null, .null, .null, .null])), (q_1, .inr (9, [.ref r_5, .int 0])), (r_5, .inl (ct 0, 2000, .inl (fun _ => 0))), (q_6, .inr (6, [.ref a_10, .ref b_11, .int 0])), (b_11, .inl (ct 1, 16, .inl (fun _ => 0))), (q_12, .inr (4, [.ref a_16, .ref b_17, .ref q_6, .int 0, .int 0, .int 0, .int 0, .int 0, .long 0, .int 0])), (b_17, .inl (ct 0, 64, .inl (fun _ => 0))), (q_18, .inr (5, [.ref r_22, .int 0])), (q_40, .inr (2, [.ref a0_44, .ref a1_45, .ref a2_46, .int 0, .ref a4_47, .ref a5_48, .ref a6_49, .ref a7_50, .ref a8_51, .ref a9_52, .ref a10_53, .int 0, .int 0, .ref a13_54, .int 0, .ref a15_55, .int 0, .ref a17_56])), (a13_54, .inl (ct 1, 5000, .inl (fun _ => 0))), (q_57, .inr (7, [.ref r_61, .int 0]))]) [11] [0, 1, 2, 3, 4, 5, 6, 7, 8, 9, 10] (rn_IN (As := []) (rest := [.ref q_62, .ref h0]) (c_X7_init l D ct q_62  _) (cn_of (n := 0) hn mw_221 mw_7 mw_219 mhX7_init ⟨Nat.le_of_ble_eq_true rfl, Nat.le_of_ble_eq_true rfl⟩) hx hb hml hown hn hK hPc hDc mw_220 rfl rfl hl.1 (Nat.le_of_ble_eq_true rfl) dX11_init_90 ⟨(Nat.le_of_ble_eq_true rfl), (Nat.le_of_ble_eq_true rfl)⟩) hP hD hS hA rfl rfl (by decide) (by decide) (Nat.le_of_ble_eq_true rfl) (Nat.le_of_ble_eq_true rfl) (fun u_64 H locs hp_65 hP hD hS => ?_)
  obtain ⟨r_66, rfl⟩ : ∃ z, z = u_64 := ⟨_, rfl⟩
  have hP : va_P D vwCl [(h0, .inr (11, [.ref q_1, .ref q_6, .ref q_12, .ref q_18, .ref q_23, .ref q_40, .ref q_57, .null, .int 0, .null, .null, .null, .null, .null])), (q_1, .inr (9, [.ref r_5, .int 0])), (r_5, .inl (ct 0, 2000, .inl (fun _ => 0))), (q_6, .inr (6, [.ref a_10, .ref b_11, .int 0])), (b_11, .inl (ct 1, 16, .inl (fun _ => 0))), (q_12, .inr (4, [.ref a_16, .ref b_17, .ref q_6, .int 0, .int 0, .int 0, .int 0, .int 0, .long 0, .int 0])), (b_17, .inl (ct 0, 64, .inl (fun _ => 0))), (q_18, .inr (5, [.ref r_22, .int 0])), (q_40, .inr (2, [.ref a0_44, .ref a1_45, .ref a2_46, .int 0, .ref a4_47, .ref a5_48, .ref a6_49, .ref a7_50, .ref a8_51, .ref a9_52, .ref a10_53, .int 0, .int 0, .ref a13_54, .int 0, .ref a15_55, .int 0, .ref a17_56])), (a13_54, .inl (ct 1, 5000, .inl (fun _ => 0))), (q_57, .inr (7, [.ref r_61, .int 0])), (q_62, .inr (7, [.ref r_66, .int 0])), (r_66, .inl (ct 2, 4000, .inr (.inl (fun _ => 0))))] _ := hP
  have hD : va_D A [(h0, .inr (11, [.ref q_1, .ref q_6, .ref q_12, .ref q_18, .ref q_23, .ref q_40, .ref q_57, .null, .int 0, .null, .null, .null, .null, .null])), (q_1, .inr (9, [.ref r_5, .int 0])), (r_5, .inl (ct 0, 2000, .inl (fun _ => 0))), (q_6, .inr (6, [.ref a_10, .ref b_11, .int 0])), (b_11, .inl (ct 1, 16, .inl (fun _ => 0))), (q_12, .inr (4, [.ref a_16, .ref b_17, .ref q_6, .int 0, .int 0, .int 0, .int 0, .int 0, .long 0, .int 0])), (b_17, .inl (ct 0, 64, .inl (fun _ => 0))), (q_18, .inr (5, [.ref r_22, .int 0])), (q_40, .inr (2, [.ref a0_44, .ref a1_45, .ref a2_46, .int 0, .ref a4_47, .ref a5_48, .ref a6_49, .ref a7_50, .ref a8_51, .ref a9_52, .ref a10_53, .int 0, .int 0, .ref a13_54, .int 0, .ref a15_55, .int 0, .ref a17_56])), (a13_54, .inl (ct 1, 5000, .inl (fun _ => 0))), (q_57, .inr (7, [.ref r_61, .int 0])), (q_62, .inr (7, [.ref r_66, .int 0])), (r_66, .inl (ct 2, 4000, .inr (.inl (fun _ => 0))))] := hD
  refine va_put (D := D) (ci := 11) (v := .ref q_62) (ty := .object "FilterForge$Program") (C := RX11) (T := TX11) (N := 14) hx hb (htX11 hn) (fun _ h => h) tyX11 tyX11_ok nmX11 hown hK hP hD hS 0 rfl rfl 7 (by decide) (hn.get mw_388 rfl) (fun _ h9 => h9) rfl (by decide +kernel) rfl rfl (Nat.le_of_ble_eq_true rfl) dX11_init_93 (fun H locs hP hD hS => ?_)
  have hP : va_P D vwCl [(h0, .inr (11, [.ref q_1, .ref q_6, .ref q_12, .ref q_18, .ref q_23, .ref q_40, .ref q_57, .ref q_62, .int 0, .null, .null, .null, .null, .null])), (q_1, .inr (9, [.ref r_5, .int 0])), (r_5, .inl (ct 0, 2000, .inl (fun _ => 0))), (q_6, .inr (6, [.ref a_10, .ref b_11, .int 0])), (b_11, .inl (ct 1, 16, .inl (fun _ => 0))), (q_12, .inr (4, [.ref a_16, .ref b_17, .ref q_6, .int 0, .int 0, .int 0, .int 0, .int 0, .long 0, .int 0])), (b_17, .inl (ct 0, 64, .inl (fun _ => 0))), (q_18, .inr (5, [.ref r_22, .int 0])), (q_40, .inr (2, [.ref a0_44, .ref a1_45, .ref a2_46, .int 0, .ref a4_47, .ref a5_48, .ref a6_49, .ref a7_50, .ref a8_51, .ref a9_52, .ref a10_53, .int 0, .int 0, .ref a13_54, .int 0, .ref a15_55, .int 0, .ref a17_56])), (a13_54, .inl (ct 1, 5000, .inl (fun _ => 0))), (q_57, .inr (7, [.ref r_61, .int 0])), (q_62, .inr (7, [.ref r_66, .int 0])), (r_66, .inl (ct 2, 4000, .inr (.inl (fun _ => 0))))] _ := hP
  have hD : va_D A [(h0, .inr (11, [.ref q_1, .ref q_6, .ref q_12, .ref q_18, .ref q_23, .ref q_40, .ref q_57, .ref q_62, .int 0, .null, .null, .null, .null, .null])), (q_1, .inr (9, [.ref r_5, .int 0])), (r_5, .inl (ct 0, 2000, .inl (fun _ => 0))), (q_6, .inr (6, [.ref a_10, .ref b_11, .int 0])), (b_11, .inl (ct 1, 16, .inl (fun _ => 0))), (q_12, .inr (4, [.ref a_16, .ref b_17, .ref q_6, .int 0, .int 0, .int 0, .int 0, .int 0, .long 0, .int 0])), (b_17, .inl (ct 0, 64, .inl (fun _ => 0))), (q_18, .inr (5, [.ref r_22, .int 0])), (q_40, .inr (2, [.ref a0_44, .ref a1_45, .ref a2_46, .int 0, .ref a4_47, .ref a5_48, .ref a6_49, .ref a7_50, .ref a8_51, .ref a9_52, .ref a10_53, .int 0, .int 0, .ref a13_54, .int 0, .ref a15_55, .int 0, .ref a17_56])), (a13_54, .inl (ct 1, 5000, .inl (fun _ => 0))), (q_57, .inr (7, [.ref r_61, .int 0])), (q_62, .inr (7, [.ref r_66, .int 0])), (r_66, .inl (ct 2, 4000, .inr (.inl (fun _ => 0))))] := hD
  have hP := hP.sub (ws' := [(h0, .inr (11, [.ref q_1, .ref q_6, .ref q_12, .ref q_18, .ref q_23, .ref q_40, .ref q_57, .ref q_62, .int 0, .null, .null, .null, .null, .null])), (q_1, .inr (9, [.ref r_5, .int 0])), (r_5, .inl (ct 0, 2000, .inl (fun _ => 0))), (q_6, .inr (6, [.ref a_10, .ref b_11, .int 0])), (b_11, .inl (ct 1, 16, .inl (fun _ => 0))), (q_12, .inr (4, [.ref a_16, .ref b_17, .ref q_6, .int 0, .int 0, .int 0, .int 0, .int 0, .long 0, .int 0])), (b_17, .inl (ct 0, 64, .inl (fun _ => 0))), (q_18, .inr (5, [.ref r_22, .int 0])), (q_40, .inr (2, [.ref a0_44, .ref a1_45, .ref a2_46, .int 0, .ref a4_47, .ref a5_48, .ref a6_49, .ref a7_50, .ref a8_51, .ref a9_52, .ref a10_53, .int 0, .int 0, .ref a13_54, .int 0, .ref a15_55, .int 0, .ref a17_56])), (a13_54, .inl (ct 1, 5000, .inl (fun _ => 0))), (q_57, .inr (7, [.ref r_61, .int 0]))]) [0, 1, 2, 3, 4, 5, 6, 7, 8, 9, 10] rfl
  have hD := hD.sub (ws' := [(h0, .inr (11, [.ref q_1, .ref q_6, .ref q_12, .ref q_18, .ref q_23, .ref q_40, .ref q_57, .ref q_62, .int 0, .null, .null, .null, .null, .null])), (q_1, .inr (9, [.ref r_5, .int 0])), (r_5, .inl (ct 0, 2000, .inl (fun _ => 0))), (q_6, .inr (6, [.ref a_10, .ref b_11, .int 0])), (b_11, .inl (ct 1, 16, .inl (fun _ => 0))), (q_12, .inr (4, [.ref a_16, .ref b_17, .ref q_6, .int 0, .int 0, .int 0, .int 0, .int 0, .long 0, .int 0])), (b_17, .inl (ct 0, 64, .inl (fun _ => 0))), (q_18, .inr (5, [.ref r_22, .int 0])), (q_40, .inr (2, [.ref a0_44, .ref a1_45, .ref a2_46, .int 0, .ref a4_47, .ref a5_48, .ref a6_49, .ref a7_50, .ref a8_51, .ref a9_52, .ref a10_53, .int 0, .int 0, .ref a13_54, .int 0, .ref a15_55, .int 0, .ref a17_56])), (a13_54, .inl (ct 1, 5000, .inl (fun _ => 0))), (q_57, .inr (7, [.ref r_61, .int 0]))]) [0, 1, 2, 3, 4, 5, 6, 7, 8, 9, 10] (by decide) rfl
  refine lv_aload_n hx hb dX11_init_96 rfl (lv_at hl 0 rfl) ?_
  refine W.widen (k := 42) (n := 168293) (Nat.le_of_ble_eq_true rfl) (Nat.le_of_ble_eq_true rfl) ?_
  refine va_new (ci := 8) (fs := [.null, .null, .int 0, .int 0, .int 0, .int 0]) (C := RX8) (T := TX8) (N := 6) hx hb (htX8 hn) (fun _ h => h) tyX8 tyX8_ok hown (hn.get mw_235 rfl) (hn.get mw_236 rfl) (hn.get mw_8 rfl) hK hP hD hS hA rfl (dfX8) (Nat.le_of_ble_eq_true rfl) (Nat.le_of_ble_eq_true rfl) dX11_init_97 (fun q_67 H hP hD hS => ?_)
  refine W.widen (k := 43) (n := 168299) (Nat.le_of_ble_eq_true rfl) (Nat.le_of_ble_eq_true rfl) ?_
  have hP : va_P D vwCl [(h0, .inr (11, [.ref q_1, .ref q_6, .ref q_12, .ref q_18, .ref q_23, .ref q_40, .ref q_57, .ref q_62, .int 0, .null, .null, .null, .null, .null])), (q_1, .inr (9, [.ref r_5, .int 0])), (r_5, .inl (ct 0, 2000, .inl (fun _ => 0))), (q_6, .inr (6, [.ref a_10, .ref b_11, .int 0])), (b_11, .inl (ct 1, 16, .inl (fun _ => 0))), (q_12, .inr (4, [.ref a_16, .ref b_17, .ref q_6, .int 0, .int 0, .int 0, .int 0, .int 0, .long 0, .int 0])), (b_17, .inl (ct 0, 64, .inl (fun _ => 0))), (q_18, .inr (5, [.ref r_22, .int 0])), (q_40, .inr (2, [.ref a0_44, .ref a1_45, .ref a2_46, .int 0, .ref a4_47, .ref a5_48, .ref a6_49, .ref a7_50, .ref a8_51, .ref a9_52, .ref a10_53, .int 0, .int 0, .ref a13_54, .int 0, .ref a15_55, .int 0, .ref a17_56])), (a13_54, .inl (ct 1, 5000, .inl (fun _ => 0))), (q_57, .inr (7, [.ref r_61, .int 0])), (q_67, .inr (8, [.null, .null, .int 0, .int 0, .int 0, .int 0]))] _ := hP
  have hD : va_D A [(h0, .inr (11, [.ref q_1, .ref q_6, .ref q_12, .ref q_18, .ref q_23, .ref q_40, .ref q_57, .ref q_62, .int 0, .null, .null, .null, .null, .null])), (q_1, .inr (9, [.ref r_5, .int 0])), (r_5, .inl (ct 0, 2000, .inl (fun _ => 0))), (q_6, .inr (6, [.ref a_10, .ref b_11, .int 0])), (b_11, .inl (ct 1, 16, .inl (fun _ => 0))), (q_12, .inr (4, [.ref a_16, .ref b_17, .ref q_6, .int 0, .int 0, .int 0, .int 0, .int 0, .long 0, .int 0])), (b_17, .inl (ct 0, 64, .inl (fun _ => 0))), (q_18, .inr (5, [.ref r_22, .int 0])), (q_40, .inr (2, [.ref a0_44, .ref a1_45, .ref a2_46, .int 0, .ref a4_47, .ref a5_48, .ref a6_49, .ref a7_50, .ref a8_51, .ref a9_52, .ref a10_53, .int 0, .int 0, .ref a13_54, .int 0, .ref a15_55, .int 0, .ref a17_56])), (a13_54, .inl (ct 1, 5000, .inl (fun _ => 0))), (q_57, .inr (7, [.ref r_61, .int 0])), (q_67, .inr (8, [.null, .null, .int 0, .int 0, .int 0, .int 0]))] := hD
  refine lv_dup hx hb dX11_init_100 rfl ?_
  refine lv_aload_n hx hb dX11_init_101 rfl (lv_at hl 0 rfl) ?_
  refine va_get (D := D) (ci := 11) (v := .ref q_1) (C := RX11) (T := TX11) (N := 14) hx hb (htX11 hn) (fun _ h => h) hown hK hP 0 rfl rfl 0 (by decide) (hn.get mw_381 rfl) (fun _ h9 => h9) rfl dX11_init_102 ?_
  refine lv_aload_n hx hb dX11_init_105 rfl (lv_at hl 0 rfl) ?_
  refine va_get (D := D) (ci := 11) (v := .ref q_40) (C := RX11) (T := TX11) (N := 14) hx hb (htX11 hn) (fun _ h => h) hown hK hP 0 rfl rfl 5 (by decide) (hn.get mw_386 rfl) (fun _ h9 => h9) rfl dX11_init_106 ?_
  have hPc := hP.sub (ws' := [(q_67, .inr (8, [.null, .null, .int 0, .int 0, .int 0, .int 0]))]) [11] rfl
  have hDc := hD.sub (ws' := [(q_67, .inr (8, [.null, .null, .int 0, .int 0, .int 0, .int 0]))]) [11] (by decide) rfl
  refine go_v (k1 := 43) (n1 := 168299) (wr := [(h0, .inr (11, [.ref q_1, .ref q_6, .ref q_12, .ref q_18, .ref q_23, .ref q_40, .ref q_57, .ref q_62, .int 0, .null, .null, .null, .null, .null])), (q_1, .inr (9, [.ref r_5, .int 0])), (r_5, .inl (ct 0, 2000, .inl (fun _ => 0))), (q_6, .inr (6, [.ref a_10, .ref b_11, .int 0])), (b_11, .inl (ct 1, 16, .inl (fun _ => 0))), (q_12, .inr (4, [.ref a_16, .ref b_17, .ref q_6, .int 0, .int 0, .int 0, .int 0, .int 0, .long 0, .int 0])), (b_17, .inl (ct 0, 64, .inl (fun _ => 0))), (q_18, .inr (5, [.ref r_22, .int 0])), (q_40, .inr (2, [.ref a0_44, .ref a1_45, .ref a2_46, .int 0, .ref a4_47, .ref a5_48, .ref a6_49, .ref a7_50, .ref a8_51, .ref a9_52, .ref a10_53, .int 0, .int 0, .ref a13_54, .int 0, .ref a15_55, .int 0, .ref a17_56])), (a13_54, .inl (ct 1, 5000, .inl (fun _ => 0))), (q_57, .inr (7, [.ref r_61, .int 0]))]) [11] [0, 1, 2, 3, 4, 5, 6, 7, 8, 9, 10] (rn_IN (As := [.ref q_1, .ref q_40]) (rest := [.ref q_67, .ref h0]) (c_X8_init l D ct q_67 q_1 q_40  _) (cn_of (n := 2) hn mw_239 mw_8 mw_237 mhX8_init ⟨Nat.le_of_ble_eq_true rfl, Nat.le_of_ble_eq_true rfl⟩) hx hb hml hown hn hK hPc hDc mw_238 rfl rfl hl.1 (Nat.le_of_ble_eq_true rfl) dX11_init_109 ⟨(Nat.le_of_ble_eq_true rfl), (Nat.le_of_ble_eq_true rfl)⟩) hP hD hS hA rfl rfl (by decide) (by decide) (Nat.le_of_ble_eq_true rfl) (Nat.le_of_ble_eq_true rfl) (fun u_69 H locs hp_70 hP hD hS => ?_)
  have hP : va_P D vwCl [(h0, .inr (11, [.ref q_1, .ref q_6, .ref q_12, .ref q_18, .ref q_23, .ref q_40, .ref q_57, .ref q_62, .int 0, .null, .null, .null, .null, .null])), (q_1, .inr (9, [.ref r_5, .int 0])), (r_5, .inl (ct 0, 2000, .inl (fun _ => 0))), (q_6, .inr (6, [.ref a_10, .ref b_11, .int 0])), (b_11, .inl (ct 1, 16, .inl (fun _ => 0))), (q_12, .inr (4, [.ref a_16, .ref b_17, .ref q_6, .int 0, .int 0, .int 0, .int 0, .int 0, .long 0, .int 0])), (b_17, .inl (ct 0, 64, .inl (fun _ => 0))), (q_18, .inr (5, [.ref r_22, .int 0])), (q_40, .inr (2, [.ref a0_44, .ref a1_45, .ref a2_46, .int 0, .ref a4_47, .ref a5_48, .ref a6_49, .ref a7_50, .ref a8_51, .ref a9_52, .ref a10_53, .int 0, .int 0, .ref a13_54, .int 0, .ref a15_55, .int 0, .ref a17_56])), (a13_54, .inl (ct 1, 5000, .inl (fun _ => 0))), (q_57, .inr (7, [.ref r_61, .int 0])), (q_67, .inr (8, [.ref q_1, .ref q_40, .int 0, .int 0, .int 0, .int 0]))] _ := hP
  have hD : va_D A [(h0, .inr (11, [.ref q_1, .ref q_6, .ref q_12, .ref q_18, .ref q_23, .ref q_40, .ref q_57, .ref q_62, .int 0, .null, .null, .null, .null, .null])), (q_1, .inr (9, [.ref r_5, .int 0])), (r_5, .inl (ct 0, 2000, .inl (fun _ => 0))), (q_6, .inr (6, [.ref a_10, .ref b_11, .int 0])), (b_11, .inl (ct 1, 16, .inl (fun _ => 0))), (q_12, .inr (4, [.ref a_16, .ref b_17, .ref q_6, .int 0, .int 0, .int 0, .int 0, .int 0, .long 0, .int 0])), (b_17, .inl (ct 0, 64, .inl (fun _ => 0))), (q_18, .inr (5, [.ref r_22, .int 0])), (q_40, .inr (2, [.ref a0_44, .ref a1_45, .ref a2_46, .int 0, .ref a4_47, .ref a5_48, .ref a6_49, .ref a7_50, .ref a8_51, .ref a9_52, .ref a10_53, .int 0, .int 0, .ref a13_54, .int 0, .ref a15_55, .int 0, .ref a17_56])), (a13_54, .inl (ct 1, 5000, .inl (fun _ => 0))), (q_57, .inr (7, [.ref r_61, .int 0])), (q_67, .inr (8, [.ref q_1, .ref q_40, .int 0, .int 0, .int 0, .int 0]))] := hD
  refine va_putF (D := D) (ci := 11) (v := .ref q_67) (ty := .object "FilterForge$Reader") (C := RX11) (T := TX11) (N := 14) hx hb (htX11 hn) (fun _ h => h) tyX11 tyX11_ok nmX11 hown hK hP hD hS 0 rfl rfl 9 (by decide) (hn.get mw_390 rfl) (fun _ h9 => h9) rfl hin rfl (by decide +kernel) rfl rfl (Nat.le_of_ble_eq_true rfl) dX11_init_112 (fun H locs hP hD hS => ?_)
  have hP : va_P D vwCl [(h0, .inr (11, [.ref q_1, .ref q_6, .ref q_12, .ref q_18, .ref q_23, .ref q_40, .ref q_57, .ref q_62, .int 0, .ref q_67, .null, .null, .null, .null])), (q_1, .inr (9, [.ref r_5, .int 0])), (r_5, .inl (ct 0, 2000, .inl (fun _ => 0))), (q_6, .inr (6, [.ref a_10, .ref b_11, .int 0])), (b_11, .inl (ct 1, 16, .inl (fun _ => 0))), (q_12, .inr (4, [.ref a_16, .ref b_17, .ref q_6, .int 0, .int 0, .int 0, .int 0, .int 0, .long 0, .int 0])), (b_17, .inl (ct 0, 64, .inl (fun _ => 0))), (q_18, .inr (5, [.ref r_22, .int 0])), (q_40, .inr (2, [.ref a0_44, .ref a1_45, .ref a2_46, .int 0, .ref a4_47, .ref a5_48, .ref a6_49, .ref a7_50, .ref a8_51, .ref a9_52, .ref a10_53, .int 0, .int 0, .ref a13_54, .int 0, .ref a15_55, .int 0, .ref a17_56])), (a13_54, .inl (ct 1, 5000, .inl (fun _ => 0))), (q_57, .inr (7, [.ref r_61, .int 0])), (q_67, .inr (8, [.ref q_1, .ref q_40, .int 0, .int 0, .int 0, .int 0]))] _ := hP
  have hD : va_D A [(h0, .inr (11, [.ref q_1, .ref q_6, .ref q_12, .ref q_18, .ref q_23, .ref q_40, .ref q_57, .ref q_62, .int 0, .ref q_67, .null, .null, .null, .null])), (q_1, .inr (9, [.ref r_5, .int 0])), (r_5, .inl (ct 0, 2000, .inl (fun _ => 0))), (q_6, .inr (6, [.ref a_10, .ref b_11, .int 0])), (b_11, .inl (ct 1, 16, .inl (fun _ => 0))), (q_12, .inr (4, [.ref a_16, .ref b_17, .ref q_6, .int 0, .int 0, .int 0, .int 0, .int 0, .long 0, .int 0])), (b_17, .inl (ct 0, 64, .inl (fun _ => 0))), (q_18, .inr (5, [.ref r_22, .int 0])), (q_40, .inr (2, [.ref a0_44, .ref a1_45, .ref a2_46, .int 0, .ref a4_47, .ref a5_48, .ref a6_49, .ref a7_50, .ref a8_51, .ref a9_52, .ref a10_53, .int 0, .int 0, .ref a13_54, .int 0, .ref a15_55, .int 0, .ref a17_56])), (a13_54, .inl (ct 1, 5000, .inl (fun _ => 0))), (q_57, .inr (7, [.ref r_61, .int 0])), (q_67, .inr (8, [.ref q_1, .ref q_40, .int 0, .int 0, .int 0, .int 0]))] := hD
  refine lv_aload_n hx hb dX11_init_115 rfl (lv_at hl 0 rfl) ?_
  refine W.widen (k := 43) (n := 168299) (Nat.le_of_ble_eq_true rfl) (Nat.le_of_ble_eq_true rfl) ?_
  refine va_new (ci := 0) (fs := [.null, .null, .null, .null, .int 0]) (C := RX0) (T := TX0) (N := 5) hx hb (htX0 hn) (fun _ h => h) tyX0 tyX0_ok hown (hn.get mw_260 rfl) (hn.get mw_261 rfl) (hn.get mw_9 rfl) hK hP hD hS hA rfl (dfX0) (Nat.le_of_ble_eq_true rfl) (Nat.le_of_ble_eq_true rfl) dX11_init_116 (fun q_71 H hP hD hS => ?_)
  refine W.widen (k := 44) (n := 168304) (Nat.le_of_ble_eq_true rfl) (Nat.le_of_ble_eq_true rfl) ?_
  have hP : va_P D vwCl [(h0, .inr (11, [.ref q_1, .ref q_6, .ref q_12, .ref q_18, .ref q_23, .ref q_40, .ref q_57, .ref q_62, .int 0, .ref q_67, .null, .null, .null, .null])), (q_1, .inr (9, [.ref r_5, .int 0])), (r_5, .inl (ct 0, 2000, .inl (fun _ => 0))), (q_6, .inr (6, [.ref a_10, .ref b_11, .int 0])), (b_11, .inl (ct 1, 16, .inl (fun _ => 0))), (q_12, .inr (4, [.ref a_16, .ref b_17, .ref q_6, .int 0, .int 0, .int 0, .int 0, .int 0, .long 0, .int 0])), (b_17, .inl (ct 0, 64, .inl (fun _ => 0))), (q_18, .inr (5, [.ref r_22, .int 0])), (q_40, .inr (2, [.ref a0_44, .ref a1_45, .ref a2_46, .int 0, .ref a4_47, .ref a5_48, .ref a6_49, .ref a7_50, .ref a8_51, .ref a9_52, .ref a10_53, .int 0, .int 0, .ref a13_54, .int 0, .ref a15_55, .int 0, .ref a17_56])), (a13_54, .inl (ct 1, 5000, .inl (fun _ => 0))), (q_57, .inr (7, [.ref r_61, .int 0])), (q_67, .inr (8, [.ref q_1, .ref q_40, .int 0, .int 0, .int 0, .int 0])), (q_71, .inr (0, [.null, .null, .null, .null, .int 0]))] _ := hP
  have hD : va_D A [(h0, .inr (11, [.ref q_1, .ref q_6, .ref q_12, .ref q_18, .ref q_23, .ref q_40, .ref q_57, .ref q_62, .int 0, .ref q_67, .null, .null, .null, .null])), (q_1, .inr (9, [.ref r_5, .int 0])), (r_5, .inl (ct 0, 2000, .inl (fun _ => 0))), (q_6, .inr (6, [.ref a_10, .ref b_11, .int 0])), (b_11, .inl (ct 1, 16, .inl (fun _ => 0))), (q_12, .inr (4, [.ref a_16, .ref b_17, .ref q_6, .int 0, .int 0, .int 0, .int 0, .int 0, .long 0, .int 0])), (b_17, .inl (ct 0, 64, .inl (fun _ => 0))), (q_18, .inr (5, [.ref r_22, .int 0])), (q_40, .inr (2, [.ref a0_44, .ref a1_45, .ref a2_46, .int 0, .ref a4_47, .ref a5_48, .ref a6_49, .ref a7_50, .ref a8_51, .ref a9_52, .ref a10_53, .int 0, .int 0, .ref a13_54, .int 0, .ref a15_55, .int 0, .ref a17_56])), (a13_54, .inl (ct 1, 5000, .inl (fun _ => 0))), (q_57, .inr (7, [.ref r_61, .int 0])), (q_67, .inr (8, [.ref q_1, .ref q_40, .int 0, .int 0, .int 0, .int 0])), (q_71, .inr (0, [.null, .null, .null, .null, .int 0]))] := hD
  refine lv_dup hx hb dX11_init_119 rfl ?_
  refine lv_aload_n hx hb dX11_init_120 rfl (lv_at hl 0 rfl) ?_
  refine va_get (D := D) (ci := 11) (v := .ref q_40) (C := RX11) (T := TX11) (N := 14) hx hb (htX11 hn) (fun _ h => h) hown hK hP 0 rfl rfl 5 (by decide) (hn.get mw_386 rfl) (fun _ h9 => h9) rfl dX11_init_121 ?_
  refine lv_aload_n hx hb dX11_init_124 rfl (lv_at hl 0 rfl) ?_
  refine va_get (D := D) (ci := 11) (v := .ref q_62) (C := RX11) (T := TX11) (N := 14) hx hb (htX11 hn) (fun _ h => h) hown hK hP 0 rfl rfl 7 (by decide) (hn.get mw_388 rfl) (fun _ h9 => h9) rfl dX11_init_125 ?_
  have hPc := hP.sub (ws' := [(q_71, .inr (0, [.null, .null, .null, .null, .int 0]))]) [12] rfl
  have hDc := hD.sub (ws' := [(q_71, .inr (0, [.null, .null, .null, .null, .int 0]))]) [12] (by decide) rfl
  refine go_v (k1 := 46) (n1 := 175306) (wr := [(h0, .inr (11, [.ref q_1, .ref q_6, .ref q_12, .ref q_18, .ref q_23, .ref q_40, .ref q_57, .ref q_62, .int 0, .ref q_67, .null, .null, .null, .null])), (q_1, .inr (9, [.ref r_5, .int 0])), (r_5, .inl (ct 0, 2000, .inl (fun _ => 0))), (q_6, .inr (6, [.ref a_10, .ref b_11, .int 0])), (b_11, .inl (ct 1, 16, .inl (fun _ => 0))), (q_12, .inr (4, [.ref a_16, .ref b_17, .ref q_6, .int 0, .int 0, .int 0, .int 0, .int 0, .long 0, .int 0])), (b_17, .inl (ct 0, 64, .inl (fun _ => 0))), (q_18, .inr (5, [.ref r_22, .int 0])), (q_40, .inr (2, [.ref a0_44, .ref a1_45, .ref a2_46, .int 0, .ref a4_47, .ref a5_48, .ref a6_49, .ref a7_50, .ref a8_51, .ref a9_52, .ref a10_53, .int 0, .int 0, .ref a13_54, .int 0, .ref a15_55, .int 0, .ref a17_56])), (a13_54, .inl (ct 1, 5000, .inl (fun _ => 0))), (q_57, .inr (7, [.ref r_61, .int 0])), (q_67, .inr (8, [.ref q_1, .ref q_40, .int 0, .int 0, .int 0, .int 0]))]) [12] [0, 1, 2, 3, 4, 5, 6, 7, 8, 9, 10, 11] (rn_IN (As := [.ref q_40, .ref q_62]) (rest := [.ref q_71, .ref h0]) (c_X0_init l D ct q_71 q_40 q_62  _) (cn_of (n := 2) hn mw_264 mw_9 mw_262 mhX0_init ⟨Nat.le_of_ble_eq_true rfl, Nat.le_of_ble_eq_true rfl⟩) hx hb hml hown hn hK hPc hDc mw_263 rfl rfl hl.1 (Nat.le_of_ble_eq_true rfl) dX11_init_128 ⟨(Nat.le_of_ble_eq_true rfl), (Nat.le_of_ble_eq_true rfl)⟩) hP hD hS hA rfl rfl (by decide) (by decide) (Nat.le_of_ble_eq_true rfl) (Nat.le_of_ble_eq_true rfl) (fun u_73 H locs hp_74 hP hD hS => ?_)
  obtain ⟨a_75, b_76⟩ := u_73
  have hP : va_P D vwCl [(h0, .inr (11, [.ref q_1, .ref q_6, .ref q_12, .ref q_18, .ref q_23, .ref q_40, .ref q_57, .ref q_62, .int 0, .ref q_67, .null, .null, .null, .null])), (q_1, .inr (9, [.ref r_5, .int 0])), (r_5, .inl (ct 0, 2000, .inl (fun _ => 0))), (q_6, .inr (6, [.ref a_10, .ref b_11, .int 0])), (b_11, .inl (ct 1, 16, .inl (fun _ => 0))), (q_12, .inr (4, [.ref a_16, .ref b_17, .ref q_6, .int 0, .int 0, .int 0, .int 0, .int 0, .long 0, .int 0])), (b_17, .inl (ct 0, 64, .inl (fun _ => 0))), (q_18, .inr (5, [.ref r_22, .int 0])), (q_40, .inr (2, [.ref a0_44, .ref a1_45, .ref a2_46, .int 0, .ref a4_47, .ref a5_48, .ref a6_49, .ref a7_50, .ref a8_51, .ref a9_52, .ref a10_53, .int 0, .int 0, .ref a13_54, .int 0, .ref a15_55, .int 0, .ref a17_56])), (a13_54, .inl (ct 1, 5000, .inl (fun _ => 0))), (q_57, .inr (7, [.ref r_61, .int 0])), (q_67, .inr (8, [.ref q_1, .ref q_40, .int 0, .int 0, .int 0, .int 0])), (q_71, .inr (0, [.ref a_75, .ref b_76, .ref q_40, .ref q_62, .int 0])), (a_75, .inl (ct 1, 3002, .inl (fun _ => 0))), (b_76, .inl (ct 1, 4000, .inl (fun _ => 0)))] _ := hP
  have hD : va_D A [(h0, .inr (11, [.ref q_1, .ref q_6, .ref q_12, .ref q_18, .ref q_23, .ref q_40, .ref q_57, .ref q_62, .int 0, .ref q_67, .null, .null, .null, .null])), (q_1, .inr (9, [.ref r_5, .int 0])), (r_5, .inl (ct 0, 2000, .inl (fun _ => 0))), (q_6, .inr (6, [.ref a_10, .ref b_11, .int 0])), (b_11, .inl (ct 1, 16, .inl (fun _ => 0))), (q_12, .inr (4, [.ref a_16, .ref b_17, .ref q_6, .int 0, .int 0, .int 0, .int 0, .int 0, .long 0, .int 0])), (b_17, .inl (ct 0, 64, .inl (fun _ => 0))), (q_18, .inr (5, [.ref r_22, .int 0])), (q_40, .inr (2, [.ref a0_44, .ref a1_45, .ref a2_46, .int 0, .ref a4_47, .ref a5_48, .ref a6_49, .ref a7_50, .ref a8_51, .ref a9_52, .ref a10_53, .int 0, .int 0, .ref a13_54, .int 0, .ref a15_55, .int 0, .ref a17_56])), (a13_54, .inl (ct 1, 5000, .inl (fun _ => 0))), (q_57, .inr (7, [.ref r_61, .int 0])), (q_67, .inr (8, [.ref q_1, .ref q_40, .int 0, .int 0, .int 0, .int 0])), (q_71, .inr (0, [.ref a_75, .ref b_76, .ref q_40, .ref q_62, .int 0])), (a_75, .inl (ct 1, 3002, .inl (fun _ => 0))), (b_76, .inl (ct 1, 4000, .inl (fun _ => 0)))] := hD
  refine va_putF (D := D) (ci := 11) (v := .ref q_71) (ty := .object "FilterForge$Coder") (C := RX11) (T := TX11) (N := 14) hx hb (htX11 hn) (fun _ h => h) tyX11 tyX11_ok nmX11 hown hK hP hD hS 0 rfl rfl 10 (by decide) (hn.get mw_391 rfl) (fun _ h9 => h9) rfl hin rfl (by decide +kernel) rfl rfl (Nat.le_of_ble_eq_true rfl) dX11_init_131 (fun H locs hP hD hS => ?_)
  have hP : va_P D vwCl [(h0, .inr (11, [.ref q_1, .ref q_6, .ref q_12, .ref q_18, .ref q_23, .ref q_40, .ref q_57, .ref q_62, .int 0, .ref q_67, .ref q_71, .null, .null, .null])), (q_1, .inr (9, [.ref r_5, .int 0])), (r_5, .inl (ct 0, 2000, .inl (fun _ => 0))), (q_6, .inr (6, [.ref a_10, .ref b_11, .int 0])), (b_11, .inl (ct 1, 16, .inl (fun _ => 0))), (q_12, .inr (4, [.ref a_16, .ref b_17, .ref q_6, .int 0, .int 0, .int 0, .int 0, .int 0, .long 0, .int 0])), (b_17, .inl (ct 0, 64, .inl (fun _ => 0))), (q_18, .inr (5, [.ref r_22, .int 0])), (q_40, .inr (2, [.ref a0_44, .ref a1_45, .ref a2_46, .int 0, .ref a4_47, .ref a5_48, .ref a6_49, .ref a7_50, .ref a8_51, .ref a9_52, .ref a10_53, .int 0, .int 0, .ref a13_54, .int 0, .ref a15_55, .int 0, .ref a17_56])), (a13_54, .inl (ct 1, 5000, .inl (fun _ => 0))), (q_57, .inr (7, [.ref r_61, .int 0])), (q_67, .inr (8, [.ref q_1, .ref q_40, .int 0, .int 0, .int 0, .int 0])), (q_71, .inr (0, [.ref a_75, .ref b_76, .ref q_40, .ref q_62, .int 0])), (a_75, .inl (ct 1, 3002, .inl (fun _ => 0))), (b_76, .inl (ct 1, 4000, .inl (fun _ => 0)))] _ := hP
  have hD : va_D A [(h0, .inr (11, [.ref q_1, .ref q_6, .ref q_12, .ref q_18, .ref q_23, .ref q_40, .ref q_57, .ref q_62, .int 0, .ref q_67, .ref q_71, .null, .null, .null])), (q_1, .inr (9, [.ref r_5, .int 0])), (r_5, .inl (ct 0, 2000, .inl (fun _ => 0))), (q_6, .inr (6, [.ref a_10, .ref b_11, .int 0])), (b_11, .inl (ct 1, 16, .inl (fun _ => 0))), (q_12, .inr (4, [.ref a_16, .ref b_17, .ref q_6, .int 0, .int 0, .int 0, .int 0, .int 0, .long 0, .int 0])), (b_17, .inl (ct 0, 64, .inl (fun _ => 0))), (q_18, .inr (5, [.ref r_22, .int 0])), (q_40, .inr (2, [.ref a0_44, .ref a1_45, .ref a2_46, .int 0, .ref a4_47, .ref a5_48, .ref a6_49, .ref a7_50, .ref a8_51, .ref a9_52, .ref a10_53, .int 0, .int 0, .ref a13_54, .int 0, .ref a15_55, .int 0, .ref a17_56])), (a13_54, .inl (ct 1, 5000, .inl (fun _ => 0))), (q_57, .inr (7, [.ref r_61, .int 0])), (q_67, .inr (8, [.ref q_1, .ref q_40, .int 0, .int 0, .int 0, .int 0])), (q_71, .inr (0, [.ref a_75, .ref b_76, .ref q_40, .ref q_62, .int 0])), (a_75, .inl (ct 1, 3002, .inl (fun _ => 0))), (b_76, .inl (ct 1, 4000, .inl (fun _ => 0)))] := hD
  have hP := hP.sub (ws' := [(h0, .inr (11, [.ref q_1, .ref q_6, .ref q_12, .ref q_18, .ref q_23, .ref q_40, .ref q_57, .ref q_62, .int 0, .ref q_67, .ref q_71, .null, .null, .null])), (q_1, .inr (9, [.ref r_5, .int 0])), (r_5, .inl (ct 0, 2000, .inl (fun _ => 0))), (q_6, .inr (6, [.ref a_10, .ref b_11, .int 0])), (b_11, .inl (ct 1, 16, .inl (fun _ => 0))), (q_12, .inr (4, [.ref a_16, .ref b_17, .ref q_6, .int 0, .int 0, .int 0, .int 0, .int 0, .long 0, .int 0])), (b_17, .inl (ct 0, 64, .inl (fun _ => 0))), (q_18, .inr (5, [.ref r_22, .int 0])), (q_40, .inr (2, [.ref a0_44, .ref a1_45, .ref a2_46, .int 0, .ref a4_47, .ref a5_48, .ref a6_49, .ref a7_50, .ref a8_51, .ref a9_52, .ref a10_53, .int 0, .int 0, .ref a13_54, .int 0, .ref a15_55, .int 0, .ref a17_56])), (a13_54, .inl (ct 1, 5000, .inl (fun _ => 0))), (q_57, .inr (7, [.ref r_61, .int 0])), (q_67, .inr (8, [.ref q_1, .ref q_40, .int 0, .int 0, .int 0, .int 0]))]) [0, 1, 2, 3, 4, 5, 6, 7, 8, 9, 10, 11] rfl
  have hD := hD.sub (ws' := [(h0, .inr (11, [.ref q_1, .ref q_6, .ref q_12, .ref q_18, .ref q_23, .ref q_40, .ref q_57, .ref q_62, .int 0, .ref q_67, .ref q_71, .null, .null, .null])), (q_1, .inr (9, [.ref r_5, .int 0])), (r_5, .inl (ct 0, 2000, .inl (fun _ => 0))), (q_6, .inr (6, [.ref a_10, .ref b_11, .int 0])), (b_11, .inl (ct 1, 16, .inl (fun _ => 0))), (q_12, .inr (4, [.ref a_16, .ref b_17, .ref q_6, .int 0, .int 0, .int 0, .int 0, .int 0, .long 0, .int 0])), (b_17, .inl (ct 0, 64, .inl (fun _ => 0))), (q_18, .inr (5, [.ref r_22, .int 0])), (q_40, .inr (2, [.ref a0_44, .ref a1_45, .ref a2_46, .int 0, .ref a4_47, .ref a5_48, .ref a6_49, .ref a7_50, .ref a8_51, .ref a9_52, .ref a10_53, .int 0, .int 0, .ref a13_54, .int 0, .ref a15_55, .int 0, .ref a17_56])), (a13_54, .inl (ct 1, 5000, .inl (fun _ => 0))), (q_57, .inr (7, [.ref r_61, .int 0])), (q_67, .inr (8, [.ref q_1, .ref q_40, .int 0, .int 0, .int 0, .int 0]))]) [0, 1, 2, 3, 4, 5, 6, 7, 8, 9, 10, 11] (by decide) rfl
  refine lv_aload_n hx hb dX11_init_134 rfl (lv_at hl 0 rfl) ?_
  refine W.widen (k := 46) (n := 175306) (Nat.le_of_ble_eq_true rfl) (Nat.le_of_ble_eq_true rfl) ?_
  refine va_new (ci := 10) (fs := [.null, .null, .null, .int 0, .int 0]) (C := RX10) (T := TX10) (N := 5) hx hb (htX10 hn) (fun _ h => h) tyX10 tyX10_ok hown (hn.get mw_282 rfl) (hn.get mw_283 rfl) (hn.get mw_10 rfl) hK hP hD hS hA rfl (dfX10) (Nat.le_of_ble_eq_true rfl) (Nat.le_of_ble_eq_true rfl) dX11_init_135 (fun q_77 H hP hD hS => ?_)
  refine W.widen (k := 47) (n := 175311) (Nat.le_of_ble_eq_true rfl) (Nat.le_of_ble_eq_true rfl) ?_
  have hP : va_P D vwCl [(h0, .inr (11, [.ref q_1, .ref q_6, .ref q_12, .ref q_18, .ref q_23, .ref q_40, .ref q_57, .ref q_62, .int 0, .ref q_67, .ref q_71, .null, .null, .null])), (q_1, .inr (9, [.ref r_5, .int 0])), (r_5, .inl (ct 0, 2000, .inl (fun _ => 0))), (q_6, .inr (6, [.ref a_10, .ref b_11, .int 0])), (b_11, .inl (ct 1, 16, .inl (fun _ => 0))), (q_12, .inr (4, [.ref a_16, .ref b_17, .ref q_6, .int 0, .int 0, .int 0, .int 0, .int 0, .long 0, .int 0])), (b_17, .inl (ct 0, 64, .inl (fun _ => 0))), (q_18, .inr (5, [.ref r_22, .int 0])), (q_40, .inr (2, [.ref a0_44, .ref a1_45, .ref a2_46, .int 0, .ref a4_47, .ref a5_48, .ref a6_49, .ref a7_50, .ref a8_51, .ref a9_52, .ref a10_53, .int 0, .int 0, .ref a13_54, .int 0, .ref a15_55, .int 0, .ref a17_56])), (a13_54, .inl (ct 1, 5000, .inl (fun _ => 0))), (q_57, .inr (7, [.ref r_61, .int 0])), (q_67, .inr (8, [.ref q_1, .ref q_40, .int 0, .int 0, .int 0, .int 0])), (q_77, .inr (10, [.null, .null, .null, .int 0, .int 0]))] _ := hP
  have hD : va_D A [(h0, .inr (11, [.ref q_1, .ref q_6, .ref q_12, .ref q_18, .ref q_23, .ref q_40, .ref q_57, .ref q_62, .int 0, .ref q_67, .ref q_71, .null, .null, .null])), (q_1, .inr (9, [.ref r_5, .int 0])), (r_5, .inl (ct 0, 2000, .inl (fun _ => 0))), (q_6, .inr (6, [.ref a_10, .ref b_11, .int 0])), (b_11, .inl (ct 1, 16, .inl (fun _ => 0))), (q_12, .inr (4, [.ref a_16, .ref b_17, .ref q_6, .int 0, .int 0, .int 0, .int 0, .int 0, .long 0, .int 0])), (b_17, .inl (ct 0, 64, .inl (fun _ => 0))), (q_18, .inr (5, [.ref r_22, .int 0])), (q_40, .inr (2, [.ref a0_44, .ref a1_45, .ref a2_46, .int 0, .ref a4_47, .ref a5_48, .ref a6_49, .ref a7_50, .ref a8_51, .ref a9_52, .ref a10_53, .int 0, .int 0, .ref a13_54, .int 0, .ref a15_55, .int 0, .ref a17_56])), (a13_54, .inl (ct 1, 5000, .inl (fun _ => 0))), (q_57, .inr (7, [.ref r_61, .int 0])), (q_67, .inr (8, [.ref q_1, .ref q_40, .int 0, .int 0, .int 0, .int 0])), (q_77, .inr (10, [.null, .null, .null, .int 0, .int 0]))] := hD
  refine lv_dup hx hb dX11_init_138 rfl ?_
  refine lv_aload_n hx hb dX11_init_139 rfl (lv_at hl 0 rfl) ?_
  refine va_get (D := D) (ci := 11) (v := .ref q_57) (C := RX11) (T := TX11) (N := 14) hx hb (htX11 hn) (fun _ h => h) hown hK hP 0 rfl rfl 6 (by decide) (hn.get mw_387 rfl) (fun _ h9 => h9) rfl dX11_init_140 ?_
  refine lv_aload_n hx hb dX11_init_143 rfl (lv_at hl 0 rfl) ?_
  refine va_get (D := D) (ci := 11) (v := .ref q_18) (C := RX11) (T := TX11) (N := 14) hx hb (htX11 hn) (fun _ h => h) hown hK hP 0 rfl rfl 3 (by decide) (hn.get mw_384 rfl) (fun _ h9 => h9) rfl dX11_init_144 ?_
  have hPc := hP.sub (ws' := [(q_77, .inr (10, [.null, .null, .null, .int 0, .int 0]))]) [12] rfl
  have hDc := hD.sub (ws' := [(q_77, .inr (10, [.null, .null, .null, .int 0, .int 0]))]) [12] (by decide) rfl
  refine go_v (k1 := 48) (n1 := 179312) (wr := [(h0, .inr (11, [.ref q_1, .ref q_6, .ref q_12, .ref q_18, .ref q_23, .ref q_40, .ref q_57, .ref q_62, .int 0, .ref q_67, .ref q_71, .null, .null, .null])), (q_1, .inr (9, [.ref r_5, .int 0])), (r_5, .inl (ct 0, 2000, .inl (fun _ => 0))), (q_6, .inr (6, [.ref a_10, .ref b_11, .int 0])), (b_11, .inl (ct 1, 16, .inl (fun _ => 0))), (q_12, .inr (4, [.ref a_16, .ref b_17, .ref q_6, .int 0, .int 0, .int 0, .int 0, .int 0, .long 0, .int 0])), (b_17, .inl (ct 0, 64, .inl (fun _ => 0))), (q_18, .inr (5, [.ref r_22, .int 0])), (q_40, .inr (2, [.ref a0_44, .ref a1_45, .ref a2_46, .int 0, .ref a4_47, .ref a5_48, .ref a6_49, .ref a7_50, .ref a8_51, .ref a9_52, .ref a10_53, .int 0, .int 0, .ref a13_54, .int 0, .ref a15_55, .int 0, .ref a17_56])), (a13_54, .inl (ct 1, 5000, .inl (fun _ => 0))), (q_57, .inr (7, [.ref r_61, .int 0])), (q_67, .inr (8, [.ref q_1, .ref q_40, .int 0, .int 0, .int 0, .int 0]))]) [12] [0, 1, 2, 3, 4, 5, 6, 7, 8, 9, 10, 11] (rn_IN (As := [.ref q_57, .ref q_18]) (rest := [.ref q_77, .ref h0]) (c_X10_init l D ct q_77 q_57 q_18  _) (cn_of (n := 2) hn mw_286 mw_10 mw_284 mhX10_init ⟨Nat.le_of_ble_eq_true rfl, Nat.le_of_ble_eq_true rfl⟩) hx hb hml hown hn hK hPc hDc mw_285 rfl rfl hl.1 (Nat.le_of_ble_eq_true rfl) dX11_init_147 ⟨(Nat.le_of_ble_eq_true rfl), (Nat.le_of_ble_eq_true rfl)⟩) hP hD hS hA rfl rfl (by decide) (by decide) (Nat.le_of_ble_eq_true rfl) (Nat.le_of_ble_eq_true rfl) (fun u_79 H locs hp_80 hP hD hS => ?_)
  obtain ⟨a_81, rfl⟩ : ∃ z, z = u_79 := ⟨_, rfl⟩
  have hP : va_P D vwCl [(h0, .inr (11, [.ref q_1, .ref q_6, .ref q_12, .ref q_18, .ref q_23, .ref q_40, .ref q_57, .ref q_62, .int 0, .ref q_67, .ref q_71, .null, .null, .null])), (q_1, .inr (9, [.ref r_5, .int 0])), (r_5, .inl (ct 0, 2000, .inl (fun _ => 0))), (q_6, .inr (6, [.ref a_10, .ref b_11, .int 0])), (b_11, .inl (ct 1, 16, .inl (fun _ => 0))), (q_12, .inr (4, [.ref a_16, .ref b_17, .ref q_6, .int 0, .int 0, .int 0, .int 0, .int 0, .long 0, .int 0])), (b_17, .inl (ct 0, 64, .inl (fun _ => 0))), (q_18, .inr (5, [.ref r_22, .int 0])), (q_40, .inr (2, [.ref a0_44, .ref a1_45, .ref a2_46, .int 0, .ref a4_47, .ref a5_48, .ref a6_49, .ref a7_50, .ref a8_51, .ref a9_52, .ref a10_53, .int 0, .int 0, .ref a13_54, .int 0, .ref a15_55, .int 0, .ref a17_56])), (a13_54, .inl (ct 1, 5000, .inl (fun _ => 0))), (q_57, .inr (7, [.ref r_61, .int 0])), (q_67, .inr (8, [.ref q_1, .ref q_40, .int 0, .int 0, .int 0, .int 0])), (q_77, .inr (10, [.ref a_81, .ref q_18, .ref q_57, .int 0, .int 0])), (a_81, .inl (ct 1, 4001, .inl (fun _ => 0)))] _ := hP
  have hD : va_D A [(h0, .inr (11, [.ref q_1, .ref q_6, .ref q_12, .ref q_18, .ref q_23, .ref q_40, .ref q_57, .ref q_62, .int 0, .ref q_67, .ref q_71, .null, .null, .null])), (q_1, .inr (9, [.ref r_5, .int 0])), (r_5, .inl (ct 0, 2000, .inl (fun _ => 0))), (q_6, .inr (6, [.ref a_10, .ref b_11, .int 0])), (b_11, .inl (ct 1, 16, .inl (fun _ => 0))), (q_12, .inr (4, [.ref a_16, .ref b_17, .ref q_6, .int 0, .int 0, .int 0, .int 0, .int 0, .long 0, .int 0])), (b_17, .inl (ct 0, 64, .inl (fun _ => 0))), (q_18, .inr (5, [.ref r_22, .int 0])), (q_40, .inr (2, [.ref a0_44, .ref a1_45, .ref a2_46, .int 0, .ref a4_47, .ref a5_48, .ref a6_49, .ref a7_50, .ref a8_51, .ref a9_52, .ref a10_53, .int 0, .int 0, .ref a13_54, .int 0, .ref a15_55, .int 0, .ref a17_56])), (a13_54, .inl (ct 1, 5000, .inl (fun _ => 0))), (q_57, .inr (7, [.ref r_61, .int 0])), (q_67, .inr (8, [.ref q_1, .ref q_40, .int 0, .int 0, .int 0, .int 0])), (q_77, .inr (10, [.ref a_81, .ref q_18, .ref q_57, .int 0, .int 0])), (a_81, .inl (ct 1, 4001, .inl (fun _ => 0)))] := hD
  refine va_putF (D := D) (ci := 11) (v := .ref q_77) (ty := .object "FilterForge$Translator") (C := RX11) (T := TX11) (N := 14) hx hb (htX11 hn) (fun _ h => h) tyX11 tyX11_ok nmX11 hown hK hP hD hS 0 rfl rfl 11 (by decide) (hn.get mw_392 rfl) (fun _ h9 => h9) rfl hin rfl (by decide +kernel) rfl rfl (Nat.le_of_ble_eq_true rfl) dX11_init_150 (fun H locs hP hD hS => ?_)
  have hP : va_P D vwCl [(h0, .inr (11, [.ref q_1, .ref q_6, .ref q_12, .ref q_18, .ref q_23, .ref q_40, .ref q_57, .ref q_62, .int 0, .ref q_67, .ref q_71, .ref q_77, .null, .null])), (q_1, .inr (9, [.ref r_5, .int 0])), (r_5, .inl (ct 0, 2000, .inl (fun _ => 0))), (q_6, .inr (6, [.ref a_10, .ref b_11, .int 0])), (b_11, .inl (ct 1, 16, .inl (fun _ => 0))), (q_12, .inr (4, [.ref a_16, .ref b_17, .ref q_6, .int 0, .int 0, .int 0, .int 0, .int 0, .long 0, .int 0])), (b_17, .inl (ct 0, 64, .inl (fun _ => 0))), (q_18, .inr (5, [.ref r_22, .int 0])), (q_40, .inr (2, [.ref a0_44, .ref a1_45, .ref a2_46, .int 0, .ref a4_47, .ref a5_48, .ref a6_49, .ref a7_50, .ref a8_51, .ref a9_52, .ref a10_53, .int 0, .int 0, .ref a13_54, .int 0, .ref a15_55, .int 0, .ref a17_56])), (a13_54, .inl (ct 1, 5000, .inl (fun _ => 0))), (q_57, .inr (7, [.ref r_61, .int 0])), (q_67, .inr (8, [.ref q_1, .ref q_40, .int 0, .int 0, .int 0, .int 0])), (q_77, .inr (10, [.ref a_81, .ref q_18, .ref q_57, .int 0, .int 0])), (a_81, .inl (ct 1, 4001, .inl (fun _ => 0)))] _ := hP
  have hD : va_D A [(h0, .inr (11, [.ref q_1, .ref q_6, .ref q_12, .ref q_18, .ref q_23, .ref q_40, .ref q_57, .ref q_62, .int 0, .ref q_67, .ref q_71, .ref q_77, .null, .null])), (q_1, .inr (9, [.ref r_5, .int 0])), (r_5, .inl (ct 0, 2000, .inl (fun _ => 0))), (q_6, .inr (6, [.ref a_10, .ref b_11, .int 0])), (b_11, .inl (ct 1, 16, .inl (fun _ => 0))), (q_12, .inr (4, [.ref a_16, .ref b_17, .ref q_6, .int 0, .int 0, .int 0, .int 0, .int 0, .long 0, .int 0])), (b_17, .inl (ct 0, 64, .inl (fun _ => 0))), (q_18, .inr (5, [.ref r_22, .int 0])), (q_40, .inr (2, [.ref a0_44, .ref a1_45, .ref a2_46, .int 0, .ref a4_47, .ref a5_48, .ref a6_49, .ref a7_50, .ref a8_51, .ref a9_52, .ref a10_53, .int 0, .int 0, .ref a13_54, .int 0, .ref a15_55, .int 0, .ref a17_56])), (a13_54, .inl (ct 1, 5000, .inl (fun _ => 0))), (q_57, .inr (7, [.ref r_61, .int 0])), (q_67, .inr (8, [.ref q_1, .ref q_40, .int 0, .int 0, .int 0, .int 0])), (q_77, .inr (10, [.ref a_81, .ref q_18, .ref q_57, .int 0, .int 0])), (a_81, .inl (ct 1, 4001, .inl (fun _ => 0)))] := hD
  have hP := hP.sub (ws' := [(h0, .inr (11, [.ref q_1, .ref q_6, .ref q_12, .ref q_18, .ref q_23, .ref q_40, .ref q_57, .ref q_62, .int 0, .ref q_67, .ref q_71, .ref q_77, .null, .null])), (q_1, .inr (9, [.ref r_5, .int 0])), (r_5, .inl (ct 0, 2000, .inl (fun _ => 0))), (q_6, .inr (6, [.ref a_10, .ref b_11, .int 0])), (b_11, .inl (ct 1, 16, .inl (fun _ => 0))), (q_12, .inr (4, [.ref a_16, .ref b_17, .ref q_6, .int 0, .int 0, .int 0, .int 0, .int 0, .long 0, .int 0])), (b_17, .inl (ct 0, 64, .inl (fun _ => 0))), (q_18, .inr (5, [.ref r_22, .int 0])), (q_40, .inr (2, [.ref a0_44, .ref a1_45, .ref a2_46, .int 0, .ref a4_47, .ref a5_48, .ref a6_49, .ref a7_50, .ref a8_51, .ref a9_52, .ref a10_53, .int 0, .int 0, .ref a13_54, .int 0, .ref a15_55, .int 0, .ref a17_56])), (a13_54, .inl (ct 1, 5000, .inl (fun _ => 0))), (q_57, .inr (7, [.ref r_61, .int 0])), (q_67, .inr (8, [.ref q_1, .ref q_40, .int 0, .int 0, .int 0, .int 0]))]) [0, 1, 2, 3, 4, 5, 6, 7, 8, 9, 10, 11] rfl
  have hD := hD.sub (ws' := [(h0, .inr (11, [.ref q_1, .ref q_6, .ref q_12, .ref q_18, .ref q_23, .ref q_40, .ref q_57, .ref q_62, .int 0, .ref q_67, .ref q_71, .ref q_77, .null, .null])), (q_1, .inr (9, [.ref r_5, .int 0])), (r_5, .inl (ct 0, 2000, .inl (fun _ => 0))), (q_6, .inr (6, [.ref a_10, .ref b_11, .int 0])), (b_11, .inl (ct 1, 16, .inl (fun _ => 0))), (q_12, .inr (4, [.ref a_16, .ref b_17, .ref q_6, .int 0, .int 0, .int 0, .int 0, .int 0, .long 0, .int 0])), (b_17, .inl (ct 0, 64, .inl (fun _ => 0))), (q_18, .inr (5, [.ref r_22, .int 0])), (q_40, .inr (2, [.ref a0_44, .ref a1_45, .ref a2_46, .int 0, .ref a4_47, .ref a5_48, .ref a6_49, .ref a7_50, .ref a8_51, .ref a9_52, .ref a10_53, .int 0, .int 0, .ref a13_54, .int 0, .ref a15_55, .int 0, .ref a17_56])), (a13_54, .inl (ct 1, 5000, .inl (fun _ => 0))), (q_57, .inr (7, [.ref r_61, .int 0])), (q_67, .inr (8, [.ref q_1, .ref q_40, .int 0, .int 0, .int 0, .int 0]))]) [0, 1, 2, 3, 4, 5, 6, 7, 8, 9, 10, 11] (by decide) rfl
  refine lv_aload_n hx hb dX11_init_153 rfl (lv_at hl 0 rfl) ?_
  refine W.widen (k := 48) (n := 179312) (Nat.le_of_ble_eq_true rfl) (Nat.le_of_ble_eq_true rfl) ?_
  refine va_new (ci := 3) (fs := [.null, .null, .null, .null, .null, .null, .null, .null, .null, .null, .null, .long 0, .null, .int 0]) (C := RX3) (T := TX3) (N := 14) hx hb (htX3 hn) (fun _ h => h) tyX3 tyX3_ok hown (hn.get mw_304 rfl) (hn.get mw_305 rfl) (hn.get mw_11 rfl) hK hP hD hS hA rfl (dfX3) (Nat.le_of_ble_eq_true rfl) (Nat.le_of_ble_eq_true rfl) dX11_init_154 (fun q_82 H hP hD hS => ?_)
  refine W.widen (k := 49) (n := 179326) (Nat.le_of_ble_eq_true rfl) (Nat.le_of_ble_eq_true rfl) ?_
  have hP : va_P D vwCl [(h0, .inr (11, [.ref q_1, .ref q_6, .ref q_12, .ref q_18, .ref q_23, .ref q_40, .ref q_57, .ref q_62, .int 0, .ref q_67, .ref q_71, .ref q_77, .null, .null])), (q_1, .inr (9, [.ref r_5, .int 0])), (r_5, .inl (ct 0, 2000, .inl (fun _ => 0))), (q_6, .inr (6, [.ref a_10, .ref b_11, .int 0])), (b_11, .inl (ct 1, 16, .inl (fun _ => 0))), (q_12, .inr (4, [.ref a_16, .ref b_17, .ref q_6, .int 0, .int 0, .int 0, .int 0, .int 0, .long 0, .int 0])), (b_17, .inl (ct 0, 64, .inl (fun _ => 0))), (q_18, .inr (5, [.ref r_22, .int 0])), (q_40, .inr (2, [.ref a0_44, .ref a1_45, .ref a2_46, .int 0, .ref a4_47, .ref a5_48, .ref a6_49, .ref a7_50, .ref a8_51, .ref a9_52, .ref a10_53, .int 0, .int 0, .ref a13_54, .int 0, .ref a15_55, .int 0, .ref a17_56])), (a13_54, .inl (ct 1, 5000, .inl (fun _ => 0))), (q_57, .inr (7, [.ref r_61, .int 0])), (q_67, .inr (8, [.ref q_1, .ref q_40, .int 0, .int 0, .int 0, .int 0])), (q_82, .inr (3, [.null, .null, .null, .null, .null, .null, .null, .null, .null, .null, .null, .long 0, .null, .int 0]))] _ := hP
  have hD : va_D A [(h0, .inr (11, [.ref q_1, .ref q_6, .ref q_12, .ref q_18, .ref q_23, .ref q_40, .ref q_57, .ref q_62, .int 0, .ref q_67, .ref q_71, .ref q_77, .null, .null])), (q_1, .inr (9, [.ref r_5, .int 0])), (r_5, .inl (ct 0, 2000, .inl (fun _ => 0))), (q_6, .inr (6, [.ref a_10, .ref b_11, .int 0])), (b_11, .inl (ct 1, 16, .inl (fun _ => 0))), (q_12, .inr (4, [.ref a_16, .ref b_17, .ref q_6, .int 0, .int 0, .int 0, .int 0, .int 0, .long 0, .int 0])), (b_17, .inl (ct 0, 64, .inl (fun _ => 0))), (q_18, .inr (5, [.ref r_22, .int 0])), (q_40, .inr (2, [.ref a0_44, .ref a1_45, .ref a2_46, .int 0, .ref a4_47, .ref a5_48, .ref a6_49, .ref a7_50, .ref a8_51, .ref a9_52, .ref a10_53, .int 0, .int 0, .ref a13_54, .int 0, .ref a15_55, .int 0, .ref a17_56])), (a13_54, .inl (ct 1, 5000, .inl (fun _ => 0))), (q_57, .inr (7, [.ref r_61, .int 0])), (q_67, .inr (8, [.ref q_1, .ref q_40, .int 0, .int 0, .int 0, .int 0])), (q_82, .inr (3, [.null, .null, .null, .null, .null, .null, .null, .null, .null, .null, .null, .long 0, .null, .int 0]))] := hD
  refine lv_dup hx hb dX11_init_157 rfl ?_
  refine lv_aload_n hx hb dX11_init_158 rfl (lv_at hl 0 rfl) ?_
  refine va_get (D := D) (ci := 11) (v := .ref q_57) (C := RX11) (T := TX11) (N := 14) hx hb (htX11 hn) (fun _ h => h) hown hK hP 0 rfl rfl 6 (by decide) (hn.get mw_387 rfl) (fun _ h9 => h9) rfl dX11_init_159 ?_
  have hPc := hP.sub (ws' := [(q_82, .inr (3, [.null, .null, .null, .null, .null, .null, .null, .null, .null, .null, .null, .long 0, .null, .int 0]))]) [12] rfl
  have hDc := hD.sub (ws' := [(q_82, .inr (3, [.null, .null, .null, .null, .null, .null, .null, .null, .null, .null, .null, .long 0, .null, .int 0]))]) [12] (by decide) rfl
  refine go_v (k1 := 71) (n1 := 179407) (wr := [(h0, .inr (11, [.ref q_1, .ref q_6, .ref q_12, .ref q_18, .ref q_23, .ref q_40, .ref q_57, .ref q_62, .int 0, .ref q_67, .ref q_71, .ref q_77, .null, .null])), (q_1, .inr (9, [.ref r_5, .int 0])), (r_5, .inl (ct 0, 2000, .inl (fun _ => 0))), (q_6, .inr (6, [.ref a_10, .ref b_11, .int 0])), (b_11, .inl (ct 1, 16, .inl (fun _ => 0))), (q_12, .inr (4, [.ref a_16, .ref b_17, .ref q_6, .int 0, .int 0, .int 0, .int 0, .int 0, .long 0, .int 0])), (b_17, .inl (ct 0, 64, .inl (fun _ => 0))), (q_18, .inr (5, [.ref r_22, .int 0])), (q_40, .inr (2, [.ref a0_44, .ref a1_45, .ref a2_46, .int 0, .ref a4_47, .ref a5_48, .ref a6_49, .ref a7_50, .ref a8_51, .ref a9_52, .ref a10_53, .int 0, .int 0, .ref a13_54, .int 0, .ref a15_55, .int 0, .ref a17_56])), (a13_54, .inl (ct 1, 5000, .inl (fun _ => 0))), (q_57, .inr (7, [.ref r_61, .int 0])), (q_67, .inr (8, [.ref q_1, .ref q_40, .int 0, .int 0, .int 0, .int 0]))]) [12] [0, 1, 2, 3, 4, 5, 6, 7, 8, 9, 10, 11] (rn_IN (As := [.ref q_57]) (rest := [.ref q_82, .ref h0]) (c_X3_init l D ct q_82 q_57  _) (cn_of (n := 1) hn mw_308 mw_11 mw_306 mhX3_init ⟨Nat.le_of_ble_eq_true rfl, Nat.le_of_ble_eq_true rfl⟩) hx hb hml hown hn hK hPc hDc mw_307 rfl rfl hl.1 (Nat.le_of_ble_eq_true rfl) dX11_init_162 ⟨(Nat.le_of_ble_eq_true rfl), (Nat.le_of_ble_eq_true rfl)⟩) hP hD hS hA rfl rfl (by decide) (by decide) (Nat.le_of_ble_eq_true rfl) (Nat.le_of_ble_eq_true rfl) (fun u_84 H locs hp_85 hP hD hS => ?_)
  obtain ⟨u_86, rfl⟩ : ∃ z, z = u_84 := ⟨_, rfl⟩
  have hP : va_P D vwCl [(h0, .inr (11, [.ref q_1, .ref q_6, .ref q_12, .ref q_18, .ref q_23, .ref q_40, .ref q_57, .ref q_62, .int 0, .ref q_67, .ref q_71, .ref q_77, .null, .null])), (q_1, .inr (9, [.ref r_5, .int 0])), (r_5, .inl (ct 0, 2000, .inl (fun _ => 0))), (q_6, .inr (6, [.ref a_10, .ref b_11, .int 0])), (b_11, .inl (ct 1, 16, .inl (fun _ => 0))), (q_12, .inr (4, [.ref a_16, .ref b_17, .ref q_6, .int 0, .int 0, .int 0, .int 0, .int 0, .long 0, .int 0])), (b_17, .inl (ct 0, 64, .inl (fun _ => 0))), (q_18, .inr (5, [.ref r_22, .int 0])), (q_40, .inr (2, [.ref a0_44, .ref a1_45, .ref a2_46, .int 0, .ref a4_47, .ref a5_48, .ref a6_49, .ref a7_50, .ref a8_51, .ref a9_52, .ref a10_53, .int 0, .int 0, .ref a13_54, .int 0, .ref a15_55, .int 0, .ref a17_56])), (a13_54, .inl (ct 1, 5000, .inl (fun _ => 0))), (q_57, .inr (7, [.ref r_61, .int 0])), (q_67, .inr (8, [.ref q_1, .ref q_40, .int 0, .int 0, .int 0, .int 0])), (q_82, .inr (3, [.ref (u_86 0), .ref (u_86 1), .ref (u_86 2), .ref (u_86 3), .ref (u_86 4), .ref (u_86 5), .ref (u_86 6), .ref (u_86 7), .ref (u_86 8), .ref (u_86 9), .ref (u_86 10), .long 0, .ref q_57, .int (-1)]))] _ := hP
  have hD : va_D A [(h0, .inr (11, [.ref q_1, .ref q_6, .ref q_12, .ref q_18, .ref q_23, .ref q_40, .ref q_57, .ref q_62, .int 0, .ref q_67, .ref q_71, .ref q_77, .null, .null])), (q_1, .inr (9, [.ref r_5, .int 0])), (r_5, .inl (ct 0, 2000, .inl (fun _ => 0))), (q_6, .inr (6, [.ref a_10, .ref b_11, .int 0])), (b_11, .inl (ct 1, 16, .inl (fun _ => 0))), (q_12, .inr (4, [.ref a_16, .ref b_17, .ref q_6, .int 0, .int 0, .int 0, .int 0, .int 0, .long 0, .int 0])), (b_17, .inl (ct 0, 64, .inl (fun _ => 0))), (q_18, .inr (5, [.ref r_22, .int 0])), (q_40, .inr (2, [.ref a0_44, .ref a1_45, .ref a2_46, .int 0, .ref a4_47, .ref a5_48, .ref a6_49, .ref a7_50, .ref a8_51, .ref a9_52, .ref a10_53, .int 0, .int 0, .ref a13_54, .int 0, .ref a15_55, .int 0, .ref a17_56])), (a13_54, .inl (ct 1, 5000, .inl (fun _ => 0))), (q_57, .inr (7, [.ref r_61, .int 0])), (q_67, .inr (8, [.ref q_1, .ref q_40, .int 0, .int 0, .int 0, .int 0])), (q_82, .inr (3, [.ref (u_86 0), .ref (u_86 1), .ref (u_86 2), .ref (u_86 3), .ref (u_86 4), .ref (u_86 5), .ref (u_86 6), .ref (u_86 7), .ref (u_86 8), .ref (u_86 9), .ref (u_86 10), .long 0, .ref q_57, .int (-1)]))] := hD
  refine va_putF (D := D) (ci := 11) (v := .ref q_82) (ty := .object "FilterForge$Inspector") (C := RX11) (T := TX11) (N := 14) hx hb (htX11 hn) (fun _ h => h) tyX11 tyX11_ok nmX11 hown hK hP hD hS 0 rfl rfl 12 (by decide) (hn.get mw_393 rfl) (fun _ h9 => h9) rfl hin rfl (by decide +kernel) rfl rfl (Nat.le_of_ble_eq_true rfl) dX11_init_165 (fun H locs hP hD hS => ?_)
  have hP : va_P D vwCl [(h0, .inr (11, [.ref q_1, .ref q_6, .ref q_12, .ref q_18, .ref q_23, .ref q_40, .ref q_57, .ref q_62, .int 0, .ref q_67, .ref q_71, .ref q_77, .ref q_82, .null])), (q_1, .inr (9, [.ref r_5, .int 0])), (r_5, .inl (ct 0, 2000, .inl (fun _ => 0))), (q_6, .inr (6, [.ref a_10, .ref b_11, .int 0])), (b_11, .inl (ct 1, 16, .inl (fun _ => 0))), (q_12, .inr (4, [.ref a_16, .ref b_17, .ref q_6, .int 0, .int 0, .int 0, .int 0, .int 0, .long 0, .int 0])), (b_17, .inl (ct 0, 64, .inl (fun _ => 0))), (q_18, .inr (5, [.ref r_22, .int 0])), (q_40, .inr (2, [.ref a0_44, .ref a1_45, .ref a2_46, .int 0, .ref a4_47, .ref a5_48, .ref a6_49, .ref a7_50, .ref a8_51, .ref a9_52, .ref a10_53, .int 0, .int 0, .ref a13_54, .int 0, .ref a15_55, .int 0, .ref a17_56])), (a13_54, .inl (ct 1, 5000, .inl (fun _ => 0))), (q_57, .inr (7, [.ref r_61, .int 0])), (q_67, .inr (8, [.ref q_1, .ref q_40, .int 0, .int 0, .int 0, .int 0])), (q_82, .inr (3, [.ref (u_86 0), .ref (u_86 1), .ref (u_86 2), .ref (u_86 3), .ref (u_86 4), .ref (u_86 5), .ref (u_86 6), .ref (u_86 7), .ref (u_86 8), .ref (u_86 9), .ref (u_86 10), .long 0, .ref q_57, .int (-1)]))] _ := hP
  have hD : va_D A [(h0, .inr (11, [.ref q_1, .ref q_6, .ref q_12, .ref q_18, .ref q_23, .ref q_40, .ref q_57, .ref q_62, .int 0, .ref q_67, .ref q_71, .ref q_77, .ref q_82, .null])), (q_1, .inr (9, [.ref r_5, .int 0])), (r_5, .inl (ct 0, 2000, .inl (fun _ => 0))), (q_6, .inr (6, [.ref a_10, .ref b_11, .int 0])), (b_11, .inl (ct 1, 16, .inl (fun _ => 0))), (q_12, .inr (4, [.ref a_16, .ref b_17, .ref q_6, .int 0, .int 0, .int 0, .int 0, .int 0, .long 0, .int 0])), (b_17, .inl (ct 0, 64, .inl (fun _ => 0))), (q_18, .inr (5, [.ref r_22, .int 0])), (q_40, .inr (2, [.ref a0_44, .ref a1_45, .ref a2_46, .int 0, .ref a4_47, .ref a5_48, .ref a6_49, .ref a7_50, .ref a8_51, .ref a9_52, .ref a10_53, .int 0, .int 0, .ref a13_54, .int 0, .ref a15_55, .int 0, .ref a17_56])), (a13_54, .inl (ct 1, 5000, .inl (fun _ => 0))), (q_57, .inr (7, [.ref r_61, .int 0])), (q_67, .inr (8, [.ref q_1, .ref q_40, .int 0, .int 0, .int 0, .int 0])), (q_82, .inr (3, [.ref (u_86 0), .ref (u_86 1), .ref (u_86 2), .ref (u_86 3), .ref (u_86 4), .ref (u_86 5), .ref (u_86 6), .ref (u_86 7), .ref (u_86 8), .ref (u_86 9), .ref (u_86 10), .long 0, .ref q_57, .int (-1)]))] := hD
  refine lv_aload_n hx hb dX11_init_168 rfl (lv_at hl 0 rfl) ?_
  refine W.widen (k := 71) (n := 179407) (Nat.le_of_ble_eq_true rfl) (Nat.le_of_ble_eq_true rfl) ?_
  refine va_new (ci := 3) (fs := [.null, .null, .null, .null, .null, .null, .null, .null, .null, .null, .null, .long 0, .null, .int 0]) (C := RX3) (T := TX3) (N := 14) hx hb (htX3 hn) (fun _ h => h) tyX3 tyX3_ok hown (hn.get mw_304 rfl) (hn.get mw_305 rfl) (hn.get mw_11 rfl) hK hP hD hS hA rfl (dfX3) (Nat.le_of_ble_eq_true rfl) (Nat.le_of_ble_eq_true rfl) dX11_init_169 (fun q_87 H hP hD hS => ?_)
  refine W.widen (k := 72) (n := 179421) (Nat.le_of_ble_eq_true rfl) (Nat.le_of_ble_eq_true rfl) ?_
  have hP : va_P D vwCl [(h0, .inr (11, [.ref q_1, .ref q_6, .ref q_12, .ref q_18, .ref q_23, .ref q_40, .ref q_57, .ref q_62, .int 0, .ref q_67, .ref q_71, .ref q_77, .ref q_82, .null])), (q_1, .inr (9, [.ref r_5, .int 0])), (r_5, .inl (ct 0, 2000, .inl (fun _ => 0))), (q_6, .inr (6, [.ref a_10, .ref b_11, .int 0])), (b_11, .inl (ct 1, 16, .inl (fun _ => 0))), (q_12, .inr (4, [.ref a_16, .ref b_17, .ref q_6, .int 0, .int 0, .int 0, .int 0, .int 0, .long 0, .int 0])), (b_17, .inl (ct 0, 64, .inl (fun _ => 0))), (q_18, .inr (5, [.ref r_22, .int 0])), (q_40, .inr (2, [.ref a0_44, .ref a1_45, .ref a2_46, .int 0, .ref a4_47, .ref a5_48, .ref a6_49, .ref a7_50, .ref a8_51, .ref a9_52, .ref a10_53, .int 0, .int 0, .ref a13_54, .int 0, .ref a15_55, .int 0, .ref a17_56])), (a13_54, .inl (ct 1, 5000, .inl (fun _ => 0))), (q_57, .inr (7, [.ref r_61, .int 0])), (q_67, .inr (8, [.ref q_1, .ref q_40, .int 0, .int 0, .int 0, .int 0])), (q_82, .inr (3, [.ref (u_86 0), .ref (u_86 1), .ref (u_86 2), .ref (u_86 3), .ref (u_86 4), .ref (u_86 5), .ref (u_86 6), .ref (u_86 7), .ref (u_86 8), .ref (u_86 9), .ref (u_86 10), .long 0, .ref q_57, .int (-1)])), (q_87, .inr (3, [.null, .null, .null, .null, .null, .null, .null, .null, .null, .null, .null, .long 0, .null, .int 0]))] _ := hP
  have hD : va_D A [(h0, .inr (11, [.ref q_1, .ref q_6, .ref q_12, .ref q_18, .ref q_23, .ref q_40, .ref q_57, .ref q_62, .int 0, .ref q_67, .ref q_71, .ref q_77, .ref q_82, .null])), (q_1, .inr (9, [.ref r_5, .int 0])), (r_5, .inl (ct 0, 2000, .inl (fun _ => 0))), (q_6, .inr (6, [.ref a_10, .ref b_11, .int 0])), (b_11, .inl (ct 1, 16, .inl (fun _ => 0))), (q_12, .inr (4, [.ref a_16, .ref b_17, .ref q_6, .int 0, .int 0, .int 0, .int 0, .int 0, .long 0, .int 0])), (b_17, .inl (ct 0, 64, .inl (fun _ => 0))), (q_18, .inr (5, [.ref r_22, .int 0])), (q_40, .inr (2, [.ref a0_44, .ref a1_45, .ref a2_46, .int 0, .ref a4_47, .ref a5_48, .ref a6_49, .ref a7_50, .ref a8_51, .ref a9_52, .ref a10_53, .int 0, .int 0, .ref a13_54, .int 0, .ref a15_55, .int 0, .ref a17_56])), (a13_54, .inl (ct 1, 5000, .inl (fun _ => 0))), (q_57, .inr (7, [.ref r_61, .int 0])), (q_67, .inr (8, [.ref q_1, .ref q_40, .int 0, .int 0, .int 0, .int 0])), (q_82, .inr (3, [.ref (u_86 0), .ref (u_86 1), .ref (u_86 2), .ref (u_86 3), .ref (u_86 4), .ref (u_86 5), .ref (u_86 6), .ref (u_86 7), .ref (u_86 8), .ref (u_86 9), .ref (u_86 10), .long 0, .ref q_57, .int (-1)])), (q_87, .inr (3, [.null, .null, .null, .null, .null, .null, .null, .null, .null, .null, .null, .long 0, .null, .int 0]))] := hD
  refine lv_dup hx hb dX11_init_172 rfl ?_
  refine lv_aload_n hx hb dX11_init_173 rfl (lv_at hl 0 rfl) ?_
  refine va_get (D := D) (ci := 11) (v := .ref q_57) (C := RX11) (T := TX11) (N := 14) hx hb (htX11 hn) (fun _ h => h) hown hK hP 0 rfl rfl 6 (by decide) (hn.get mw_387 rfl) (fun _ h9 => h9) rfl dX11_init_174 ?_
  have hPc := hP.sub (ws' := [(q_87, .inr (3, [.null, .null, .null, .null, .null, .null, .null, .null, .null, .null, .null, .long 0, .null, .int 0]))]) [13] rfl
  have hDc := hD.sub (ws' := [(q_87, .inr (3, [.null, .null, .null, .null, .null, .null, .null, .null, .null, .null, .null, .long 0, .null, .int 0]))]) [13] (by decide) rfl
  refine go_v (k1 := 94) (n1 := 179502) (wr := [(h0, .inr (11, [.ref q_1, .ref q_6, .ref q_12, .ref q_18, .ref q_23, .ref q_40, .ref q_57, .ref q_62, .int 0, .ref q_67, .ref q_71, .ref q_77, .ref q_82, .null])), (q_1, .inr (9, [.ref r_5, .int 0])), (r_5, .inl (ct 0, 2000, .inl (fun _ => 0))), (q_6, .inr (6, [.ref a_10, .ref b_11, .int 0])), (b_11, .inl (ct 1, 16, .inl (fun _ => 0))), (q_12, .inr (4, [.ref a_16, .ref b_17, .ref q_6, .int 0, .int 0, .int 0, .int 0, .int 0, .long 0, .int 0])), (b_17, .inl (ct 0, 64, .inl (fun _ => 0))), (q_18, .inr (5, [.ref r_22, .int 0])), (q_40, .inr (2, [.ref a0_44, .ref a1_45, .ref a2_46, .int 0, .ref a4_47, .ref a5_48, .ref a6_49, .ref a7_50, .ref a8_51, .ref a9_52, .ref a10_53, .int 0, .int 0, .ref a13_54, .int 0, .ref a15_55, .int 0, .ref a17_56])), (a13_54, .inl (ct 1, 5000, .inl (fun _ => 0))), (q_57, .inr (7, [.ref r_61, .int 0])), (q_67, .inr (8, [.ref q_1, .ref q_40, .int 0, .int 0, .int 0, .int 0])), (q_82, .inr (3, [.ref (u_86 0), .ref (u_86 1), .ref (u_86 2), .ref (u_86 3), .ref (u_86 4), .ref (u_86 5), .ref (u_86 6), .ref (u_86 7), .ref (u_86 8), .ref (u_86 9), .ref (u_86 10), .long 0, .ref q_57, .int (-1)]))]) [13] [0, 1, 2, 3, 4, 5, 6, 7, 8, 9, 10, 11, 12] (rn_IN (As := [.ref q_57]) (rest := [.ref q_87, .ref h0]) (c_X3_init l D ct q_87 q_57  _) (cn_of (n := 1) hn mw_308 mw_11 mw_306 mhX3_init ⟨Nat.le_of_ble_eq_true rfl, Nat.le_of_ble_eq_true rfl⟩) hx hb hml hown hn hK hPc hDc mw_307 rfl rfl hl.1 (Nat.le_of_ble_eq_true rfl) dX11_init_177 ⟨(Nat.le_of_ble_eq_true rfl), (Nat.le_of_ble_eq_true rfl)⟩) hP hD hS hA rfl rfl (by decide) (by decide) (Nat.le_of_ble_eq_true rfl) (Nat.le_of_ble_eq_true rfl) (fun u_89 H locs hp_90 hP hD hS => ?_)
  obtain ⟨u_91, rfl⟩ : ∃ z, z = u_89 := ⟨_, rfl⟩
  have hP : va_P D vwCl [(h0, .inr (11, [.ref q_1, .ref q_6, .ref q_12, .ref q_18, .ref q_23, .ref q_40, .ref q_57, .ref q_62, .int 0, .ref q_67, .ref q_71, .ref q_77, .ref q_82, .null])), (q_1, .inr (9, [.ref r_5, .int 0])), (r_5, .inl (ct 0, 2000, .inl (fun _ => 0))), (q_6, .inr (6, [.ref a_10, .ref b_11, .int 0])), (b_11, .inl (ct 1, 16, .inl (fun _ => 0))), (q_12, .inr (4, [.ref a_16, .ref b_17, .ref q_6, .int 0, .int 0, .int 0, .int 0, .int 0, .long 0, .int 0])), (b_17, .inl (ct 0, 64, .inl (fun _ => 0))), (q_18, .inr (5, [.ref r_22, .int 0])), (q_40, .inr (2, [.ref a0_44, .ref a1_45, .ref a2_46, .int 0, .ref a4_47, .ref a5_48, .ref a6_49, .ref a7_50, .ref a8_51, .ref a9_52, .ref a10_53, .int 0, .int 0, .ref a13_54, .int 0, .ref a15_55, .int 0, .ref a17_56])), (a13_54, .inl (ct 1, 5000, .inl (fun _ => 0))), (q_57, .inr (7, [.ref r_61, .int 0])), (q_67, .inr (8, [.ref q_1, .ref q_40, .int 0, .int 0, .int 0, .int 0])), (q_82, .inr (3, [.ref (u_86 0), .ref (u_86 1), .ref (u_86 2), .ref (u_86 3), .ref (u_86 4), .ref (u_86 5), .ref (u_86 6), .ref (u_86 7), .ref (u_86 8), .ref (u_86 9), .ref (u_86 10), .long 0, .ref q_57, .int (-1)])), (q_87, .inr (3, [.ref (u_91 0), .ref (u_91 1), .ref (u_91 2), .ref (u_91 3), .ref (u_91 4), .ref (u_91 5), .ref (u_91 6), .ref (u_91 7), .ref (u_91 8), .ref (u_91 9), .ref (u_91 10), .long 0, .ref q_57, .int (-1)]))] _ := hP
  have hD : va_D A [(h0, .inr (11, [.ref q_1, .ref q_6, .ref q_12, .ref q_18, .ref q_23, .ref q_40, .ref q_57, .ref q_62, .int 0, .ref q_67, .ref q_71, .ref q_77, .ref q_82, .null])), (q_1, .inr (9, [.ref r_5, .int 0])), (r_5, .inl (ct 0, 2000, .inl (fun _ => 0))), (q_6, .inr (6, [.ref a_10, .ref b_11, .int 0])), (b_11, .inl (ct 1, 16, .inl (fun _ => 0))), (q_12, .inr (4, [.ref a_16, .ref b_17, .ref q_6, .int 0, .int 0, .int 0, .int 0, .int 0, .long 0, .int 0])), (b_17, .inl (ct 0, 64, .inl (fun _ => 0))), (q_18, .inr (5, [.ref r_22, .int 0])), (q_40, .inr (2, [.ref a0_44, .ref a1_45, .ref a2_46, .int 0, .ref a4_47, .ref a5_48, .ref a6_49, .ref a7_50, .ref a8_51, .ref a9_52, .ref a10_53, .int 0, .int 0, .ref a13_54, .int 0, .ref a15_55, .int 0, .ref a17_56])), (a13_54, .inl (ct 1, 5000, .inl (fun _ => 0))), (q_57, .inr (7, [.ref r_61, .int 0])), (q_67, .inr (8, [.ref q_1, .ref q_40, .int 0, .int 0, .int 0, .int 0])), (q_82, .inr (3, [.ref (u_86 0), .ref (u_86 1), .ref (u_86 2), .ref (u_86 3), .ref (u_86 4), .ref (u_86 5), .ref (u_86 6), .ref (u_86 7), .ref (u_86 8), .ref (u_86 9), .ref (u_86 10), .long 0, .ref q_57, .int (-1)])), (q_87, .inr (3, [.ref (u_91 0), .ref (u_91 1), .ref (u_91 2), .ref (u_91 3), .ref (u_91 4), .ref (u_91 5), .ref (u_91 6), .ref (u_91 7), .ref (u_91 8), .ref (u_91 9), .ref (u_91 10), .long 0, .ref q_57, .int (-1)]))] := hD
  refine va_putF (D := D) (ci := 11) (v := .ref q_87) (ty := .object "FilterForge$Inspector") (C := RX11) (T := TX11) (N := 14) hx hb (htX11 hn) (fun _ h => h) tyX11 tyX11_ok nmX11 hown hK hP hD hS 0 rfl rfl 13 (by decide) (hn.get mw_394 rfl) (fun _ h9 => h9) rfl hin rfl (by decide +kernel) rfl rfl (Nat.le_of_ble_eq_true rfl) dX11_init_180 (fun H locs hP hD hS => ?_)
  have hP : va_P D vwCl [(h0, .inr (11, [.ref q_1, .ref q_6, .ref q_12, .ref q_18, .ref q_23, .ref q_40, .ref q_57, .ref q_62, .int 0, .ref q_67, .ref q_71, .ref q_77, .ref q_82, .ref q_87])), (q_1, .inr (9, [.ref r_5, .int 0])), (r_5, .inl (ct 0, 2000, .inl (fun _ => 0))), (q_6, .inr (6, [.ref a_10, .ref b_11, .int 0])), (b_11, .inl (ct 1, 16, .inl (fun _ => 0))), (q_12, .inr (4, [.ref a_16, .ref b_17, .ref q_6, .int 0, .int 0, .int 0, .int 0, .int 0, .long 0, .int 0])), (b_17, .inl (ct 0, 64, .inl (fun _ => 0))), (q_18, .inr (5, [.ref r_22, .int 0])), (q_40, .inr (2, [.ref a0_44, .ref a1_45, .ref a2_46, .int 0, .ref a4_47, .ref a5_48, .ref a6_49, .ref a7_50, .ref a8_51, .ref a9_52, .ref a10_53, .int 0, .int 0, .ref a13_54, .int 0, .ref a15_55, .int 0, .ref a17_56])), (a13_54, .inl (ct 1, 5000, .inl (fun _ => 0))), (q_57, .inr (7, [.ref r_61, .int 0])), (q_67, .inr (8, [.ref q_1, .ref q_40, .int 0, .int 0, .int 0, .int 0])), (q_82, .inr (3, [.ref (u_86 0), .ref (u_86 1), .ref (u_86 2), .ref (u_86 3), .ref (u_86 4), .ref (u_86 5), .ref (u_86 6), .ref (u_86 7), .ref (u_86 8), .ref (u_86 9), .ref (u_86 10), .long 0, .ref q_57, .int (-1)])), (q_87, .inr (3, [.ref (u_91 0), .ref (u_91 1), .ref (u_91 2), .ref (u_91 3), .ref (u_91 4), .ref (u_91 5), .ref (u_91 6), .ref (u_91 7), .ref (u_91 8), .ref (u_91 9), .ref (u_91 10), .long 0, .ref q_57, .int (-1)]))] _ := hP
  have hD : va_D A [(h0, .inr (11, [.ref q_1, .ref q_6, .ref q_12, .ref q_18, .ref q_23, .ref q_40, .ref q_57, .ref q_62, .int 0, .ref q_67, .ref q_71, .ref q_77, .ref q_82, .ref q_87])), (q_1, .inr (9, [.ref r_5, .int 0])), (r_5, .inl (ct 0, 2000, .inl (fun _ => 0))), (q_6, .inr (6, [.ref a_10, .ref b_11, .int 0])), (b_11, .inl (ct 1, 16, .inl (fun _ => 0))), (q_12, .inr (4, [.ref a_16, .ref b_17, .ref q_6, .int 0, .int 0, .int 0, .int 0, .int 0, .long 0, .int 0])), (b_17, .inl (ct 0, 64, .inl (fun _ => 0))), (q_18, .inr (5, [.ref r_22, .int 0])), (q_40, .inr (2, [.ref a0_44, .ref a1_45, .ref a2_46, .int 0, .ref a4_47, .ref a5_48, .ref a6_49, .ref a7_50, .ref a8_51, .ref a9_52, .ref a10_53, .int 0, .int 0, .ref a13_54, .int 0, .ref a15_55, .int 0, .ref a17_56])), (a13_54, .inl (ct 1, 5000, .inl (fun _ => 0))), (q_57, .inr (7, [.ref r_61, .int 0])), (q_67, .inr (8, [.ref q_1, .ref q_40, .int 0, .int 0, .int 0, .int 0])), (q_82, .inr (3, [.ref (u_86 0), .ref (u_86 1), .ref (u_86 2), .ref (u_86 3), .ref (u_86 4), .ref (u_86 5), .ref (u_86 6), .ref (u_86 7), .ref (u_86 8), .ref (u_86 9), .ref (u_86 10), .long 0, .ref q_57, .int (-1)])), (q_87, .inr (3, [.ref (u_91 0), .ref (u_91 1), .ref (u_91 2), .ref (u_91 3), .ref (u_91 4), .ref (u_91 5), .ref (u_91 6), .ref (u_91 7), .ref (u_91 8), .ref (u_91 9), .ref (u_91 10), .long 0, .ref q_57, .int (-1)]))] := hD
  exact end_v hx hb hr hlocks dX11_init_183 (fun k => [q_1, q_6, q_12, q_18, q_23, q_40, q_57, q_62, q_67, q_71, q_77, q_82, q_87, r_5, a_10, b_11, a_16, b_17, r_22, a0_44, a1_45, a2_46, a4_47, a5_48, a6_49, a7_50, a8_51, a9_52, a10_53, a13_54, a15_55, a17_56, r_61, (u_86 0), (u_86 1), (u_86 2), (u_86 3), (u_86 4), (u_86 5), (u_86 6), (u_86 7), (u_86 8), (u_86 9), (u_86 10), (u_91 0), (u_91 1), (u_91 2), (u_91 3), (u_91 4), (u_91 5), (u_91 6), (u_91 7), (u_91 8), (u_91 9), (u_91 10)].getD k 0) trivial hP hD hS [0, 1, 2, 3, 4, 5, 6, 7, 8, 9, 10, 11, 12, 13] rfl (by decide) rfl (Nat.le_of_ble_eq_true rfl) (Nat.le_of_ble_eq_true rfl)
end

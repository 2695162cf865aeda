section
-- ===== PART A: goes FIRST, ahead of the names: the tables' words, and 'selects' of the private methods out of them =====
/-- a private method of a class that the tables say can be made, by its rows of tables_1 -/
def lw_okq (q : MethodName × Nat) : Prop := (q.1.cls ≠ "java/lang/invoke/MethodHandle" ∧ q.1.cls ≠ "java/lang/invoke/VarHandle") ∧ Cond.instantiable q.1.cls q.2 ∈ tables_1 ∧ Cond.privateMethod q.1 ∈ tables_1 ∧ Cond.instanceMethod q.1 ∈ tables_1
theorem lw_p0 : lw_okq (⟨"FilterForge$Tape", "hasRoom", "(I)Z"⟩, 2) := ⟨⟨by decide +kernel, by decide +kernel⟩, List.mem_of_getElem? (i := 37) (by decide +kernel), List.mem_of_getElem? (i := 429) (by decide +kernel), List.mem_of_getElem? (i := 430) (by decide +kernel)⟩
theorem lw_p1 : lw_okq (⟨"FilterForge$Tape", "put", "(I)V"⟩, 2) := ⟨⟨by decide +kernel, by decide +kernel⟩, List.mem_of_getElem? (i := 37) (by decide +kernel), List.mem_of_getElem? (i := 433) (by decide +kernel), List.mem_of_getElem? (i := 434) (by decide +kernel)⟩
theorem lw_p2 : lw_okq (⟨"FilterForge$Packets", "add", "(LFilterForge$Tape;)I"⟩, 3) := ⟨⟨by decide +kernel, by decide +kernel⟩, List.mem_of_getElem? (i := 56) (by decide +kernel), List.mem_of_getElem? (i := 446) (by decide +kernel), List.mem_of_getElem? (i := 447) (by decide +kernel)⟩
theorem lw_p3 : lw_okq (⟨"FilterForge$Tape", "at", "(I)I"⟩, 2) := ⟨⟨by decide +kernel, by decide +kernel⟩, List.mem_of_getElem? (i := 37) (by decide +kernel), List.mem_of_getElem? (i := 450) (by decide +kernel), List.mem_of_getElem? (i := 451) (by decide +kernel)⟩
theorem lw_p4 : lw_okq (⟨"FilterForge$Packets", "eightFrom", "(II)J"⟩, 3) := ⟨⟨by decide +kernel, by decide +kernel⟩, List.mem_of_getElem? (i := 56) (by decide +kernel), List.mem_of_getElem? (i := 458) (by decide +kernel), List.mem_of_getElem? (i := 459) (by decide +kernel)⟩
theorem lw_p5 : lw_okq (⟨"FilterForge$Packets", "at", "(IJ)I"⟩, 3) := ⟨⟨by decide +kernel, by decide +kernel⟩, List.mem_of_getElem? (i := 56) (by decide +kernel), List.mem_of_getElem? (i := 462) (by decide +kernel), List.mem_of_getElem? (i := 463) (by decide +kernel)⟩
theorem lw_p6 : lw_okq (⟨"FilterForge$Packets", "lengthOf", "(I)I"⟩, 3) := ⟨⟨by decide +kernel, by decide +kernel⟩, List.mem_of_getElem? (i := 56) (by decide +kernel), List.mem_of_getElem? (i := 466) (by decide +kernel), List.mem_of_getElem? (i := 467) (by decide +kernel)⟩
theorem lw_p7 : lw_okq (⟨"FilterForge$Reader", "begin", "(LFilterForge$Filter;)V"⟩, 6) := ⟨⟨by decide +kernel, by decide +kernel⟩, List.mem_of_getElem? (i := 236) (by decide +kernel), List.mem_of_getElem? (i := 475) (by decide +kernel), List.mem_of_getElem? (i := 476) (by decide +kernel)⟩
theorem lw_p8 : lw_okq (⟨"FilterForge$Filter", "clear", "()V"⟩, 18) := ⟨⟨by decide +kernel, by decide +kernel⟩, List.mem_of_getElem? (i := 142) (by decide +kernel), List.mem_of_getElem? (i := 479) (by decide +kernel), List.mem_of_getElem? (i := 480) (by decide +kernel)⟩
theorem lw_p9 : lw_okq (⟨"FilterForge$Reader", "next", "()V"⟩, 6) := ⟨⟨by decide +kernel, by decide +kernel⟩, List.mem_of_getElem? (i := 236) (by decide +kernel), List.mem_of_getElem? (i := 483) (by decide +kernel), List.mem_of_getElem? (i := 484) (by decide +kernel)⟩
theorem lw_p10 : lw_okq (⟨"FilterForge$Reader", "behindBlanks", "(I)I"⟩, 6) := ⟨⟨by decide +kernel, by decide +kernel⟩, List.mem_of_getElem? (i := 236) (by decide +kernel), List.mem_of_getElem? (i := 487) (by decide +kernel), List.mem_of_getElem? (i := 488) (by decide +kernel)⟩
theorem lw_p11 : lw_okq (⟨"FilterForge$Reader", "behindWord", "(I)I"⟩, 6) := ⟨⟨by decide +kernel, by decide +kernel⟩, List.mem_of_getElem? (i := 236) (by decide +kernel), List.mem_of_getElem? (i := 495) (by decide +kernel), List.mem_of_getElem? (i := 496) (by decide +kernel)⟩
theorem lw_p12 : lw_okq (⟨"FilterForge$Reader", "fail", "()V"⟩, 6) := ⟨⟨by decide +kernel, by decide +kernel⟩, List.mem_of_getElem? (i := 236) (by decide +kernel), List.mem_of_getElem? (i := 502) (by decide +kernel), List.mem_of_getElem? (i := 503) (by decide +kernel)⟩
theorem lw_p13 : lw_okq (⟨"FilterForge$Reader", "readFilter", "(III)V"⟩, 6) := ⟨⟨by decide +kernel, by decide +kernel⟩, List.mem_of_getElem? (i := 236) (by decide +kernel), List.mem_of_getElem? (i := 506) (by decide +kernel), List.mem_of_getElem? (i := 507) (by decide +kernel)⟩
theorem lw_p14 : lw_okq (⟨"FilterForge$Filter", "newLabel", "()I"⟩, 18) := ⟨⟨by decide +kernel, by decide +kernel⟩, List.mem_of_getElem? (i := 142) (by decide +kernel), List.mem_of_getElem? (i := 510) (by decide +kernel), List.mem_of_getElem? (i := 511) (by decide +kernel)⟩
theorem lw_p15 : lw_okq (⟨"FilterForge$Reader", "readRow", "(III)V"⟩, 6) := ⟨⟨by decide +kernel, by decide +kernel⟩, List.mem_of_getElem? (i := 236) (by decide +kernel), List.mem_of_getElem? (i := 514) (by decide +kernel), List.mem_of_getElem? (i := 515) (by decide +kernel)⟩
def lw_privs_1 : List (MethodName × Nat) := [(⟨"FilterForge$Tape", "hasRoom", "(I)Z"⟩, 2), (⟨"FilterForge$Tape", "put", "(I)V"⟩, 2), (⟨"FilterForge$Packets", "add", "(LFilterForge$Tape;)I"⟩, 3), (⟨"FilterForge$Tape", "at", "(I)I"⟩, 2), (⟨"FilterForge$Packets", "eightFrom", "(II)J"⟩, 3), (⟨"FilterForge$Packets", "at", "(IJ)I"⟩, 3), (⟨"FilterForge$Packets", "lengthOf", "(I)I"⟩, 3), (⟨"FilterForge$Reader", "begin", "(LFilterForge$Filter;)V"⟩, 6), (⟨"FilterForge$Filter", "clear", "()V"⟩, 18), (⟨"FilterForge$Reader", "next", "()V"⟩, 6), (⟨"FilterForge$Reader", "behindBlanks", "(I)I"⟩, 6), (⟨"FilterForge$Reader", "behindWord", "(I)I"⟩, 6), (⟨"FilterForge$Reader", "fail", "()V"⟩, 6), (⟨"FilterForge$Reader", "readFilter", "(III)V"⟩, 6), (⟨"FilterForge$Filter", "newLabel", "()I"⟩, 18), (⟨"FilterForge$Reader", "readRow", "(III)V"⟩, 6)]
theorem lw_r1 : ∀ q ∈ lw_privs_1, lw_okq q := List.forall_mem_cons.mpr ⟨lw_p0, List.forall_mem_cons.mpr ⟨lw_p1, List.forall_mem_cons.mpr ⟨lw_p2, List.forall_mem_cons.mpr ⟨lw_p3, List.forall_mem_cons.mpr ⟨lw_p4, List.forall_mem_cons.mpr ⟨lw_p5, List.forall_mem_cons.mpr ⟨lw_p6, List.forall_mem_cons.mpr ⟨lw_p7, List.forall_mem_cons.mpr ⟨lw_p8, List.forall_mem_cons.mpr ⟨lw_p9, List.forall_mem_cons.mpr ⟨lw_p10, List.forall_mem_cons.mpr ⟨lw_p11, List.forall_mem_cons.mpr ⟨lw_p12, List.forall_mem_cons.mpr ⟨lw_p13, List.forall_mem_cons.mpr ⟨lw_p14, List.forall_mem_cons.mpr ⟨lw_p15, fun _ h => absurd h List.not_mem_nil⟩⟩⟩⟩⟩⟩⟩⟩⟩⟩⟩⟩⟩⟩⟩⟩
theorem lw_p16 : lw_okq (⟨"FilterForge$Reader", "readOne", "(III)V"⟩, 6) := ⟨⟨by decide +kernel, by decide +kernel⟩, List.mem_of_getElem? (i := 236) (by decide +kernel), List.mem_of_getElem? (i := 518) (by decide +kernel), List.mem_of_getElem? (i := 519) (by decide +kernel)⟩
theorem lw_p17 : lw_okq (⟨"FilterForge$Reader", "isWord", "(Ljava/lang/String;)Z"⟩, 6) := ⟨⟨by decide +kernel, by decide +kernel⟩, List.mem_of_getElem? (i := 236) (by decide +kernel), List.mem_of_getElem? (i := 523) (by decide +kernel), List.mem_of_getElem? (i := 524) (by decide +kernel)⟩
theorem lw_p18 : lw_okq (⟨"FilterForge$Reader", "beginsRelation", "()Z"⟩, 6) := ⟨⟨by decide +kernel, by decide +kernel⟩, List.mem_of_getElem? (i := 236) (by decide +kernel), List.mem_of_getElem? (i := 575) (by decide +kernel), List.mem_of_getElem? (i := 576) (by decide +kernel)⟩
theorem lw_p19 : lw_okq (⟨"FilterForge$Reader", "number", "()J"⟩, 6) := ⟨⟨by decide +kernel, by decide +kernel⟩, List.mem_of_getElem? (i := 236) (by decide +kernel), List.mem_of_getElem? (i := 580) (by decide +kernel), List.mem_of_getElem? (i := 581) (by decide +kernel)⟩
theorem lw_p20 : lw_okq (⟨"FilterForge$Reader", "hexadecimal", "()J"⟩, 6) := ⟨⟨by decide +kernel, by decide +kernel⟩, List.mem_of_getElem? (i := 236) (by decide +kernel), List.mem_of_getElem? (i := 585) (by decide +kernel), List.mem_of_getElem? (i := 586) (by decide +kernel)⟩
theorem lw_p21 : lw_okq (⟨"FilterForge$Reader", "digits", "(IIJ)J"⟩, 6) := ⟨⟨by decide +kernel, by decide +kernel⟩, List.mem_of_getElem? (i := 236) (by decide +kernel), List.mem_of_getElem? (i := 594) (by decide +kernel), List.mem_of_getElem? (i := 595) (by decide +kernel)⟩
theorem lw_p22 : lw_okq (⟨"FilterForge$Reader", "protocol", "()I"⟩, 6) := ⟨⟨by decide +kernel, by decide +kernel⟩, List.mem_of_getElem? (i := 236) (by decide +kernel), List.mem_of_getElem? (i := 600) (by decide +kernel), List.mem_of_getElem? (i := 601) (by decide +kernel)⟩
theorem lw_p23 : lw_okq (⟨"FilterForge$Reader", "readRelation", "(II)V"⟩, 6) := ⟨⟨by decide +kernel, by decide +kernel⟩, List.mem_of_getElem? (i := 236) (by decide +kernel), List.mem_of_getElem? (i := 611) (by decide +kernel), List.mem_of_getElem? (i := 612) (by decide +kernel)⟩
theorem lw_p24 : lw_okq (⟨"FilterForge$Filter", "askNothing", "()V"⟩, 18) := ⟨⟨by decide +kernel, by decide +kernel⟩, List.mem_of_getElem? (i := 142) (by decide +kernel), List.mem_of_getElem? (i := 615) (by decide +kernel), List.mem_of_getElem? (i := 616) (by decide +kernel)⟩
theorem lw_p25 : lw_okq (⟨"FilterForge$Reader", "readSum", "(II)Z"⟩, 6) := ⟨⟨by decide +kernel, by decide +kernel⟩, List.mem_of_getElem? (i := 236) (by decide +kernel), List.mem_of_getElem? (i := 619) (by decide +kernel), List.mem_of_getElem? (i := 620) (by decide +kernel)⟩
theorem lw_p26 : lw_okq (⟨"FilterForge$Reader", "readProduct", "(II)Z"⟩, 6) := ⟨⟨by decide +kernel, by decide +kernel⟩, List.mem_of_getElem? (i := 236) (by decide +kernel), List.mem_of_getElem? (i := 623) (by decide +kernel), List.mem_of_getElem? (i := 624) (by decide +kernel)⟩
theorem lw_p27 : lw_okq (⟨"FilterForge$Reader", "readAtom", "(II)Z"⟩, 6) := ⟨⟨by decide +kernel, by decide +kernel⟩, List.mem_of_getElem? (i := 236) (by decide +kernel), List.mem_of_getElem? (i := 627) (by decide +kernel), List.mem_of_getElem? (i := 628) (by decide +kernel)⟩
theorem lw_p28 : lw_okq (⟨"FilterForge$Reader", "readBareAtom", "(II)Z"⟩, 6) := ⟨⟨by decide +kernel, by decide +kernel⟩, List.mem_of_getElem? (i := 236) (by decide +kernel), List.mem_of_getElem? (i := 631) (by decide +kernel), List.mem_of_getElem? (i := 632) (by decide +kernel)⟩
theorem lw_p29 : lw_okq (⟨"FilterForge$Filter", "item", "(III)V"⟩, 18) := ⟨⟨by decide +kernel, by decide +kernel⟩, List.mem_of_getElem? (i := 142) (by decide +kernel), List.mem_of_getElem? (i := 635) (by decide +kernel), List.mem_of_getElem? (i := 636) (by decide +kernel)⟩
theorem lw_p30 : lw_okq (⟨"FilterForge$Filter", "hideNumber", "()V"⟩, 18) := ⟨⟨by decide +kernel, by decide +kernel⟩, List.mem_of_getElem? (i := 142) (by decide +kernel), List.mem_of_getElem? (i := 639) (by decide +kernel), List.mem_of_getElem? (i := 640) (by decide +kernel)⟩
theorem lw_p31 : lw_okq (⟨"FilterForge$Reader", "take", "(I)V"⟩, 6) := ⟨⟨by decide +kernel, by decide +kernel⟩, List.mem_of_getElem? (i := 236) (by decide +kernel), List.mem_of_getElem? (i := 643) (by decide +kernel), List.mem_of_getElem? (i := 644) (by decide +kernel)⟩
def lw_privs_2 : List (MethodName × Nat) := [(⟨"FilterForge$Reader", "readOne", "(III)V"⟩, 6), (⟨"FilterForge$Reader", "isWord", "(Ljava/lang/String;)Z"⟩, 6), (⟨"FilterForge$Reader", "beginsRelation", "()Z"⟩, 6), (⟨"FilterForge$Reader", "number", "()J"⟩, 6), (⟨"FilterForge$Reader", "hexadecimal", "()J"⟩, 6), (⟨"FilterForge$Reader", "digits", "(IIJ)J"⟩, 6), (⟨"FilterForge$Reader", "protocol", "()I"⟩, 6), (⟨"FilterForge$Reader", "readRelation", "(II)V"⟩, 6), (⟨"FilterForge$Filter", "askNothing", "()V"⟩, 18), (⟨"FilterForge$Reader", "readSum", "(II)Z"⟩, 6), (⟨"FilterForge$Reader", "readProduct", "(II)Z"⟩, 6), (⟨"FilterForge$Reader", "readAtom", "(II)Z"⟩, 6), (⟨"FilterForge$Reader", "readBareAtom", "(II)Z"⟩, 6), (⟨"FilterForge$Filter", "item", "(III)V"⟩, 18), (⟨"FilterForge$Filter", "hideNumber", "()V"⟩, 18), (⟨"FilterForge$Reader", "take", "(I)V"⟩, 6)]
theorem lw_r2 : ∀ q ∈ lw_privs_2, lw_okq q := List.forall_mem_cons.mpr ⟨lw_p16, List.forall_mem_cons.mpr ⟨lw_p17, List.forall_mem_cons.mpr ⟨lw_p18, List.forall_mem_cons.mpr ⟨lw_p19, List.forall_mem_cons.mpr ⟨lw_p20, List.forall_mem_cons.mpr ⟨lw_p21, List.forall_mem_cons.mpr ⟨lw_p22, List.forall_mem_cons.mpr ⟨lw_p23, List.forall_mem_cons.mpr ⟨lw_p24, List.forall_mem_cons.mpr ⟨lw_p25, List.forall_mem_cons.mpr ⟨lw_p26, List.forall_mem_cons.mpr ⟨lw_p27, List.forall_mem_cons.mpr ⟨lw_p28, List.forall_mem_cons.mpr ⟨lw_p29, List.forall_mem_cons.mpr ⟨lw_p30, List.forall_mem_cons.mpr ⟨lw_p31, fun _ h => absurd h List.not_mem_nil⟩⟩⟩⟩⟩⟩⟩⟩⟩⟩⟩⟩⟩⟩⟩⟩
theorem lw_p32 : lw_okq (⟨"FilterForge$Reader", "readAccess", "(II)V"⟩, 6) := ⟨⟨by decide +kernel, by decide +kernel⟩, List.mem_of_getElem? (i := 236) (by decide +kernel), List.mem_of_getElem? (i := 647) (by decide +kernel), List.mem_of_getElem? (i := 648) (by decide +kernel)⟩
theorem lw_p33 : lw_okq (⟨"FilterForge$Filter", "ask", "(I)V"⟩, 18) := ⟨⟨by decide +kernel, by decide +kernel⟩, List.mem_of_getElem? (i := 142) (by decide +kernel), List.mem_of_getElem? (i := 651) (by decide +kernel), List.mem_of_getElem? (i := 652) (by decide +kernel)⟩
theorem lw_p34 : lw_okq (⟨"FilterForge$Reader", "takeSize", "()I"⟩, 6) := ⟨⟨by decide +kernel, by decide +kernel⟩, List.mem_of_getElem? (i := 236) (by decide +kernel), List.mem_of_getElem? (i := 655) (by decide +kernel), List.mem_of_getElem? (i := 656) (by decide +kernel)⟩
theorem lw_p35 : lw_okq (⟨"FilterForge$Filter", "access", "(IIII)V"⟩, 18) := ⟨⟨by decide +kernel, by decide +kernel⟩, List.mem_of_getElem? (i := 142) (by decide +kernel), List.mem_of_getElem? (i := 661) (by decide +kernel), List.mem_of_getElem? (i := 662) (by decide +kernel)⟩
theorem lw_p36 : lw_okq (⟨"FilterForge$Reader", "timesOp", "()I"⟩, 6) := ⟨⟨by decide +kernel, by decide +kernel⟩, List.mem_of_getElem? (i := 236) (by decide +kernel), List.mem_of_getElem? (i := 666) (by decide +kernel), List.mem_of_getElem? (i := 667) (by decide +kernel)⟩
theorem lw_p37 : lw_okq (⟨"FilterForge$Filter", "joinSides", "(IIIZ)V"⟩, 18) := ⟨⟨by decide +kernel, by decide +kernel⟩, List.mem_of_getElem? (i := 142) (by decide +kernel), List.mem_of_getElem? (i := 670) (by decide +kernel), List.mem_of_getElem? (i := 671) (by decide +kernel)⟩
theorem lw_p38 : lw_okq (⟨"FilterForge$Reader", "addingOp", "()I"⟩, 6) := ⟨⟨by decide +kernel, by decide +kernel⟩, List.mem_of_getElem? (i := 236) (by decide +kernel), List.mem_of_getElem? (i := 674) (by decide +kernel), List.mem_of_getElem? (i := 675) (by decide +kernel)⟩
theorem lw_p39 : lw_okq (⟨"FilterForge$Reader", "comparison", "()I"⟩, 6) := ⟨⟨by decide +kernel, by decide +kernel⟩, List.mem_of_getElem? (i := 236) (by decide +kernel), List.mem_of_getElem? (i := 678) (by decide +kernel), List.mem_of_getElem? (i := 679) (by decide +kernel)⟩
theorem lw_p40 : lw_okq (⟨"FilterForge$Filter", "testGuards", "(I)V"⟩, 18) := ⟨⟨by decide +kernel, by decide +kernel⟩, List.mem_of_getElem? (i := 142) (by decide +kernel), List.mem_of_getElem? (i := 682) (by decide +kernel), List.mem_of_getElem? (i := 683) (by decide +kernel)⟩
theorem lw_p41 : lw_okq (⟨"FilterForge$Filter", "testType", "(III)V"⟩, 18) := ⟨⟨by decide +kernel, by decide +kernel⟩, List.mem_of_getElem? (i := 142) (by decide +kernel), List.mem_of_getElem? (i := 690) (by decide +kernel), List.mem_of_getElem? (i := 691) (by decide +kernel)⟩
theorem lw_p42 : lw_okq (⟨"FilterForge$Filter", "testRead", "(IIIII)V"⟩, 18) := ⟨⟨by decide +kernel, by decide +kernel⟩, List.mem_of_getElem? (i := 142) (by decide +kernel), List.mem_of_getElem? (i := 694) (by decide +kernel), List.mem_of_getElem? (i := 695) (by decide +kernel)⟩
theorem lw_p43 : lw_okq (⟨"FilterForge$Filter", "test", "(IIIIII)V"⟩, 18) := ⟨⟨by decide +kernel, by decide +kernel⟩, List.mem_of_getElem? (i := 142) (by decide +kernel), List.mem_of_getElem? (i := 698) (by decide +kernel), List.mem_of_getElem? (i := 699) (by decide +kernel)⟩
theorem lw_p44 : lw_okq (⟨"FilterForge$Filter", "testByte", "(IIII)V"⟩, 18) := ⟨⟨by decide +kernel, by decide +kernel⟩, List.mem_of_getElem? (i := 142) (by decide +kernel), List.mem_of_getElem? (i := 702) (by decide +kernel), List.mem_of_getElem? (i := 703) (by decide +kernel)⟩
theorem lw_p45 : lw_okq (⟨"FilterForge$Filter", "testFirstPart", "(II)V"⟩, 18) := ⟨⟨by decide +kernel, by decide +kernel⟩, List.mem_of_getElem? (i := 142) (by decide +kernel), List.mem_of_getElem? (i := 706) (by decide +kernel), List.mem_of_getElem? (i := 707) (by decide +kernel)⟩
theorem lw_p46 : lw_okq (⟨"FilterForge$Filter", "testNumber", "(IIIII)V"⟩, 18) := ⟨⟨by decide +kernel, by decide +kernel⟩, List.mem_of_getElem? (i := 142) (by decide +kernel), List.mem_of_getElem? (i := 710) (by decide +kernel), List.mem_of_getElem? (i := 711) (by decide +kernel)⟩
theorem lw_p47 : lw_okq (⟨"FilterForge$Reader", "readProtocol", "(III)V"⟩, 6) := ⟨⟨by decide +kernel, by decide +kernel⟩, List.mem_of_getElem? (i := 236) (by decide +kernel), List.mem_of_getElem? (i := 715) (by decide +kernel), List.mem_of_getElem? (i := 716) (by decide +kernel)⟩
def lw_privs_3 : List (MethodName × Nat) := [(⟨"FilterForge$Reader", "readAccess", "(II)V"⟩, 6), (⟨"FilterForge$Filter", "ask", "(I)V"⟩, 18), (⟨"FilterForge$Reader", "takeSize", "()I"⟩, 6), (⟨"FilterForge$Filter", "access", "(IIII)V"⟩, 18), (⟨"FilterForge$Reader", "timesOp", "()I"⟩, 6), (⟨"FilterForge$Filter", "joinSides", "(IIIZ)V"⟩, 18), (⟨"FilterForge$Reader", "addingOp", "()I"⟩, 6), (⟨"FilterForge$Reader", "comparison", "()I"⟩, 6), (⟨"FilterForge$Filter", "testGuards", "(I)V"⟩, 18), (⟨"FilterForge$Filter", "testType", "(III)V"⟩, 18), (⟨"FilterForge$Filter", "testRead", "(IIIII)V"⟩, 18), (⟨"FilterForge$Filter", "test", "(IIIIII)V"⟩, 18), (⟨"FilterForge$Filter", "testByte", "(IIII)V"⟩, 18), (⟨"FilterForge$Filter", "testFirstPart", "(II)V"⟩, 18), (⟨"FilterForge$Filter", "testNumber", "(IIIII)V"⟩, 18), (⟨"FilterForge$Reader", "readProtocol", "(III)V"⟩, 6)]
theorem lw_r3 : ∀ q ∈ lw_privs_3, lw_okq q := List.forall_mem_cons.mpr ⟨lw_p32, List.forall_mem_cons.mpr ⟨lw_p33, List.forall_mem_cons.mpr ⟨lw_p34, List.forall_mem_cons.mpr ⟨lw_p35, List.forall_mem_cons.mpr ⟨lw_p36, List.forall_mem_cons.mpr ⟨lw_p37, List.forall_mem_cons.mpr ⟨lw_p38, List.forall_mem_cons.mpr ⟨lw_p39, List.forall_mem_cons.mpr ⟨lw_p40, List.forall_mem_cons.mpr ⟨lw_p41, List.forall_mem_cons.mpr ⟨lw_p42, List.forall_mem_cons.mpr ⟨lw_p43, List.forall_mem_cons.mpr ⟨lw_p44, List.forall_mem_cons.mpr ⟨lw_p45, List.forall_mem_cons.mpr ⟨lw_p46, List.forall_mem_cons.mpr ⟨lw_p47, fun _ h => absurd h List.not_mem_nil⟩⟩⟩⟩⟩⟩⟩⟩⟩⟩⟩⟩⟩⟩⟩⟩
theorem lw_p48 : lw_okq (⟨"FilterForge$Reader", "takeNumber", "(JJ)I"⟩, 6) := ⟨⟨by decide +kernel, by decide +kernel⟩, List.mem_of_getElem? (i := 236) (by decide +kernel), List.mem_of_getElem? (i := 722) (by decide +kernel), List.mem_of_getElem? (i := 723) (by decide +kernel)⟩
theorem lw_p49 : lw_okq (⟨"FilterForge$Filter", "testProtocol", "(III)V"⟩, 18) := ⟨⟨by decide +kernel, by decide +kernel⟩, List.mem_of_getElem? (i := 142) (by decide +kernel), List.mem_of_getElem? (i := 728) (by decide +kernel), List.mem_of_getElem? (i := 729) (by decide +kernel)⟩
theorem lw_p50 : lw_okq (⟨"FilterForge$Filter", "putLabelHere", "(I)V"⟩, 18) := ⟨⟨by decide +kernel, by decide +kernel⟩, List.mem_of_getElem? (i := 142) (by decide +kernel), List.mem_of_getElem? (i := 733) (by decide +kernel), List.mem_of_getElem? (i := 734) (by decide +kernel)⟩
theorem lw_p51 : lw_okq (⟨"FilterForge$Reader", "readSided", "(II)V"⟩, 6) := ⟨⟨by decide +kernel, by decide +kernel⟩, List.mem_of_getElem? (i := 236) (by decide +kernel), List.mem_of_getElem? (i := 737) (by decide +kernel), List.mem_of_getElem? (i := 738) (by decide +kernel)⟩
theorem lw_p52 : lw_okq (⟨"FilterForge$Reader", "takeAddress", "()I"⟩, 6) := ⟨⟨by decide +kernel, by decide +kernel⟩, List.mem_of_getElem? (i := 236) (by decide +kernel), List.mem_of_getElem? (i := 744) (by decide +kernel), List.mem_of_getElem? (i := 745) (by decide +kernel)⟩
theorem lw_p53 : lw_okq (⟨"FilterForge$Reader", "address", "()J"⟩, 6) := ⟨⟨by decide +kernel, by decide +kernel⟩, List.mem_of_getElem? (i := 236) (by decide +kernel), List.mem_of_getElem? (i := 748) (by decide +kernel), List.mem_of_getElem? (i := 749) (by decide +kernel)⟩
theorem lw_p54 : lw_okq (⟨"FilterForge$Reader", "dotFrom", "(I)I"⟩, 6) := ⟨⟨by decide +kernel, by decide +kernel⟩, List.mem_of_getElem? (i := 236) (by decide +kernel), List.mem_of_getElem? (i := 752) (by decide +kernel), List.mem_of_getElem? (i := 753) (by decide +kernel)⟩
theorem lw_p55 : lw_okq (⟨"FilterForge$Filter", "testAddress", "(IIZIII)V"⟩, 18) := ⟨⟨by decide +kernel, by decide +kernel⟩, List.mem_of_getElem? (i := 142) (by decide +kernel), List.mem_of_getElem? (i := 756) (by decide +kernel), List.mem_of_getElem? (i := 757) (by decide +kernel)⟩
theorem lw_p56 : lw_okq (⟨"FilterForge$Filter", "testAddressAt", "(IIZIII)V"⟩, 18) := ⟨⟨by decide +kernel, by decide +kernel⟩, List.mem_of_getElem? (i := 142) (by decide +kernel), List.mem_of_getElem? (i := 760) (by decide +kernel), List.mem_of_getElem? (i := 761) (by decide +kernel)⟩
theorem lw_p57 : lw_okq (⟨"FilterForge$Reader", "readNet", "(III)V"⟩, 6) := ⟨⟨by decide +kernel, by decide +kernel⟩, List.mem_of_getElem? (i := 236) (by decide +kernel), List.mem_of_getElem? (i := 765) (by decide +kernel), List.mem_of_getElem? (i := 766) (by decide +kernel)⟩
theorem lw_p58 : lw_okq (⟨"FilterForge$Filter", "testPorts", "(IIIII)V"⟩, 18) := ⟨⟨by decide +kernel, by decide +kernel⟩, List.mem_of_getElem? (i := 142) (by decide +kernel), List.mem_of_getElem? (i := 771) (by decide +kernel), List.mem_of_getElem? (i := 772) (by decide +kernel)⟩
theorem lw_p59 : lw_okq (⟨"FilterForge$Filter", "testSides", "(ZIIIII)V"⟩, 18) := ⟨⟨by decide +kernel, by decide +kernel⟩, List.mem_of_getElem? (i := 142) (by decide +kernel), List.mem_of_getElem? (i := 775) (by decide +kernel), List.mem_of_getElem? (i := 776) (by decide +kernel)⟩
theorem lw_p60 : lw_okq (⟨"FilterForge$Filter", "testPort", "(IIIII)V"⟩, 18) := ⟨⟨by decide +kernel, by decide +kernel⟩, List.mem_of_getElem? (i := 142) (by decide +kernel), List.mem_of_getElem? (i := 779) (by decide +kernel), List.mem_of_getElem? (i := 780) (by decide +kernel)⟩
theorem lw_p61 : lw_okq (⟨"FilterForge$Filter", "portItems", "(I)V"⟩, 18) := ⟨⟨by decide +kernel, by decide +kernel⟩, List.mem_of_getElem? (i := 142) (by decide +kernel), List.mem_of_getElem? (i := 783) (by decide +kernel), List.mem_of_getElem? (i := 784) (by decide +kernel)⟩
theorem lw_p62 : lw_okq (⟨"FilterForge$Reader", "readLength", "(II)V"⟩, 6) := ⟨⟨by decide +kernel, by decide +kernel⟩, List.mem_of_getElem? (i := 236) (by decide +kernel), List.mem_of_getElem? (i := 788) (by decide +kernel), List.mem_of_getElem? (i := 789) (by decide +kernel)⟩
theorem lw_p63 : lw_okq (⟨"FilterForge$Filter", "testLength", "(IIII)V"⟩, 18) := ⟨⟨by decide +kernel, by decide +kernel⟩, List.mem_of_getElem? (i := 142) (by decide +kernel), List.mem_of_getElem? (i := 794) (by decide +kernel), List.mem_of_getElem? (i := 795) (by decide +kernel)⟩
def lw_privs_4 : List (MethodName × Nat) := [(⟨"FilterForge$Reader", "takeNumber", "(JJ)I"⟩, 6), (⟨"FilterForge$Filter", "testProtocol", "(III)V"⟩, 18), (⟨"FilterForge$Filter", "putLabelHere", "(I)V"⟩, 18), (⟨"FilterForge$Reader", "readSided", "(II)V"⟩, 6), (⟨"FilterForge$Reader", "takeAddress", "()I"⟩, 6), (⟨"FilterForge$Reader", "address", "()J"⟩, 6), (⟨"FilterForge$Reader", "dotFrom", "(I)I"⟩, 6), (⟨"FilterForge$Filter", "testAddress", "(IIZIII)V"⟩, 18), (⟨"FilterForge$Filter", "testAddressAt", "(IIZIII)V"⟩, 18), (⟨"FilterForge$Reader", "readNet", "(III)V"⟩, 6), (⟨"FilterForge$Filter", "testPorts", "(IIIII)V"⟩, 18), (⟨"FilterForge$Filter", "testSides", "(ZIIIII)V"⟩, 18), (⟨"FilterForge$Filter", "testPort", "(IIIII)V"⟩, 18), (⟨"FilterForge$Filter", "portItems", "(I)V"⟩, 18), (⟨"FilterForge$Reader", "readLength", "(II)V"⟩, 6), (⟨"FilterForge$Filter", "testLength", "(IIII)V"⟩, 18)]
theorem lw_r4 : ∀ q ∈ lw_privs_4, lw_okq q := List.forall_mem_cons.mpr ⟨lw_p48, List.forall_mem_cons.mpr ⟨lw_p49, List.forall_mem_cons.mpr ⟨lw_p50, List.forall_mem_cons.mpr ⟨lw_p51, List.forall_mem_cons.mpr ⟨lw_p52, List.forall_mem_cons.mpr ⟨lw_p53, List.forall_mem_cons.mpr ⟨lw_p54, List.forall_mem_cons.mpr ⟨lw_p55, List.forall_mem_cons.mpr ⟨lw_p56, List.forall_mem_cons.mpr ⟨lw_p57, List.forall_mem_cons.mpr ⟨lw_p58, List.forall_mem_cons.mpr ⟨lw_p59, List.forall_mem_cons.mpr ⟨lw_p60, List.forall_mem_cons.mpr ⟨lw_p61, List.forall_mem_cons.mpr ⟨lw_p62, List.forall_mem_cons.mpr ⟨lw_p63, fun _ h => absurd h List.not_mem_nil⟩⟩⟩⟩⟩⟩⟩⟩⟩⟩⟩⟩⟩⟩⟩⟩
theorem lw_p64 : lw_okq (⟨"FilterForge$Filter", "joinLabel", "(II)V"⟩, 18) := ⟨⟨by decide +kernel, by decide +kernel⟩, List.mem_of_getElem? (i := 142) (by decide +kernel), List.mem_of_getElem? (i := 801) (by decide +kernel), List.mem_of_getElem? (i := 802) (by decide +kernel)⟩
theorem lw_p65 : lw_okq (⟨"FilterForge$Reader", "wrongPlace", "()I"⟩, 6) := ⟨⟨by decide +kernel, by decide +kernel⟩, List.mem_of_getElem? (i := 236) (by decide +kernel), List.mem_of_getElem? (i := 806) (by decide +kernel), List.mem_of_getElem? (i := 807) (by decide +kernel)⟩
theorem lw_p66 : lw_okq (⟨"FilterForge$Filter", "finish", "()V"⟩, 18) := ⟨⟨by decide +kernel, by decide +kernel⟩, List.mem_of_getElem? (i := 142) (by decide +kernel), List.mem_of_getElem? (i := 810) (by decide +kernel), List.mem_of_getElem? (i := 811) (by decide +kernel)⟩
theorem lw_p67 : lw_okq (⟨"FilterForge$Filter", "placeWays", "()V"⟩, 18) := ⟨⟨by decide +kernel, by decide +kernel⟩, List.mem_of_getElem? (i := 142) (by decide +kernel), List.mem_of_getElem? (i := 814) (by decide +kernel), List.mem_of_getElem? (i := 815) (by decide +kernel)⟩
theorem lw_p68 : lw_okq (⟨"FilterForge$Filter", "placeOf", "(II)I"⟩, 18) := ⟨⟨by decide +kernel, by decide +kernel⟩, List.mem_of_getElem? (i := 142) (by decide +kernel), List.mem_of_getElem? (i := 818) (by decide +kernel), List.mem_of_getElem? (i := 819) (by decide +kernel)⟩
theorem lw_p69 : lw_okq (⟨"FilterForge$Filter", "told", "(I)Z"⟩, 18) := ⟨⟨by decide +kernel, by decide +kernel⟩, List.mem_of_getElem? (i := 142) (by decide +kernel), List.mem_of_getElem? (i := 822) (by decide +kernel), List.mem_of_getElem? (i := 823) (by decide +kernel)⟩
theorem lw_p70 : lw_okq (⟨"FilterForge$Filter", "shortened", "(IZ)I"⟩, 18) := ⟨⟨by decide +kernel, by decide +kernel⟩, List.mem_of_getElem? (i := 142) (by decide +kernel), List.mem_of_getElem? (i := 826) (by decide +kernel), List.mem_of_getElem? (i := 827) (by decide +kernel)⟩
theorem lw_p71 : lw_okq (⟨"FilterForge$Filter", "readsAlike", "(II)Z"⟩, 18) := ⟨⟨by decide +kernel, by decide +kernel⟩, List.mem_of_getElem? (i := 142) (by decide +kernel), List.mem_of_getElem? (i := 830) (by decide +kernel), List.mem_of_getElem? (i := 831) (by decide +kernel)⟩
theorem lw_p72 : lw_okq (⟨"FilterForge$Filter", "placeRead", "(I)I"⟩, 18) := ⟨⟨by decide +kernel, by decide +kernel⟩, List.mem_of_getElem? (i := 142) (by decide +kernel), List.mem_of_getElem? (i := 834) (by decide +kernel), List.mem_of_getElem? (i := 835) (by decide +kernel)⟩
theorem lw_p73 : lw_okq (⟨"FilterForge$Filter", "leaveOut", "()V"⟩, 18) := ⟨⟨by decide +kernel, by decide +kernel⟩, List.mem_of_getElem? (i := 142) (by decide +kernel), List.mem_of_getElem? (i := 838) (by decide +kernel), List.mem_of_getElem? (i := 839) (by decide +kernel)⟩
theorem lw_p74 : lw_okq (⟨"FilterForge$Coder", "code", "(LFilterForge$Filter;LFilterForge$Program;)I"⟩, 5) := ⟨⟨by decide +kernel, by decide +kernel⟩, List.mem_of_getElem? (i := 261) (by decide +kernel), List.mem_of_getElem? (i := 842) (by decide +kernel), List.mem_of_getElem? (i := 843) (by decide +kernel)⟩
theorem lw_p75 : lw_okq (⟨"FilterForge$Coder", "put", "(IIIII)V"⟩, 5) := ⟨⟨by decide +kernel, by decide +kernel⟩, List.mem_of_getElem? (i := 261) (by decide +kernel), List.mem_of_getElem? (i := 846) (by decide +kernel), List.mem_of_getElem? (i := 847) (by decide +kernel)⟩
theorem lw_p76 : lw_okq (⟨"FilterForge$Coder", "codeTest", "(I)V"⟩, 5) := ⟨⟨by decide +kernel, by decide +kernel⟩, List.mem_of_getElem? (i := 261) (by decide +kernel), List.mem_of_getElem? (i := 852) (by decide +kernel), List.mem_of_getElem? (i := 853) (by decide +kernel)⟩
theorem lw_p77 : lw_okq (⟨"FilterForge$Coder", "codeItems", "(II)V"⟩, 5) := ⟨⟨by decide +kernel, by decide +kernel⟩, List.mem_of_getElem? (i := 261) (by decide +kernel), List.mem_of_getElem? (i := 856) (by decide +kernel), List.mem_of_getElem? (i := 857) (by decide +kernel)⟩
theorem lw_p78 : lw_okq (⟨"FilterForge$Coder", "codeItem", "(III)V"⟩, 5) := ⟨⟨by decide +kernel, by decide +kernel⟩, List.mem_of_getElem? (i := 261) (by decide +kernel), List.mem_of_getElem? (i := 860) (by decide +kernel), List.mem_of_getElem? (i := 861) (by decide +kernel)⟩
theorem lw_p79 : lw_okq (⟨"FilterForge$Coder", "codePush", "(I)V"⟩, 5) := ⟨⟨by decide +kernel, by decide +kernel⟩, List.mem_of_getElem? (i := 261) (by decide +kernel), List.mem_of_getElem? (i := 864) (by decide +kernel), List.mem_of_getElem? (i := 865) (by decide +kernel)⟩
def lw_privs_5 : List (MethodName × Nat) := [(⟨"FilterForge$Filter", "joinLabel", "(II)V"⟩, 18), (⟨"FilterForge$Reader", "wrongPlace", "()I"⟩, 6), (⟨"FilterForge$Filter", "finish", "()V"⟩, 18), (⟨"FilterForge$Filter", "placeWays", "()V"⟩, 18), (⟨"FilterForge$Filter", "placeOf", "(II)I"⟩, 18), (⟨"FilterForge$Filter", "told", "(I)Z"⟩, 18), (⟨"FilterForge$Filter", "shortened", "(IZ)I"⟩, 18), (⟨"FilterForge$Filter", "readsAlike", "(II)Z"⟩, 18), (⟨"FilterForge$Filter", "placeRead", "(I)I"⟩, 18), (⟨"FilterForge$Filter", "leaveOut", "()V"⟩, 18), (⟨"FilterForge$Coder", "code", "(LFilterForge$Filter;LFilterForge$Program;)I"⟩, 5), (⟨"FilterForge$Coder", "put", "(IIIII)V"⟩, 5), (⟨"FilterForge$Coder", "codeTest", "(I)V"⟩, 5), (⟨"FilterForge$Coder", "codeItems", "(II)V"⟩, 5), (⟨"FilterForge$Coder", "codeItem", "(III)V"⟩, 5), (⟨"FilterForge$Coder", "codePush", "(I)V"⟩, 5)]
theorem lw_r5 : ∀ q ∈ lw_privs_5, lw_okq q := List.forall_mem_cons.mpr ⟨lw_p64, List.forall_mem_cons.mpr ⟨lw_p65, List.forall_mem_cons.mpr ⟨lw_p66, List.forall_mem_cons.mpr ⟨lw_p67, List.forall_mem_cons.mpr ⟨lw_p68, List.forall_mem_cons.mpr ⟨lw_p69, List.forall_mem_cons.mpr ⟨lw_p70, List.forall_mem_cons.mpr ⟨lw_p71, List.forall_mem_cons.mpr ⟨lw_p72, List.forall_mem_cons.mpr ⟨lw_p73, List.forall_mem_cons.mpr ⟨lw_p74, List.forall_mem_cons.mpr ⟨lw_p75, List.forall_mem_cons.mpr ⟨lw_p76, List.forall_mem_cons.mpr ⟨lw_p77, List.forall_mem_cons.mpr ⟨lw_p78, List.forall_mem_cons.mpr ⟨lw_p79, fun _ h => absurd h List.not_mem_nil⟩⟩⟩⟩⟩⟩⟩⟩⟩⟩⟩⟩⟩⟩⟩⟩
theorem lw_p80 : lw_okq (⟨"FilterForge$Coder", "codeWithNumber", "(II)V"⟩, 5) := ⟨⟨by decide +kernel, by decide +kernel⟩, List.mem_of_getElem? (i := 261) (by decide +kernel), List.mem_of_getElem? (i := 871) (by decide +kernel), List.mem_of_getElem? (i := 872) (by decide +kernel)⟩
theorem lw_p81 : lw_okq (⟨"FilterForge$Coder", "putGoing", "(IIIII)V"⟩, 5) := ⟨⟨by decide +kernel, by decide +kernel⟩, List.mem_of_getElem? (i := 261) (by decide +kernel), List.mem_of_getElem? (i := 875) (by decide +kernel), List.mem_of_getElem? (i := 876) (by decide +kernel)⟩
theorem lw_p82 : lw_okq (⟨"FilterForge$Coder", "codeWithPushed", "(II)V"⟩, 5) := ⟨⟨by decide +kernel, by decide +kernel⟩, List.mem_of_getElem? (i := 261) (by decide +kernel), List.mem_of_getElem? (i := 879) (by decide +kernel), List.mem_of_getElem? (i := 880) (by decide +kernel)⟩
theorem lw_p83 : lw_okq (⟨"FilterForge$Coder", "codePull", "(I)V"⟩, 5) := ⟨⟨by decide +kernel, by decide +kernel⟩, List.mem_of_getElem? (i := 261) (by decide +kernel), List.mem_of_getElem? (i := 883) (by decide +kernel), List.mem_of_getElem? (i := 884) (by decide +kernel)⟩
theorem lw_p84 : lw_okq (⟨"FilterForge$Coder", "codeReadInBody", "(II)V"⟩, 5) := ⟨⟨by decide +kernel, by decide +kernel⟩, List.mem_of_getElem? (i := 261) (by decide +kernel), List.mem_of_getElem? (i := 890) (by decide +kernel), List.mem_of_getElem? (i := 891) (by decide +kernel)⟩
theorem lw_p85 : lw_okq (⟨"FilterForge$Coder", "rightIsNumber", "(I)Z"⟩, 5) := ⟨⟨by decide +kernel, by decide +kernel⟩, List.mem_of_getElem? (i := 261) (by decide +kernel), List.mem_of_getElem? (i := 894) (by decide +kernel), List.mem_of_getElem? (i := 895) (by decide +kernel)⟩
theorem lw_p86 : lw_okq (⟨"FilterForge$Coder", "codeWays", "(I)V"⟩, 5) := ⟨⟨by decide +kernel, by decide +kernel⟩, List.mem_of_getElem? (i := 261) (by decide +kernel), List.mem_of_getElem? (i := 898) (by decide +kernel), List.mem_of_getElem? (i := 899) (by decide +kernel)⟩
theorem lw_p87 : lw_okq (⟨"FilterForge$Coder", "nextKept", "(I)I"⟩, 5) := ⟨⟨by decide +kernel, by decide +kernel⟩, List.mem_of_getElem? (i := 261) (by decide +kernel), List.mem_of_getElem? (i := 902) (by decide +kernel), List.mem_of_getElem? (i := 903) (by decide +kernel)⟩
theorem lw_p88 : lw_okq (⟨"FilterForge$Coder", "placeGoals", "()V"⟩, 5) := ⟨⟨by decide +kernel, by decide +kernel⟩, List.mem_of_getElem? (i := 261) (by decide +kernel), List.mem_of_getElem? (i := 909) (by decide +kernel), List.mem_of_getElem? (i := 910) (by decide +kernel)⟩
theorem lw_p89 : lw_okq (⟨"FilterForge", "swapSpares", "()V"⟩, 14) := ⟨⟨by decide +kernel, by decide +kernel⟩, List.mem_of_getElem? (i := 29) (by decide +kernel), List.mem_of_getElem? (i := 914) (by decide +kernel), List.mem_of_getElem? (i := 915) (by decide +kernel)⟩
theorem lw_p90 : lw_okq (⟨"FilterForge$Program", "takeTape", "(LFilterForge$Tape;)I"⟩, 2) := ⟨⟨by decide +kernel, by decide +kernel⟩, List.mem_of_getElem? (i := 218) (by decide +kernel), List.mem_of_getElem? (i := 922) (by decide +kernel), List.mem_of_getElem? (i := 923) (by decide +kernel)⟩
theorem lw_p91 : lw_okq (⟨"FilterForge$Tape", "lowestFirst", "(II)J"⟩, 2) := ⟨⟨by decide +kernel, by decide +kernel⟩, List.mem_of_getElem? (i := 37) (by decide +kernel), List.mem_of_getElem? (i := 926) (by decide +kernel), List.mem_of_getElem? (i := 927) (by decide +kernel)⟩
theorem lw_p92 : lw_okq (⟨"FilterForge$Program", "at", "(I)J"⟩, 2) := ⟨⟨by decide +kernel, by decide +kernel⟩, List.mem_of_getElem? (i := 218) (by decide +kernel), List.mem_of_getElem? (i := 935) (by decide +kernel), List.mem_of_getElem? (i := 936) (by decide +kernel)⟩
theorem lw_p93 : lw_okq (⟨"FilterForge$Inspector", "look", "(LFilterForge$Program;)I"⟩, 14) := ⟨⟨by decide +kernel, by decide +kernel⟩, List.mem_of_getElem? (i := 305) (by decide +kernel), List.mem_of_getElem? (i := 943) (by decide +kernel), List.mem_of_getElem? (i := 944) (by decide +kernel)⟩
theorem lw_p94 : lw_okq (⟨"FilterForge$Inspector", "firstUnfit", "()I"⟩, 14) := ⟨⟨by decide +kernel, by decide +kernel⟩, List.mem_of_getElem? (i := 305) (by decide +kernel), List.mem_of_getElem? (i := 947) (by decide +kernel), List.mem_of_getElem? (i := 948) (by decide +kernel)⟩
theorem lw_p95 : lw_okq (⟨"FilterForge$Inspector", "goesAstray", "(IJ)Z"⟩, 14) := ⟨⟨by decide +kernel, by decide +kernel⟩, List.mem_of_getElem? (i := 305) (by decide +kernel), List.mem_of_getElem? (i := 997) (by decide +kernel), List.mem_of_getElem? (i := 998) (by decide +kernel)⟩
def lw_privs_6 : List (MethodName × Nat) := [(⟨"FilterForge$Coder", "codeWithNumber", "(II)V"⟩, 5), (⟨"FilterForge$Coder", "putGoing", "(IIIII)V"⟩, 5), (⟨"FilterForge$Coder", "codeWithPushed", "(II)V"⟩, 5), (⟨"FilterForge$Coder", "codePull", "(I)V"⟩, 5), (⟨"FilterForge$Coder", "codeReadInBody", "(II)V"⟩, 5), (⟨"FilterForge$Coder", "rightIsNumber", "(I)Z"⟩, 5), (⟨"FilterForge$Coder", "codeWays", "(I)V"⟩, 5), (⟨"FilterForge$Coder", "nextKept", "(I)I"⟩, 5), (⟨"FilterForge$Coder", "placeGoals", "()V"⟩, 5), (⟨"FilterForge", "swapSpares", "()V"⟩, 14), (⟨"FilterForge$Program", "takeTape", "(LFilterForge$Tape;)I"⟩, 2), (⟨"FilterForge$Tape", "lowestFirst", "(II)J"⟩, 2), (⟨"FilterForge$Program", "at", "(I)J"⟩, 2), (⟨"FilterForge$Inspector", "look", "(LFilterForge$Program;)I"⟩, 14), (⟨"FilterForge$Inspector", "firstUnfit", "()I"⟩, 14), (⟨"FilterForge$Inspector", "goesAstray", "(IJ)Z"⟩, 14)]
theorem lw_r6 : ∀ q ∈ lw_privs_6, lw_okq q := List.forall_mem_cons.mpr ⟨lw_p80, List.forall_mem_cons.mpr ⟨lw_p81, List.forall_mem_cons.mpr ⟨lw_p82, List.forall_mem_cons.mpr ⟨lw_p83, List.forall_mem_cons.mpr ⟨lw_p84, List.forall_mem_cons.mpr ⟨lw_p85, List.forall_mem_cons.mpr ⟨lw_p86, List.forall_mem_cons.mpr ⟨lw_p87, List.forall_mem_cons.mpr ⟨lw_p88, List.forall_mem_cons.mpr ⟨lw_p89, List.forall_mem_cons.mpr ⟨lw_p90, List.forall_mem_cons.mpr ⟨lw_p91, List.forall_mem_cons.mpr ⟨lw_p92, List.forall_mem_cons.mpr ⟨lw_p93, List.forall_mem_cons.mpr ⟨lw_p94, List.forall_mem_cons.mpr ⟨lw_p95, fun _ h => absurd h List.not_mem_nil⟩⟩⟩⟩⟩⟩⟩⟩⟩⟩⟩⟩⟩⟩⟩⟩
theorem lw_p96 : lw_okq (⟨"FilterForge$Inspector", "makeRoom", "()V"⟩, 14) := ⟨⟨by decide +kernel, by decide +kernel⟩, List.mem_of_getElem? (i := 305) (by decide +kernel), List.mem_of_getElem? (i := 1004) (by decide +kernel), List.mem_of_getElem? (i := 1005) (by decide +kernel)⟩
theorem lw_p97 : lw_okq (⟨"FilterForge$Inspector", "begin", "()V"⟩, 14) := ⟨⟨by decide +kernel, by decide +kernel⟩, List.mem_of_getElem? (i := 305) (by decide +kernel), List.mem_of_getElem? (i := 1008) (by decide +kernel), List.mem_of_getElem? (i := 1009) (by decide +kernel)⟩
theorem lw_p98 : lw_okq (⟨"FilterForge$Fact", "lose", "()V"⟩, 5) := ⟨⟨by decide +kernel, by decide +kernel⟩, List.mem_of_getElem? (i := 312) (by decide +kernel), List.mem_of_getElem? (i := 1012) (by decide +kernel), List.mem_of_getElem? (i := 1013) (by decide +kernel)⟩
theorem lw_p99 : lw_okq (⟨"FilterForge$Fact", "setRange", "(JJ)V"⟩, 5) := ⟨⟨by decide +kernel, by decide +kernel⟩, List.mem_of_getElem? (i := 312) (by decide +kernel), List.mem_of_getElem? (i := 1017) (by decide +kernel), List.mem_of_getElem? (i := 1018) (by decide +kernel)⟩
theorem lw_p100 : lw_okq (⟨"FilterForge$Fact", "setExact", "(J)V"⟩, 5) := ⟨⟨by decide +kernel, by decide +kernel⟩, List.mem_of_getElem? (i := 312) (by decide +kernel), List.mem_of_getElem? (i := 1021) (by decide +kernel), List.mem_of_getElem? (i := 1022) (by decide +kernel)⟩
theorem lw_p101 : lw_okq (⟨"FilterForge$Inspector", "arrive", "(I)V"⟩, 14) := ⟨⟨by decide +kernel, by decide +kernel⟩, List.mem_of_getElem? (i := 305) (by decide +kernel), List.mem_of_getElem? (i := 1027) (by decide +kernel), List.mem_of_getElem? (i := 1028) (by decide +kernel)⟩
theorem lw_p102 : lw_okq (⟨"FilterForge$Inspector", "put", "(IIJJJJ)V"⟩, 14) := ⟨⟨by decide +kernel, by decide +kernel⟩, List.mem_of_getElem? (i := 305) (by decide +kernel), List.mem_of_getElem? (i := 1031) (by decide +kernel), List.mem_of_getElem? (i := 1032) (by decide +kernel)⟩
theorem lw_p103 : lw_okq (⟨"FilterForge$Inspector", "bring", "(I)V"⟩, 14) := ⟨⟨by decide +kernel, by decide +kernel⟩, List.mem_of_getElem? (i := 305) (by decide +kernel), List.mem_of_getElem? (i := 1046) (by decide +kernel), List.mem_of_getElem? (i := 1047) (by decide +kernel)⟩
theorem lw_p104 : lw_okq (⟨"FilterForge$Inspector", "offenceOf", "(J)I"⟩, 14) := ⟨⟨by decide +kernel, by decide +kernel⟩, List.mem_of_getElem? (i := 305) (by decide +kernel), List.mem_of_getElem? (i := 1050) (by decide +kernel), List.mem_of_getElem? (i := 1051) (by decide +kernel)⟩
theorem lw_p105 : lw_okq (⟨"FilterForge$Inspector", "offenceOfOp", "(III)I"⟩, 14) := ⟨⟨by decide +kernel, by decide +kernel⟩, List.mem_of_getElem? (i := 305) (by decide +kernel), List.mem_of_getElem? (i := 1057) (by decide +kernel), List.mem_of_getElem? (i := 1058) (by decide +kernel)⟩
theorem lw_p106 : lw_okq (⟨"FilterForge$Inspector", "isLost", "(I)Z"⟩, 14) := ⟨⟨by decide +kernel, by decide +kernel⟩, List.mem_of_getElem? (i := 305) (by decide +kernel), List.mem_of_getElem? (i := 1065) (by decide +kernel), List.mem_of_getElem? (i := 1066) (by decide +kernel)⟩
theorem lw_p107 : lw_okq (⟨"FilterForge$Inspector", "isPointer", "(I)Z"⟩, 14) := ⟨⟨by decide +kernel, by decide +kernel⟩, List.mem_of_getElem? (i := 305) (by decide +kernel), List.mem_of_getElem? (i := 1069) (by decide +kernel), List.mem_of_getElem? (i := 1070) (by decide +kernel)⟩
theorem lw_p108 : lw_okq (⟨"FilterForge$Inspector", "offenceOfUse", "(II)I"⟩, 14) := ⟨⟨by decide +kernel, by decide +kernel⟩, List.mem_of_getElem? (i := 305) (by decide +kernel), List.mem_of_getElem? (i := 1073) (by decide +kernel), List.mem_of_getElem? (i := 1074) (by decide +kernel)⟩
theorem lw_p109 : lw_okq (⟨"FilterForge$Inspector", "offenceOfMemory", "(JI)I"⟩, 14) := ⟨⟨by decide +kernel, by decide +kernel⟩, List.mem_of_getElem? (i := 305) (by decide +kernel), List.mem_of_getElem? (i := 1079) (by decide +kernel), List.mem_of_getElem? (i := 1080) (by decide +kernel)⟩
theorem lw_p110 : lw_okq (⟨"FilterForge$Fact", "copy", "(LFilterForge$Fact;)V"⟩, 5) := ⟨⟨by decide +kernel, by decide +kernel⟩, List.mem_of_getElem? (i := 312) (by decide +kernel), List.mem_of_getElem? (i := 1083) (by decide +kernel), List.mem_of_getElem? (i := 1084) (by decide +kernel)⟩
theorem lw_p111 : lw_okq (⟨"FilterForge$Fact", "work", "(IZLFilterForge$Fact;)V"⟩, 5) := ⟨⟨by decide +kernel, by decide +kernel⟩, List.mem_of_getElem? (i := 312) (by decide +kernel), List.mem_of_getElem? (i := 1087) (by decide +kernel), List.mem_of_getElem? (i := 1088) (by decide +kernel)⟩
def lw_privs_7 : List (MethodName × Nat) := [(⟨"FilterForge$Inspector", "makeRoom", "()V"⟩, 14), (⟨"FilterForge$Inspector", "begin", "()V"⟩, 14), (⟨"FilterForge$Fact", "lose", "()V"⟩, 5), (⟨"FilterForge$Fact", "setRange", "(JJ)V"⟩, 5), (⟨"FilterForge$Fact", "setExact", "(J)V"⟩, 5), (⟨"FilterForge$Inspector", "arrive", "(I)V"⟩, 14), (⟨"FilterForge$Inspector", "put", "(IIJJJJ)V"⟩, 14), (⟨"FilterForge$Inspector", "bring", "(I)V"⟩, 14), (⟨"FilterForge$Inspector", "offenceOf", "(J)I"⟩, 14), (⟨"FilterForge$Inspector", "offenceOfOp", "(III)I"⟩, 14), (⟨"FilterForge$Inspector", "isLost", "(I)Z"⟩, 14), (⟨"FilterForge$Inspector", "isPointer", "(I)Z"⟩, 14), (⟨"FilterForge$Inspector", "offenceOfUse", "(II)I"⟩, 14), (⟨"FilterForge$Inspector", "offenceOfMemory", "(JI)I"⟩, 14), (⟨"FilterForge$Fact", "copy", "(LFilterForge$Fact;)V"⟩, 5), (⟨"FilterForge$Fact", "work", "(IZLFilterForge$Fact;)V"⟩, 5)]
theorem lw_r7 : ∀ q ∈ lw_privs_7, lw_okq q := List.forall_mem_cons.mpr ⟨lw_p96, List.forall_mem_cons.mpr ⟨lw_p97, List.forall_mem_cons.mpr ⟨lw_p98, List.forall_mem_cons.mpr ⟨lw_p99, List.forall_mem_cons.mpr ⟨lw_p100, List.forall_mem_cons.mpr ⟨lw_p101, List.forall_mem_cons.mpr ⟨lw_p102, List.forall_mem_cons.mpr ⟨lw_p103, List.forall_mem_cons.mpr ⟨lw_p104, List.forall_mem_cons.mpr ⟨lw_p105, List.forall_mem_cons.mpr ⟨lw_p106, List.forall_mem_cons.mpr ⟨lw_p107, List.forall_mem_cons.mpr ⟨lw_p108, List.forall_mem_cons.mpr ⟨lw_p109, List.forall_mem_cons.mpr ⟨lw_p110, List.forall_mem_cons.mpr ⟨lw_p111, fun _ h => absurd h List.not_mem_nil⟩⟩⟩⟩⟩⟩⟩⟩⟩⟩⟩⟩⟩⟩⟩⟩
theorem lw_p112 : lw_okq (⟨"FilterForge$Fact", "cut", "()V"⟩, 5) := ⟨⟨by decide +kernel, by decide +kernel⟩, List.mem_of_getElem? (i := 312) (by decide +kernel), List.mem_of_getElem? (i := 1091) (by decide +kernel), List.mem_of_getElem? (i := 1092) (by decide +kernel)⟩
theorem lw_p113 : lw_okq (⟨"FilterForge$Fact", "settle", "()V"⟩, 5) := ⟨⟨by decide +kernel, by decide +kernel⟩, List.mem_of_getElem? (i := 312) (by decide +kernel), List.mem_of_getElem? (i := 1098) (by decide +kernel), List.mem_of_getElem? (i := 1099) (by decide +kernel)⟩
theorem lw_p114 : lw_okq (⟨"FilterForge$Fact", "workBits", "(IZLFilterForge$Fact;)V"⟩, 5) := ⟨⟨by decide +kernel, by decide +kernel⟩, List.mem_of_getElem? (i := 312) (by decide +kernel), List.mem_of_getElem? (i := 1110) (by decide +kernel), List.mem_of_getElem? (i := 1111) (by decide +kernel)⟩
theorem lw_p115 : lw_okq (⟨"FilterForge$Fact", "addBits", "(LFilterForge$Fact;)V"⟩, 5) := ⟨⟨by decide +kernel, by decide +kernel⟩, List.mem_of_getElem? (i := 312) (by decide +kernel), List.mem_of_getElem? (i := 1114) (by decide +kernel), List.mem_of_getElem? (i := 1115) (by decide +kernel)⟩
theorem lw_p116 : lw_okq (⟨"FilterForge$Fact", "takeBits", "(LFilterForge$Fact;)V"⟩, 5) := ⟨⟨by decide +kernel, by decide +kernel⟩, List.mem_of_getElem? (i := 312) (by decide +kernel), List.mem_of_getElem? (i := 1118) (by decide +kernel), List.mem_of_getElem? (i := 1119) (by decide +kernel)⟩
theorem lw_p117 : lw_okq (⟨"FilterForge$Fact", "shiftBits", "(IZLFilterForge$Fact;)V"⟩, 5) := ⟨⟨by decide +kernel, by decide +kernel⟩, List.mem_of_getElem? (i := 312) (by decide +kernel), List.mem_of_getElem? (i := 1122) (by decide +kernel), List.mem_of_getElem? (i := 1123) (by decide +kernel)⟩
theorem lw_p118 : lw_okq (⟨"FilterForge$Fact", "isUnsigned", "(Z)Z"⟩, 5) := ⟨⟨by decide +kernel, by decide +kernel⟩, List.mem_of_getElem? (i := 312) (by decide +kernel), List.mem_of_getElem? (i := 1126) (by decide +kernel), List.mem_of_getElem? (i := 1127) (by decide +kernel)⟩
theorem lw_p119 : lw_okq (⟨"FilterForge$Fact", "isExact", "()Z"⟩, 5) := ⟨⟨by decide +kernel, by decide +kernel⟩, List.mem_of_getElem? (i := 312) (by decide +kernel), List.mem_of_getElem? (i := 1131) (by decide +kernel), List.mem_of_getElem? (i := 1132) (by decide +kernel)⟩
theorem lw_p120 : lw_okq (⟨"FilterForge$Fact", "workRange", "(IZLFilterForge$Fact;)V"⟩, 5) := ⟨⟨by decide +kernel, by decide +kernel⟩, List.mem_of_getElem? (i := 312) (by decide +kernel), List.mem_of_getElem? (i := 1135) (by decide +kernel), List.mem_of_getElem? (i := 1136) (by decide +kernel)⟩
theorem lw_p121 : lw_okq (⟨"FilterForge$Fact", "keepRange", "(JJZ)V"⟩, 5) := ⟨⟨by decide +kernel, by decide +kernel⟩, List.mem_of_getElem? (i := 312) (by decide +kernel), List.mem_of_getElem? (i := 1139) (by decide +kernel), List.mem_of_getElem? (i := 1140) (by decide +kernel)⟩
theorem lw_p122 : lw_okq (⟨"FilterForge$Inspector", "bytesFrom", "(I)J"⟩, 14) := ⟨⟨by decide +kernel, by decide +kernel⟩, List.mem_of_getElem? (i := 305) (by decide +kernel), List.mem_of_getElem? (i := 1154) (by decide +kernel), List.mem_of_getElem? (i := 1155) (by decide +kernel)⟩
theorem lw_p123 : lw_okq (⟨"FilterForge$Inspector", "pass", "(IJ)V"⟩, 14) := ⟨⟨by decide +kernel, by decide +kernel⟩, List.mem_of_getElem? (i := 305) (by decide +kernel), List.mem_of_getElem? (i := 1158) (by decide +kernel), List.mem_of_getElem? (i := 1159) (by decide +kernel)⟩
theorem lw_p124 : lw_okq (⟨"FilterForge$Inspector", "passJump", "(IJ)V"⟩, 14) := ⟨⟨by decide +kernel, by decide +kernel⟩, List.mem_of_getElem? (i := 305) (by decide +kernel), List.mem_of_getElem? (i := 1162) (by decide +kernel), List.mem_of_getElem? (i := 1163) (by decide +kernel)⟩
theorem lw_p125 : lw_okq (⟨"FilterForge$Inspector", "bringSide", "(J)V"⟩, 14) := ⟨⟨by decide +kernel, by decide +kernel⟩, List.mem_of_getElem? (i := 305) (by decide +kernel), List.mem_of_getElem? (i := 1166) (by decide +kernel), List.mem_of_getElem? (i := 1167) (by decide +kernel)⟩
theorem lw_p126 : lw_okq (⟨"FilterForge$Fact", "narrow", "(IJ)Z"⟩, 5) := ⟨⟨by decide +kernel, by decide +kernel⟩, List.mem_of_getElem? (i := 312) (by decide +kernel), List.mem_of_getElem? (i := 1172) (by decide +kernel), List.mem_of_getElem? (i := 1173) (by decide +kernel)⟩
theorem lw_p127 : lw_okq (⟨"FilterForge$Fact", "narrowUnequal", "(J)Z"⟩, 5) := ⟨⟨by decide +kernel, by decide +kernel⟩, List.mem_of_getElem? (i := 312) (by decide +kernel), List.mem_of_getElem? (i := 1176) (by decide +kernel), List.mem_of_getElem? (i := 1177) (by decide +kernel)⟩
def lw_privs_8 : List (MethodName × Nat) := [(⟨"FilterForge$Fact", "cut", "()V"⟩, 5), (⟨"FilterForge$Fact", "settle", "()V"⟩, 5), (⟨"FilterForge$Fact", "workBits", "(IZLFilterForge$Fact;)V"⟩, 5), (⟨"FilterForge$Fact", "addBits", "(LFilterForge$Fact;)V"⟩, 5), (⟨"FilterForge$Fact", "takeBits", "(LFilterForge$Fact;)V"⟩, 5), (⟨"FilterForge$Fact", "shiftBits", "(IZLFilterForge$Fact;)V"⟩, 5), (⟨"FilterForge$Fact", "isUnsigned", "(Z)Z"⟩, 5), (⟨"FilterForge$Fact", "isExact", "()Z"⟩, 5), (⟨"FilterForge$Fact", "workRange", "(IZLFilterForge$Fact;)V"⟩, 5), (⟨"FilterForge$Fact", "keepRange", "(JJZ)V"⟩, 5), (⟨"FilterForge$Inspector", "bytesFrom", "(I)J"⟩, 14), (⟨"FilterForge$Inspector", "pass", "(IJ)V"⟩, 14), (⟨"FilterForge$Inspector", "passJump", "(IJ)V"⟩, 14), (⟨"FilterForge$Inspector", "bringSide", "(J)V"⟩, 14), (⟨"FilterForge$Fact", "narrow", "(IJ)Z"⟩, 5), (⟨"FilterForge$Fact", "narrowUnequal", "(J)Z"⟩, 5)]
theorem lw_r8 : ∀ q ∈ lw_privs_8, lw_okq q := List.forall_mem_cons.mpr ⟨lw_p112, List.forall_mem_cons.mpr ⟨lw_p113, List.forall_mem_cons.mpr ⟨lw_p114, List.forall_mem_cons.mpr ⟨lw_p115, List.forall_mem_cons.mpr ⟨lw_p116, List.forall_mem_cons.mpr ⟨lw_p117, List.forall_mem_cons.mpr ⟨lw_p118, List.forall_mem_cons.mpr ⟨lw_p119, List.forall_mem_cons.mpr ⟨lw_p120, List.forall_mem_cons.mpr ⟨lw_p121, List.forall_mem_cons.mpr ⟨lw_p122, List.forall_mem_cons.mpr ⟨lw_p123, List.forall_mem_cons.mpr ⟨lw_p124, List.forall_mem_cons.mpr ⟨lw_p125, List.forall_mem_cons.mpr ⟨lw_p126, List.forall_mem_cons.mpr ⟨lw_p127, fun _ h => absurd h List.not_mem_nil⟩⟩⟩⟩⟩⟩⟩⟩⟩⟩⟩⟩⟩⟩⟩⟩
theorem lw_p128 : lw_okq (⟨"FilterForge$Fact", "setBytes", "(I)V"⟩, 5) := ⟨⟨by decide +kernel, by decide +kernel⟩, List.mem_of_getElem? (i := 312) (by decide +kernel), List.mem_of_getElem? (i := 1181) (by decide +kernel), List.mem_of_getElem? (i := 1182) (by decide +kernel)⟩
theorem lw_p129 : lw_okq (⟨"FilterForge$Inspector", "tell", "(III)J"⟩, 14) := ⟨⟨by decide +kernel, by decide +kernel⟩, List.mem_of_getElem? (i := 305) (by decide +kernel), List.mem_of_getElem? (i := 1190) (by decide +kernel), List.mem_of_getElem? (i := 1191) (by decide +kernel)⟩
theorem lw_p130 : lw_okq (⟨"FilterForge$Program", "perform", "(LFilterForge$Machine;II)J"⟩, 2) := ⟨⟨by decide +kernel, by decide +kernel⟩, List.mem_of_getElem? (i := 218) (by decide +kernel), List.mem_of_getElem? (i := 1199) (by decide +kernel), List.mem_of_getElem? (i := 1200) (by decide +kernel)⟩
theorem lw_p131 : lw_okq (⟨"FilterForge$Machine", "begin", "(II)V"⟩, 10) := ⟨⟨by decide +kernel, by decide +kernel⟩, List.mem_of_getElem? (i := 74) (by decide +kernel), List.mem_of_getElem? (i := 1203) (by decide +kernel), List.mem_of_getElem? (i := 1204) (by decide +kernel)⟩
theorem lw_p132 : lw_okq (⟨"FilterForge$Machine", "set", "(IJ)V"⟩, 10) := ⟨⟨by decide +kernel, by decide +kernel⟩, List.mem_of_getElem? (i := 74) (by decide +kernel), List.mem_of_getElem? (i := 1207) (by decide +kernel), List.mem_of_getElem? (i := 1208) (by decide +kernel)⟩
theorem lw_p133 : lw_okq (⟨"FilterForge$Machine", "stop", "(I)V"⟩, 10) := ⟨⟨by decide +kernel, by decide +kernel⟩, List.mem_of_getElem? (i := 74) (by decide +kernel), List.mem_of_getElem? (i := 1212) (by decide +kernel), List.mem_of_getElem? (i := 1213) (by decide +kernel)⟩
theorem lw_p134 : lw_okq (⟨"FilterForge$Program", "step", "(LFilterForge$Machine;)V"⟩, 2) := ⟨⟨by decide +kernel, by decide +kernel⟩, List.mem_of_getElem? (i := 218) (by decide +kernel), List.mem_of_getElem? (i := 1216) (by decide +kernel), List.mem_of_getElem? (i := 1217) (by decide +kernel)⟩
theorem lw_p135 : lw_okq (⟨"FilterForge$Machine", "get", "(I)J"⟩, 10) := ⟨⟨by decide +kernel, by decide +kernel⟩, List.mem_of_getElem? (i := 74) (by decide +kernel), List.mem_of_getElem? (i := 1223) (by decide +kernel), List.mem_of_getElem? (i := 1224) (by decide +kernel)⟩
theorem lw_p136 : lw_okq (⟨"FilterForge$Machine", "readPacket", "(JI)J"⟩, 10) := ⟨⟨by decide +kernel, by decide +kernel⟩, List.mem_of_getElem? (i := 74) (by decide +kernel), List.mem_of_getElem? (i := 1239) (by decide +kernel), List.mem_of_getElem? (i := 1240) (by decide +kernel)⟩
theorem lw_p137 : lw_okq (⟨"FilterForge$Packets", "read", "(IJI)J"⟩, 3) := ⟨⟨by decide +kernel, by decide +kernel⟩, List.mem_of_getElem? (i := 56) (by decide +kernel), List.mem_of_getElem? (i := 1243) (by decide +kernel), List.mem_of_getElem? (i := 1244) (by decide +kernel)⟩
theorem lw_p138 : lw_okq (⟨"FilterForge$Machine", "inStack", "(JI)Z"⟩, 10) := ⟨⟨by decide +kernel, by decide +kernel⟩, List.mem_of_getElem? (i := 74) (by decide +kernel), List.mem_of_getElem? (i := 1250) (by decide +kernel), List.mem_of_getElem? (i := 1251) (by decide +kernel)⟩
theorem lw_p139 : lw_okq (⟨"FilterForge$Machine", "load8", "(JI)J"⟩, 10) := ⟨⟨by decide +kernel, by decide +kernel⟩, List.mem_of_getElem? (i := 74) (by decide +kernel), List.mem_of_getElem? (i := 1256) (by decide +kernel), List.mem_of_getElem? (i := 1257) (by decide +kernel)⟩
theorem lw_p140 : lw_okq (⟨"FilterForge$Machine", "byteAt", "(J)I"⟩, 10) := ⟨⟨by decide +kernel, by decide +kernel⟩, List.mem_of_getElem? (i := 74) (by decide +kernel), List.mem_of_getElem? (i := 1260) (by decide +kernel), List.mem_of_getElem? (i := 1261) (by decide +kernel)⟩
theorem lw_p141 : lw_okq (⟨"FilterForge$Machine", "inPacket", "(JI)Z"⟩, 10) := ⟨⟨by decide +kernel, by decide +kernel⟩, List.mem_of_getElem? (i := 74) (by decide +kernel), List.mem_of_getElem? (i := 1266) (by decide +kernel), List.mem_of_getElem? (i := 1267) (by decide +kernel)⟩
theorem lw_p142 : lw_okq (⟨"FilterForge$Machine", "store", "(JIJ)V"⟩, 10) := ⟨⟨by decide +kernel, by decide +kernel⟩, List.mem_of_getElem? (i := 74) (by decide +kernel), List.mem_of_getElem? (i := 1274) (by decide +kernel), List.mem_of_getElem? (i := 1275) (by decide +kernel)⟩
theorem lw_p143 : lw_okq (⟨"FilterForge$Machine", "stepOn", "(I)V"⟩, 10) := ⟨⟨by decide +kernel, by decide +kernel⟩, List.mem_of_getElem? (i := 74) (by decide +kernel), List.mem_of_getElem? (i := 1278) (by decide +kernel), List.mem_of_getElem? (i := 1279) (by decide +kernel)⟩
def lw_privs_9 : List (MethodName × Nat) := [(⟨"FilterForge$Fact", "setBytes", "(I)V"⟩, 5), (⟨"FilterForge$Inspector", "tell", "(III)J"⟩, 14), (⟨"FilterForge$Program", "perform", "(LFilterForge$Machine;II)J"⟩, 2), (⟨"FilterForge$Machine", "begin", "(II)V"⟩, 10), (⟨"FilterForge$Machine", "set", "(IJ)V"⟩, 10), (⟨"FilterForge$Machine", "stop", "(I)V"⟩, 10), (⟨"FilterForge$Program", "step", "(LFilterForge$Machine;)V"⟩, 2), (⟨"FilterForge$Machine", "get", "(I)J"⟩, 10), (⟨"FilterForge$Machine", "readPacket", "(JI)J"⟩, 10), (⟨"FilterForge$Packets", "read", "(IJI)J"⟩, 3), (⟨"FilterForge$Machine", "inStack", "(JI)Z"⟩, 10), (⟨"FilterForge$Machine", "load8", "(JI)J"⟩, 10), (⟨"FilterForge$Machine", "byteAt", "(J)I"⟩, 10), (⟨"FilterForge$Machine", "inPacket", "(JI)Z"⟩, 10), (⟨"FilterForge$Machine", "store", "(JIJ)V"⟩, 10), (⟨"FilterForge$Machine", "stepOn", "(I)V"⟩, 10)]
theorem lw_r9 : ∀ q ∈ lw_privs_9, lw_okq q := List.forall_mem_cons.mpr ⟨lw_p128, List.forall_mem_cons.mpr ⟨lw_p129, List.forall_mem_cons.mpr ⟨lw_p130, List.forall_mem_cons.mpr ⟨lw_p131, List.forall_mem_cons.mpr ⟨lw_p132, List.forall_mem_cons.mpr ⟨lw_p133, List.forall_mem_cons.mpr ⟨lw_p134, List.forall_mem_cons.mpr ⟨lw_p135, List.forall_mem_cons.mpr ⟨lw_p136, List.forall_mem_cons.mpr ⟨lw_p137, List.forall_mem_cons.mpr ⟨lw_p138, List.forall_mem_cons.mpr ⟨lw_p139, List.forall_mem_cons.mpr ⟨lw_p140, List.forall_mem_cons.mpr ⟨lw_p141, List.forall_mem_cons.mpr ⟨lw_p142, List.forall_mem_cons.mpr ⟨lw_p143, fun _ h => absurd h List.not_mem_nil⟩⟩⟩⟩⟩⟩⟩⟩⟩⟩⟩⟩⟩⟩⟩⟩
theorem lw_p144 : lw_okq (⟨"FilterForge$Translator", "turn", "(LFilterForge$Program;)I"⟩, 5) := ⟨⟨by decide +kernel, by decide +kernel⟩, List.mem_of_getElem? (i := 283) (by decide +kernel), List.mem_of_getElem? (i := 1287) (by decide +kernel), List.mem_of_getElem? (i := 1288) (by decide +kernel)⟩
theorem lw_p145 : lw_okq (⟨"FilterForge$Translator", "turnAll", "()V"⟩, 5) := ⟨⟨by decide +kernel, by decide +kernel⟩, List.mem_of_getElem? (i := 283) (by decide +kernel), List.mem_of_getElem? (i := 1291) (by decide +kernel), List.mem_of_getElem? (i := 1292) (by decide +kernel)⟩
theorem lw_p146 : lw_okq (⟨"FilterForge$Translator", "turnOne", "(I)V"⟩, 5) := ⟨⟨by decide +kernel, by decide +kernel⟩, List.mem_of_getElem? (i := 283) (by decide +kernel), List.mem_of_getElem? (i := 1295) (by decide +kernel), List.mem_of_getElem? (i := 1296) (by decide +kernel)⟩
theorem lw_p147 : lw_okq (⟨"FilterForge$Translator", "turnOp", "(J)V"⟩, 5) := ⟨⟨by decide +kernel, by decide +kernel⟩, List.mem_of_getElem? (i := 283) (by decide +kernel), List.mem_of_getElem? (i := 1302) (by decide +kernel), List.mem_of_getElem? (i := 1303) (by decide +kernel)⟩
theorem lw_p148 : lw_okq (⟨"FilterForge$Translator", "putNumber", "(II)V"⟩, 5) := ⟨⟨by decide +kernel, by decide +kernel⟩, List.mem_of_getElem? (i := 283) (by decide +kernel), List.mem_of_getElem? (i := 1313) (by decide +kernel), List.mem_of_getElem? (i := 1314) (by decide +kernel)⟩
theorem lw_p149 : lw_okq (⟨"FilterForge$Translator", "put", "(I)V"⟩, 5) := ⟨⟨by decide +kernel, by decide +kernel⟩, List.mem_of_getElem? (i := 283) (by decide +kernel), List.mem_of_getElem? (i := 1317) (by decide +kernel), List.mem_of_getElem? (i := 1318) (by decide +kernel)⟩
theorem lw_p150 : lw_okq (⟨"FilterForge$Translator", "putAdd", "(III)V"⟩, 5) := ⟨⟨by decide +kernel, by decide +kernel⟩, List.mem_of_getElem? (i := 283) (by decide +kernel), List.mem_of_getElem? (i := 1323) (by decide +kernel), List.mem_of_getElem? (i := 1324) (by decide +kernel)⟩
theorem lw_p151 : lw_okq (⟨"FilterForge$Translator", "putOp", "(IIIIII)V"⟩, 5) := ⟨⟨by decide +kernel, by decide +kernel⟩, List.mem_of_getElem? (i := 283) (by decide +kernel), List.mem_of_getElem? (i := 1327) (by decide +kernel), List.mem_of_getElem? (i := 1328) (by decide +kernel)⟩
theorem lw_p152 : lw_okq (⟨"FilterForge$Translator", "putSide", "(J)I"⟩, 5) := ⟨⟨by decide +kernel, by decide +kernel⟩, List.mem_of_getElem? (i := 283) (by decide +kernel), List.mem_of_getElem? (i := 1331) (by decide +kernel), List.mem_of_getElem? (i := 1332) (by decide +kernel)⟩
theorem lw_p153 : lw_okq (⟨"FilterForge$Translator", "turnDivision", "(ZII)V"⟩, 5) := ⟨⟨by decide +kernel, by decide +kernel⟩, List.mem_of_getElem? (i := 283) (by decide +kernel), List.mem_of_getElem? (i := 1335) (by decide +kernel), List.mem_of_getElem? (i := 1336) (by decide +kernel)⟩
theorem lw_p154 : lw_okq (⟨"FilterForge$Translator", "putImm", "(IIIII)V"⟩, 5) := ⟨⟨by decide +kernel, by decide +kernel⟩, List.mem_of_getElem? (i := 283) (by decide +kernel), List.mem_of_getElem? (i := 1339) (by decide +kernel), List.mem_of_getElem? (i := 1340) (by decide +kernel)⟩
theorem lw_p155 : lw_okq (⟨"FilterForge$Translator", "putBranch", "(IIII)V"⟩, 5) := ⟨⟨by decide +kernel, by decide +kernel⟩, List.mem_of_getElem? (i := 283) (by decide +kernel), List.mem_of_getElem? (i := 1343) (by decide +kernel), List.mem_of_getElem? (i := 1344) (by decide +kernel)⟩
theorem lw_p156 : lw_okq (⟨"FilterForge$Translator", "putGoing", "(I)V"⟩, 5) := ⟨⟨by decide +kernel, by decide +kernel⟩, List.mem_of_getElem? (i := 283) (by decide +kernel), List.mem_of_getElem? (i := 1347) (by decide +kernel), List.mem_of_getElem? (i := 1348) (by decide +kernel)⟩
theorem lw_p157 : lw_okq (⟨"FilterForge$Translator", "putCut", "(I)V"⟩, 5) := ⟨⟨by decide +kernel, by decide +kernel⟩, List.mem_of_getElem? (i := 283) (by decide +kernel), List.mem_of_getElem? (i := 1356) (by decide +kernel), List.mem_of_getElem? (i := 1357) (by decide +kernel)⟩
theorem lw_p158 : lw_okq (⟨"FilterForge$Translator", "turnJump", "(JI)V"⟩, 5) := ⟨⟨by decide +kernel, by decide +kernel⟩, List.mem_of_getElem? (i := 283) (by decide +kernel), List.mem_of_getElem? (i := 1361) (by decide +kernel), List.mem_of_getElem? (i := 1362) (by decide +kernel)⟩
theorem lw_p159 : lw_okq (⟨"FilterForge$Translator", "putPassing", "(III)V"⟩, 5) := ⟨⟨by decide +kernel, by decide +kernel⟩, List.mem_of_getElem? (i := 283) (by decide +kernel), List.mem_of_getElem? (i := 1365) (by decide +kernel), List.mem_of_getElem? (i := 1366) (by decide +kernel)⟩
def lw_privs_10 : List (MethodName × Nat) := [(⟨"FilterForge$Translator", "turn", "(LFilterForge$Program;)I"⟩, 5), (⟨"FilterForge$Translator", "turnAll", "()V"⟩, 5), (⟨"FilterForge$Translator", "turnOne", "(I)V"⟩, 5), (⟨"FilterForge$Translator", "turnOp", "(J)V"⟩, 5), (⟨"FilterForge$Translator", "putNumber", "(II)V"⟩, 5), (⟨"FilterForge$Translator", "put", "(I)V"⟩, 5), (⟨"FilterForge$Translator", "putAdd", "(III)V"⟩, 5), (⟨"FilterForge$Translator", "putOp", "(IIIIII)V"⟩, 5), (⟨"FilterForge$Translator", "putSide", "(J)I"⟩, 5), (⟨"FilterForge$Translator", "turnDivision", "(ZII)V"⟩, 5), (⟨"FilterForge$Translator", "putImm", "(IIIII)V"⟩, 5), (⟨"FilterForge$Translator", "putBranch", "(IIII)V"⟩, 5), (⟨"FilterForge$Translator", "putGoing", "(I)V"⟩, 5), (⟨"FilterForge$Translator", "putCut", "(I)V"⟩, 5), (⟨"FilterForge$Translator", "turnJump", "(JI)V"⟩, 5), (⟨"FilterForge$Translator", "putPassing", "(III)V"⟩, 5)]
theorem lw_r10 : ∀ q ∈ lw_privs_10, lw_okq q := List.forall_mem_cons.mpr ⟨lw_p144, List.forall_mem_cons.mpr ⟨lw_p145, List.forall_mem_cons.mpr ⟨lw_p146, List.forall_mem_cons.mpr ⟨lw_p147, List.forall_mem_cons.mpr ⟨lw_p148, List.forall_mem_cons.mpr ⟨lw_p149, List.forall_mem_cons.mpr ⟨lw_p150, List.forall_mem_cons.mpr ⟨lw_p151, List.forall_mem_cons.mpr ⟨lw_p152, List.forall_mem_cons.mpr ⟨lw_p153, List.forall_mem_cons.mpr ⟨lw_p154, List.forall_mem_cons.mpr ⟨lw_p155, List.forall_mem_cons.mpr ⟨lw_p156, List.forall_mem_cons.mpr ⟨lw_p157, List.forall_mem_cons.mpr ⟨lw_p158, List.forall_mem_cons.mpr ⟨lw_p159, fun _ h => absurd h List.not_mem_nil⟩⟩⟩⟩⟩⟩⟩⟩⟩⟩⟩⟩⟩⟩⟩⟩
theorem lw_p160 : lw_okq (⟨"FilterForge$Translator", "turnRead", "(J)V"⟩, 5) := ⟨⟨by decide +kernel, by decide +kernel⟩, List.mem_of_getElem? (i := 283) (by decide +kernel), List.mem_of_getElem? (i := 1371) (by decide +kernel), List.mem_of_getElem? (i := 1372) (by decide +kernel)⟩
theorem lw_p161 : lw_okq (⟨"FilterForge$Translator", "turnMemory", "(J)V"⟩, 5) := ⟨⟨by decide +kernel, by decide +kernel⟩, List.mem_of_getElem? (i := 283) (by decide +kernel), List.mem_of_getElem? (i := 1376) (by decide +kernel), List.mem_of_getElem? (i := 1377) (by decide +kernel)⟩
theorem lw_p162 : lw_okq (⟨"FilterForge$Translator", "putStore", "(III)V"⟩, 5) := ⟨⟨by decide +kernel, by decide +kernel⟩, List.mem_of_getElem? (i := 283) (by decide +kernel), List.mem_of_getElem? (i := 1381) (by decide +kernel), List.mem_of_getElem? (i := 1382) (by decide +kernel)⟩
theorem lw_p163 : lw_okq (⟨"FilterForge$ObjectCode", "takeTape", "(LFilterForge$Tape;)I"⟩, 2) := ⟨⟨by decide +kernel, by decide +kernel⟩, List.mem_of_getElem? (i := 125) (by decide +kernel), List.mem_of_getElem? (i := 1389) (by decide +kernel), List.mem_of_getElem? (i := 1390) (by decide +kernel)⟩
theorem lw_p164 : lw_okq (⟨"FilterForge$ObjectCode", "at", "(I)I"⟩, 2) := ⟨⟨by decide +kernel, by decide +kernel⟩, List.mem_of_getElem? (i := 125) (by decide +kernel), List.mem_of_getElem? (i := 1398) (by decide +kernel), List.mem_of_getElem? (i := 1399) (by decide +kernel)⟩
theorem lw_p165 : lw_okq (⟨"FilterForge$ObjectCode", "perform", "(LFilterForge$Machine;II)J"⟩, 2) := ⟨⟨by decide +kernel, by decide +kernel⟩, List.mem_of_getElem? (i := 125) (by decide +kernel), List.mem_of_getElem? (i := 1406) (by decide +kernel), List.mem_of_getElem? (i := 1407) (by decide +kernel)⟩
theorem lw_p166 : lw_okq (⟨"FilterForge$ObjectCode", "step", "(LFilterForge$Machine;)V"⟩, 2) := ⟨⟨by decide +kernel, by decide +kernel⟩, List.mem_of_getElem? (i := 125) (by decide +kernel), List.mem_of_getElem? (i := 1416) (by decide +kernel), List.mem_of_getElem? (i := 1417) (by decide +kernel)⟩
theorem lw_p167 : lw_okq (⟨"FilterForge$Filter", "says", "(LFilterForge$Packets;I)Z"⟩, 18) := ⟨⟨by decide +kernel, by decide +kernel⟩, List.mem_of_getElem? (i := 142) (by decide +kernel), List.mem_of_getElem? (i := 1501) (by decide +kernel), List.mem_of_getElem? (i := 1502) (by decide +kernel)⟩
theorem lw_p168 : lw_okq (⟨"FilterForge$Filter", "value", "(IILFilterForge$Packets;I)J"⟩, 18) := ⟨⟨by decide +kernel, by decide +kernel⟩, List.mem_of_getElem? (i := 142) (by decide +kernel), List.mem_of_getElem? (i := 1505) (by decide +kernel), List.mem_of_getElem? (i := 1506) (by decide +kernel)⟩
theorem lw_p169 : lw_okq (⟨"FilterForgeModel", "feedOne", "(I)V"⟩, 78) := ⟨⟨by decide +kernel, by decide +kernel⟩, List.mem_of_getElem? (i := 1528) (by decide +kernel), List.mem_of_getElem? (i := 1779) (by decide +kernel), List.mem_of_getElem? (i := 1780) (by decide +kernel)⟩
theorem lw_p170 : lw_okq (⟨"FilterForgeModel", "isPacket", "(I)Z"⟩, 78) := ⟨⟨by decide +kernel, by decide +kernel⟩, List.mem_of_getElem? (i := 1528) (by decide +kernel), List.mem_of_getElem? (i := 1795) (by decide +kernel), List.mem_of_getElem? (i := 1796) (by decide +kernel)⟩
theorem lw_p171 : lw_okq (⟨"FilterForgeModel", "isMatch", "(I)Z"⟩, 78) := ⟨⟨by decide +kernel, by decide +kernel⟩, List.mem_of_getElem? (i := 1528) (by decide +kernel), List.mem_of_getElem? (i := 1804) (by decide +kernel), List.mem_of_getElem? (i := 1805) (by decide +kernel)⟩
theorem lw_p172 : lw_okq (⟨"FilterForgeModel", "sumOf", "(LFilterForgeModel$Sum;I)J"⟩, 78) := ⟨⟨by decide +kernel, by decide +kernel⟩, List.mem_of_getElem? (i := 1528) (by decide +kernel), List.mem_of_getElem? (i := 1809) (by decide +kernel), List.mem_of_getElem? (i := 1810) (by decide +kernel)⟩
theorem lw_p173 : lw_okq (⟨"FilterForgeModel", "leftmost", "(LFilterForgeModel$Sum;)LFilterForgeModel$Sum;"⟩, 78) := ⟨⟨by decide +kernel, by decide +kernel⟩, List.mem_of_getElem? (i := 1528) (by decide +kernel), List.mem_of_getElem? (i := 1813) (by decide +kernel), List.mem_of_getElem? (i := 1814) (by decide +kernel)⟩
theorem lw_p174 : lw_okq (⟨"FilterForgeModel", "atomOf", "(LFilterForgeModel$Sum;I)J"⟩, 78) := ⟨⟨by decide +kernel, by decide +kernel⟩, List.mem_of_getElem? (i := 1528) (by decide +kernel), List.mem_of_getElem? (i := 1817) (by decide +kernel), List.mem_of_getElem? (i := 1818) (by decide +kernel)⟩
theorem lw_p175 : lw_okq (⟨"FilterForgeModel", "headerOf", "(I)J"⟩, 78) := ⟨⟨by decide +kernel, by decide +kernel⟩, List.mem_of_getElem? (i := 1528) (by decide +kernel), List.mem_of_getElem? (i := 1822) (by decide +kernel), List.mem_of_getElem? (i := 1823) (by decide +kernel)⟩
def lw_privs_11 : List (MethodName × Nat) := [(⟨"FilterForge$Translator", "turnRead", "(J)V"⟩, 5), (⟨"FilterForge$Translator", "turnMemory", "(J)V"⟩, 5), (⟨"FilterForge$Translator", "putStore", "(III)V"⟩, 5), (⟨"FilterForge$ObjectCode", "takeTape", "(LFilterForge$Tape;)I"⟩, 2), (⟨"FilterForge$ObjectCode", "at", "(I)I"⟩, 2), (⟨"FilterForge$ObjectCode", "perform", "(LFilterForge$Machine;II)J"⟩, 2), (⟨"FilterForge$ObjectCode", "step", "(LFilterForge$Machine;)V"⟩, 2), (⟨"FilterForge$Filter", "says", "(LFilterForge$Packets;I)Z"⟩, 18), (⟨"FilterForge$Filter", "value", "(IILFilterForge$Packets;I)J"⟩, 18), (⟨"FilterForgeModel", "feedOne", "(I)V"⟩, 78), (⟨"FilterForgeModel", "isPacket", "(I)Z"⟩, 78), (⟨"FilterForgeModel", "isMatch", "(I)Z"⟩, 78), (⟨"FilterForgeModel", "sumOf", "(LFilterForgeModel$Sum;I)J"⟩, 78), (⟨"FilterForgeModel", "leftmost", "(LFilterForgeModel$Sum;)LFilterForgeModel$Sum;"⟩, 78), (⟨"FilterForgeModel", "atomOf", "(LFilterForgeModel$Sum;I)J"⟩, 78), (⟨"FilterForgeModel", "headerOf", "(I)J"⟩, 78)]
theorem lw_r11 : ∀ q ∈ lw_privs_11, lw_okq q := List.forall_mem_cons.mpr ⟨lw_p160, List.forall_mem_cons.mpr ⟨lw_p161, List.forall_mem_cons.mpr ⟨lw_p162, List.forall_mem_cons.mpr ⟨lw_p163, List.forall_mem_cons.mpr ⟨lw_p164, List.forall_mem_cons.mpr ⟨lw_p165, List.forall_mem_cons.mpr ⟨lw_p166, List.forall_mem_cons.mpr ⟨lw_p167, List.forall_mem_cons.mpr ⟨lw_p168, List.forall_mem_cons.mpr ⟨lw_p169, List.forall_mem_cons.mpr ⟨lw_p170, List.forall_mem_cons.mpr ⟨lw_p171, List.forall_mem_cons.mpr ⟨lw_p172, List.forall_mem_cons.mpr ⟨lw_p173, List.forall_mem_cons.mpr ⟨lw_p174, List.forall_mem_cons.mpr ⟨lw_p175, fun _ h => absurd h List.not_mem_nil⟩⟩⟩⟩⟩⟩⟩⟩⟩⟩⟩⟩⟩⟩⟩⟩
theorem lw_p176 : lw_okq (⟨"FilterForgeModel", "readOrNever", "(IJI)J"⟩, 78) := ⟨⟨by decide +kernel, by decide +kernel⟩, List.mem_of_getElem? (i := 1528) (by decide +kernel), List.mem_of_getElem? (i := 1828) (by decide +kernel), List.mem_of_getElem? (i := 1829) (by decide +kernel)⟩
theorem lw_p177 : lw_okq (⟨"FilterForgeModel", "readAt", "(IJI)J"⟩, 78) := ⟨⟨by decide +kernel, by decide +kernel⟩, List.mem_of_getElem? (i := 1528) (by decide +kernel), List.mem_of_getElem? (i := 1832) (by decide +kernel), List.mem_of_getElem? (i := 1833) (by decide +kernel)⟩
theorem lw_p178 : lw_okq (⟨"java/lang/Throwable", "fillInStackTrace", "(I)Ljava/lang/Throwable;"⟩, 6) := ⟨⟨by decide +kernel, by decide +kernel⟩, List.mem_of_getElem? (i := 1872) (by decide +kernel), List.mem_of_getElem? (i := 1870) (by decide +kernel), List.mem_of_getElem? (i := 1871) (by decide +kernel)⟩
theorem lw_p179 : lw_okq (⟨"FilterForgeModel", "next", "()V"⟩, 78) := ⟨⟨by decide +kernel, by decide +kernel⟩, List.mem_of_getElem? (i := 1528) (by decide +kernel), List.mem_of_getElem? (i := 1910) (by decide +kernel), List.mem_of_getElem? (i := 1911) (by decide +kernel)⟩
theorem lw_p180 : lw_okq (⟨"FilterForgeModel", "isOfWord", "(I)Z"⟩, 78) := ⟨⟨by decide +kernel, by decide +kernel⟩, List.mem_of_getElem? (i := 1528) (by decide +kernel), List.mem_of_getElem? (i := 1914) (by decide +kernel), List.mem_of_getElem? (i := 1915) (by decide +kernel)⟩
theorem lw_p181 : lw_okq (⟨"FilterForgeModel", "at", "(I)I"⟩, 78) := ⟨⟨by decide +kernel, by decide +kernel⟩, List.mem_of_getElem? (i := 1528) (by decide +kernel), List.mem_of_getElem? (i := 1918) (by decide +kernel), List.mem_of_getElem? (i := 1919) (by decide +kernel)⟩
theorem lw_p182 : lw_okq (⟨"FilterForgeModel", "must", "(Z)V"⟩, 78) := ⟨⟨by decide +kernel, by decide +kernel⟩, List.mem_of_getElem? (i := 1528) (by decide +kernel), List.mem_of_getElem? (i := 1925) (by decide +kernel), List.mem_of_getElem? (i := 1926) (by decide +kernel)⟩
theorem lw_p183 : lw_okq (⟨"FilterForgeModel", "readFilter", "()LFilterForgeModel$Filter;"⟩, 78) := ⟨⟨by decide +kernel, by decide +kernel⟩, List.mem_of_getElem? (i := 1528) (by decide +kernel), List.mem_of_getElem? (i := 1947) (by decide +kernel), List.mem_of_getElem? (i := 1948) (by decide +kernel)⟩
theorem lw_p184 : lw_okq (⟨"FilterForgeModel", "readAll", "()LFilterForgeModel$Filter;"⟩, 78) := ⟨⟨by decide +kernel, by decide +kernel⟩, List.mem_of_getElem? (i := 1528) (by decide +kernel), List.mem_of_getElem? (i := 1951) (by decide +kernel), List.mem_of_getElem? (i := 1952) (by decide +kernel)⟩
theorem lw_p185 : lw_okq (⟨"FilterForgeModel", "readOne", "()LFilterForgeModel$Filter;"⟩, 78) := ⟨⟨by decide +kernel, by decide +kernel⟩, List.mem_of_getElem? (i := 1528) (by decide +kernel), List.mem_of_getElem? (i := 1955) (by decide +kernel), List.mem_of_getElem? (i := 1956) (by decide +kernel)⟩
theorem lw_p186 : lw_okq (⟨"FilterForgeModel", "is", "(Ljava/lang/String;)Z"⟩, 78) := ⟨⟨by decide +kernel, by decide +kernel⟩, List.mem_of_getElem? (i := 1528) (by decide +kernel), List.mem_of_getElem? (i := 1960) (by decide +kernel), List.mem_of_getElem? (i := 1961) (by decide +kernel)⟩
theorem lw_p187 : lw_okq (⟨"FilterForgeModel", "opensFilter", "()V"⟩, 78) := ⟨⟨by decide +kernel, by decide +kernel⟩, List.mem_of_getElem? (i := 1528) (by decide +kernel), List.mem_of_getElem? (i := 1966) (by decide +kernel), List.mem_of_getElem? (i := 1967) (by decide +kernel)⟩
theorem lw_p188 : lw_okq (⟨"FilterForgeModel", "want", "(Ljava/lang/String;)V"⟩, 78) := ⟨⟨by decide +kernel, by decide +kernel⟩, List.mem_of_getElem? (i := 1528) (by decide +kernel), List.mem_of_getElem? (i := 2005) (by decide +kernel), List.mem_of_getElem? (i := 2006) (by decide +kernel)⟩
theorem lw_p189 : lw_okq (⟨"FilterForgeModel", "accessOf", "()I"⟩, 78) := ⟨⟨by decide +kernel, by decide +kernel⟩, List.mem_of_getElem? (i := 1528) (by decide +kernel), List.mem_of_getElem? (i := 2009) (by decide +kernel), List.mem_of_getElem? (i := 2010) (by decide +kernel)⟩
theorem lw_p190 : lw_okq (⟨"FilterForgeModel", "readAccessed", "(I)LFilterForgeModel$Filter;"⟩, 78) := ⟨⟨by decide +kernel, by decide +kernel⟩, List.mem_of_getElem? (i := 1528) (by decide +kernel), List.mem_of_getElem? (i := 2020) (by decide +kernel), List.mem_of_getElem? (i := 2021) (by decide +kernel)⟩
theorem lw_p191 : lw_okq (⟨"FilterForgeModel", "readRelation", "()LFilterForgeModel$Filter;"⟩, 78) := ⟨⟨by decide +kernel, by decide +kernel⟩, List.mem_of_getElem? (i := 1528) (by decide +kernel), List.mem_of_getElem? (i := 2025) (by decide +kernel), List.mem_of_getElem? (i := 2026) (by decide +kernel)⟩
def lw_privs_12 : List (MethodName × Nat) := [(⟨"FilterForgeModel", "readOrNever", "(IJI)J"⟩, 78), (⟨"FilterForgeModel", "readAt", "(IJI)J"⟩, 78), (⟨"java/lang/Throwable", "fillInStackTrace", "(I)Ljava/lang/Throwable;"⟩, 6), (⟨"FilterForgeModel", "next", "()V"⟩, 78), (⟨"FilterForgeModel", "isOfWord", "(I)Z"⟩, 78), (⟨"FilterForgeModel", "at", "(I)I"⟩, 78), (⟨"FilterForgeModel", "must", "(Z)V"⟩, 78), (⟨"FilterForgeModel", "readFilter", "()LFilterForgeModel$Filter;"⟩, 78), (⟨"FilterForgeModel", "readAll", "()LFilterForgeModel$Filter;"⟩, 78), (⟨"FilterForgeModel", "readOne", "()LFilterForgeModel$Filter;"⟩, 78), (⟨"FilterForgeModel", "is", "(Ljava/lang/String;)Z"⟩, 78), (⟨"FilterForgeModel", "opensFilter", "()V"⟩, 78), (⟨"FilterForgeModel", "want", "(Ljava/lang/String;)V"⟩, 78), (⟨"FilterForgeModel", "accessOf", "()I"⟩, 78), (⟨"FilterForgeModel", "readAccessed", "(I)LFilterForgeModel$Filter;"⟩, 78), (⟨"FilterForgeModel", "readRelation", "()LFilterForgeModel$Filter;"⟩, 78)]
theorem lw_r12 : ∀ q ∈ lw_privs_12, lw_okq q := List.forall_mem_cons.mpr ⟨lw_p176, List.forall_mem_cons.mpr ⟨lw_p177, List.forall_mem_cons.mpr ⟨lw_p178, List.forall_mem_cons.mpr ⟨lw_p179, List.forall_mem_cons.mpr ⟨lw_p180, List.forall_mem_cons.mpr ⟨lw_p181, List.forall_mem_cons.mpr ⟨lw_p182, List.forall_mem_cons.mpr ⟨lw_p183, List.forall_mem_cons.mpr ⟨lw_p184, List.forall_mem_cons.mpr ⟨lw_p185, List.forall_mem_cons.mpr ⟨lw_p186, List.forall_mem_cons.mpr ⟨lw_p187, List.forall_mem_cons.mpr ⟨lw_p188, List.forall_mem_cons.mpr ⟨lw_p189, List.forall_mem_cons.mpr ⟨lw_p190, List.forall_mem_cons.mpr ⟨lw_p191, fun _ h => absurd h List.not_mem_nil⟩⟩⟩⟩⟩⟩⟩⟩⟩⟩⟩⟩⟩⟩⟩⟩
theorem lw_p192 : lw_okq (⟨"FilterForgeModel", "readSum", "()LFilterForgeModel$Sum;"⟩, 78) := ⟨⟨by decide +kernel, by decide +kernel⟩, List.mem_of_getElem? (i := 1528) (by decide +kernel), List.mem_of_getElem? (i := 2029) (by decide +kernel), List.mem_of_getElem? (i := 2030) (by decide +kernel)⟩
theorem lw_p193 : lw_okq (⟨"FilterForgeModel", "readProduct", "()LFilterForgeModel$Sum;"⟩, 78) := ⟨⟨by decide +kernel, by decide +kernel⟩, List.mem_of_getElem? (i := 1528) (by decide +kernel), List.mem_of_getElem? (i := 2033) (by decide +kernel), List.mem_of_getElem? (i := 2034) (by decide +kernel)⟩
theorem lw_p194 : lw_okq (⟨"FilterForgeModel", "readAtom", "(I)LFilterForgeModel$Sum;"⟩, 78) := ⟨⟨by decide +kernel, by decide +kernel⟩, List.mem_of_getElem? (i := 1528) (by decide +kernel), List.mem_of_getElem? (i := 2037) (by decide +kernel), List.mem_of_getElem? (i := 2038) (by decide +kernel)⟩
theorem lw_p195 : lw_okq (⟨"FilterForgeModel", "opensSum", "()V"⟩, 78) := ⟨⟨by decide +kernel, by decide +kernel⟩, List.mem_of_getElem? (i := 1528) (by decide +kernel), List.mem_of_getElem? (i := 2069) (by decide +kernel), List.mem_of_getElem? (i := 2070) (by decide +kernel)⟩
theorem lw_p196 : lw_okq (⟨"FilterForgeModel", "wantNumber", "(JJ)J"⟩, 78) := ⟨⟨by decide +kernel, by decide +kernel⟩, List.mem_of_getElem? (i := 1528) (by decide +kernel), List.mem_of_getElem? (i := 2075) (by decide +kernel), List.mem_of_getElem? (i := 2076) (by decide +kernel)⟩
theorem lw_p197 : lw_okq (⟨"FilterForgeModel", "number", "()J"⟩, 78) := ⟨⟨by decide +kernel, by decide +kernel⟩, List.mem_of_getElem? (i := 1528) (by decide +kernel), List.mem_of_getElem? (i := 2079) (by decide +kernel), List.mem_of_getElem? (i := 2080) (by decide +kernel)⟩
theorem lw_p198 : lw_okq (⟨"FilterForgeModel", "readAccess", "(I)LFilterForgeModel$Sum;"⟩, 78) := ⟨⟨by decide +kernel, by decide +kernel⟩, List.mem_of_getElem? (i := 1528) (by decide +kernel), List.mem_of_getElem? (i := 2092) (by decide +kernel), List.mem_of_getElem? (i := 2093) (by decide +kernel)⟩
theorem lw_p199 : lw_okq (⟨"FilterForgeModel", "productOp", "()I"⟩, 78) := ⟨⟨by decide +kernel, by decide +kernel⟩, List.mem_of_getElem? (i := 1528) (by decide +kernel), List.mem_of_getElem? (i := 2099) (by decide +kernel), List.mem_of_getElem? (i := 2100) (by decide +kernel)⟩
theorem lw_p200 : lw_okq (⟨"FilterForgeModel", "sumOp", "()I"⟩, 78) := ⟨⟨by decide +kernel, by decide +kernel⟩, List.mem_of_getElem? (i := 1528) (by decide +kernel), List.mem_of_getElem? (i := 2109) (by decide +kernel), List.mem_of_getElem? (i := 2110) (by decide +kernel)⟩
theorem lw_p201 : lw_okq (⟨"FilterForgeModel", "readAddressed", "(I)LFilterForgeModel$Filter;"⟩, 78) := ⟨⟨by decide +kernel, by decide +kernel⟩, List.mem_of_getElem? (i := 1528) (by decide +kernel), List.mem_of_getElem? (i := 2173) (by decide +kernel), List.mem_of_getElem? (i := 2174) (by decide +kernel)⟩
theorem lw_p202 : lw_okq (⟨"FilterForgeModel", "wantAddress", "()J"⟩, 78) := ⟨⟨by decide +kernel, by decide +kernel⟩, List.mem_of_getElem? (i := 1528) (by decide +kernel), List.mem_of_getElem? (i := 2177) (by decide +kernel), List.mem_of_getElem? (i := 2178) (by decide +kernel)⟩
theorem lw_p203 : lw_okq (⟨"FilterForgeModel", "number", "(LFilterForgeModel$Filter;)V"⟩, 78) := ⟨⟨by decide +kernel, by decide +kernel⟩, List.mem_of_getElem? (i := 1528) (by decide +kernel), List.mem_of_getElem? (i := 2209) (by decide +kernel), List.mem_of_getElem? (i := 2210) (by decide +kernel)⟩
theorem lw_p204 : lw_okq (⟨"FilterForgeModel", "push", "(LFilterForgeModel$Filter;II)V"⟩, 78) := ⟨⟨by decide +kernel, by decide +kernel⟩, List.mem_of_getElem? (i := 1528) (by decide +kernel), List.mem_of_getElem? (i := 2213) (by decide +kernel), List.mem_of_getElem? (i := 2214) (by decide +kernel)⟩
theorem lw_p205 : lw_okq (⟨"FilterForgeModel", "addTest", "(LFilterForgeModel$Filter;)V"⟩, 78) := ⟨⟨by decide +kernel, by decide +kernel⟩, List.mem_of_getElem? (i := 1528) (by decide +kernel), List.mem_of_getElem? (i := 2217) (by decide +kernel), List.mem_of_getElem? (i := 2218) (by decide +kernel)⟩
theorem lw_p206 : lw_okq (⟨"FilterForgeModel", "wire", "(LFilterForgeModel$Filter;)V"⟩, 78) := ⟨⟨by decide +kernel, by decide +kernel⟩, List.mem_of_getElem? (i := 1528) (by decide +kernel), List.mem_of_getElem? (i := 2221) (by decide +kernel), List.mem_of_getElem? (i := 2222) (by decide +kernel)⟩
theorem lw_p207 : lw_okq (⟨"FilterForgeModel", "make", "()I"⟩, 78) := ⟨⟨by decide +kernel, by decide +kernel⟩, List.mem_of_getElem? (i := 1528) (by decide +kernel), List.mem_of_getElem? (i := 2225) (by decide +kernel), List.mem_of_getElem? (i := 2226) (by decide +kernel)⟩
def lw_privs_13 : List (MethodName × Nat) := [(⟨"FilterForgeModel", "readSum", "()LFilterForgeModel$Sum;"⟩, 78), (⟨"FilterForgeModel", "readProduct", "()LFilterForgeModel$Sum;"⟩, 78), (⟨"FilterForgeModel", "readAtom", "(I)LFilterForgeModel$Sum;"⟩, 78), (⟨"FilterForgeModel", "opensSum", "()V"⟩, 78), (⟨"FilterForgeModel", "wantNumber", "(JJ)J"⟩, 78), (⟨"FilterForgeModel", "number", "()J"⟩, 78), (⟨"FilterForgeModel", "readAccess", "(I)LFilterForgeModel$Sum;"⟩, 78), (⟨"FilterForgeModel", "productOp", "()I"⟩, 78), (⟨"FilterForgeModel", "sumOp", "()I"⟩, 78), (⟨"FilterForgeModel", "readAddressed", "(I)LFilterForgeModel$Filter;"⟩, 78), (⟨"FilterForgeModel", "wantAddress", "()J"⟩, 78), (⟨"FilterForgeModel", "number", "(LFilterForgeModel$Filter;)V"⟩, 78), (⟨"FilterForgeModel", "push", "(LFilterForgeModel$Filter;II)V"⟩, 78), (⟨"FilterForgeModel", "addTest", "(LFilterForgeModel$Filter;)V"⟩, 78), (⟨"FilterForgeModel", "wire", "(LFilterForgeModel$Filter;)V"⟩, 78), (⟨"FilterForgeModel", "make", "()I"⟩, 78)]
theorem lw_r13 : ∀ q ∈ lw_privs_13, lw_okq q := List.forall_mem_cons.mpr ⟨lw_p192, List.forall_mem_cons.mpr ⟨lw_p193, List.forall_mem_cons.mpr ⟨lw_p194, List.forall_mem_cons.mpr ⟨lw_p195, List.forall_mem_cons.mpr ⟨lw_p196, List.forall_mem_cons.mpr ⟨lw_p197, List.forall_mem_cons.mpr ⟨lw_p198, List.forall_mem_cons.mpr ⟨lw_p199, List.forall_mem_cons.mpr ⟨lw_p200, List.forall_mem_cons.mpr ⟨lw_p201, List.forall_mem_cons.mpr ⟨lw_p202, List.forall_mem_cons.mpr ⟨lw_p203, List.forall_mem_cons.mpr ⟨lw_p204, List.forall_mem_cons.mpr ⟨lw_p205, List.forall_mem_cons.mpr ⟨lw_p206, List.forall_mem_cons.mpr ⟨lw_p207, fun _ h => absurd h List.not_mem_nil⟩⟩⟩⟩⟩⟩⟩⟩⟩⟩⟩⟩⟩⟩⟩⟩
theorem lw_p208 : lw_okq (⟨"FilterForgeModel", "decide", "([I[I)V"⟩, 78) := ⟨⟨by decide +kernel, by decide +kernel⟩, List.mem_of_getElem? (i := 1528) (by decide +kernel), List.mem_of_getElem? (i := 2229) (by decide +kernel), List.mem_of_getElem? (i := 2230) (by decide +kernel)⟩
theorem lw_p209 : lw_okq (⟨"FilterForgeModel", "decided", "(IIZ[I[I)I"⟩, 78) := ⟨⟨by decide +kernel, by decide +kernel⟩, List.mem_of_getElem? (i := 1528) (by decide +kernel), List.mem_of_getElem? (i := 2233) (by decide +kernel), List.mem_of_getElem? (i := 2234) (by decide +kernel)⟩
theorem lw_p210 : lw_okq (⟨"FilterForgeModel", "reached", "([I[I)[Z"⟩, 78) := ⟨⟨by decide +kernel, by decide +kernel⟩, List.mem_of_getElem? (i := 1528) (by decide +kernel), List.mem_of_getElem? (i := 2244) (by decide +kernel), List.mem_of_getElem? (i := 2245) (by decide +kernel)⟩
theorem lw_p211 : lw_okq (⟨"FilterForgeModel", "emit", "(IIIIJ)V"⟩, 78) := ⟨⟨by decide +kernel, by decide +kernel⟩, List.mem_of_getElem? (i := 1528) (by decide +kernel), List.mem_of_getElem? (i := 2248) (by decide +kernel), List.mem_of_getElem? (i := 2249) (by decide +kernel)⟩
theorem lw_p212 : lw_okq (⟨"FilterForgeModel", "makeTest", "(LFilterForgeModel$Filter;III)V"⟩, 78) := ⟨⟨by decide +kernel, by decide +kernel⟩, List.mem_of_getElem? (i := 1528) (by decide +kernel), List.mem_of_getElem? (i := 2252) (by decide +kernel), List.mem_of_getElem? (i := 2253) (by decide +kernel)⟩
theorem lw_p213 : lw_okq (⟨"FilterForgeModel", "makeSum", "(LFilterForgeModel$Sum;I)V"⟩, 78) := ⟨⟨by decide +kernel, by decide +kernel⟩, List.mem_of_getElem? (i := 1528) (by decide +kernel), List.mem_of_getElem? (i := 2256) (by decide +kernel), List.mem_of_getElem? (i := 2257) (by decide +kernel)⟩
theorem lw_p214 : lw_okq (⟨"FilterForgeModel", "makeAtom", "(LFilterForgeModel$Sum;I)V"⟩, 78) := ⟨⟨by decide +kernel, by decide +kernel⟩, List.mem_of_getElem? (i := 1528) (by decide +kernel), List.mem_of_getElem? (i := 2260) (by decide +kernel), List.mem_of_getElem? (i := 2261) (by decide +kernel)⟩
theorem lw_p215 : lw_okq (⟨"FilterForgeModel", "makeAccess", "(LFilterForgeModel$Sum;I)V"⟩, 78) := ⟨⟨by decide +kernel, by decide +kernel⟩, List.mem_of_getElem? (i := 1528) (by decide +kernel), List.mem_of_getElem? (i := 2264) (by decide +kernel), List.mem_of_getElem? (i := 2265) (by decide +kernel)⟩
theorem lw_p216 : lw_okq (⟨"FilterForgeModel", "makeHeader", "()V"⟩, 78) := ⟨⟨by decide +kernel, by decide +kernel⟩, List.mem_of_getElem? (i := 1528) (by decide +kernel), List.mem_of_getElem? (i := 2268) (by decide +kernel), List.mem_of_getElem? (i := 2269) (by decide +kernel)⟩
theorem lw_p217 : lw_okq (⟨"FilterForgeModel", "keep", "(I)V"⟩, 78) := ⟨⟨by decide +kernel, by decide +kernel⟩, List.mem_of_getElem? (i := 1528) (by decide +kernel), List.mem_of_getElem? (i := 2275) (by decide +kernel), List.mem_of_getElem? (i := 2276) (by decide +kernel)⟩
theorem lw_p218 : lw_okq (⟨"FilterForgeModel", "makeJoined", "(LFilterForgeModel$Sum;I)V"⟩, 78) := ⟨⟨by decide +kernel, by decide +kernel⟩, List.mem_of_getElem? (i := 1528) (by decide +kernel), List.mem_of_getElem? (i := 2282) (by decide +kernel), List.mem_of_getElem? (i := 2283) (by decide +kernel)⟩
theorem lw_p219 : lw_okq (⟨"FilterForgeModel", "toNo", "()V"⟩, 78) := ⟨⟨by decide +kernel, by decide +kernel⟩, List.mem_of_getElem? (i := 1528) (by decide +kernel), List.mem_of_getElem? (i := 2286) (by decide +kernel), List.mem_of_getElem? (i := 2287) (by decide +kernel)⟩
theorem lw_p220 : lw_okq (⟨"FilterForgeModel", "goesTo", "(I)V"⟩, 78) := ⟨⟨by decide +kernel, by decide +kernel⟩, List.mem_of_getElem? (i := 1528) (by decide +kernel), List.mem_of_getElem? (i := 2290) (by decide +kernel), List.mem_of_getElem? (i := 2291) (by decide +kernel)⟩
theorem lw_p221 : lw_okq (⟨"FilterForgeModel", "takeProgram", "(I)V"⟩, 78) := ⟨⟨by decide +kernel, by decide +kernel⟩, List.mem_of_getElem? (i := 1528) (by decide +kernel), List.mem_of_getElem? (i := 2297) (by decide +kernel), List.mem_of_getElem? (i := 2298) (by decide +kernel)⟩
theorem lw_p222 : lw_okq (⟨"FilterForgeModel", "begins", "()V"⟩, 78) := ⟨⟨by decide +kernel, by decide +kernel⟩, List.mem_of_getElem? (i := 1528) (by decide +kernel), List.mem_of_getElem? (i := 2313) (by decide +kernel), List.mem_of_getElem? (i := 2314) (by decide +kernel)⟩
theorem lw_p223 : lw_okq (⟨"FilterForgeModel", "does", "(JI)I"⟩, 78) := ⟨⟨by decide +kernel, by decide +kernel⟩, List.mem_of_getElem? (i := 1528) (by decide +kernel), List.mem_of_getElem? (i := 2348) (by decide +kernel), List.mem_of_getElem? (i := 2349) (by decide +kernel)⟩
def lw_privs_14 : List (MethodName × Nat) := [(⟨"FilterForgeModel", "decide", "([I[I)V"⟩, 78), (⟨"FilterForgeModel", "decided", "(IIZ[I[I)I"⟩, 78), (⟨"FilterForgeModel", "reached", "([I[I)[Z"⟩, 78), (⟨"FilterForgeModel", "emit", "(IIIIJ)V"⟩, 78), (⟨"FilterForgeModel", "makeTest", "(LFilterForgeModel$Filter;III)V"⟩, 78), (⟨"FilterForgeModel", "makeSum", "(LFilterForgeModel$Sum;I)V"⟩, 78), (⟨"FilterForgeModel", "makeAtom", "(LFilterForgeModel$Sum;I)V"⟩, 78), (⟨"FilterForgeModel", "makeAccess", "(LFilterForgeModel$Sum;I)V"⟩, 78), (⟨"FilterForgeModel", "makeHeader", "()V"⟩, 78), (⟨"FilterForgeModel", "keep", "(I)V"⟩, 78), (⟨"FilterForgeModel", "makeJoined", "(LFilterForgeModel$Sum;I)V"⟩, 78), (⟨"FilterForgeModel", "toNo", "()V"⟩, 78), (⟨"FilterForgeModel", "goesTo", "(I)V"⟩, 78), (⟨"FilterForgeModel", "takeProgram", "(I)V"⟩, 78), (⟨"FilterForgeModel", "begins", "()V"⟩, 78), (⟨"FilterForgeModel", "does", "(JI)I"⟩, 78)]
theorem lw_r14 : ∀ q ∈ lw_privs_14, lw_okq q := List.forall_mem_cons.mpr ⟨lw_p208, List.forall_mem_cons.mpr ⟨lw_p209, List.forall_mem_cons.mpr ⟨lw_p210, List.forall_mem_cons.mpr ⟨lw_p211, List.forall_mem_cons.mpr ⟨lw_p212, List.forall_mem_cons.mpr ⟨lw_p213, List.forall_mem_cons.mpr ⟨lw_p214, List.forall_mem_cons.mpr ⟨lw_p215, List.forall_mem_cons.mpr ⟨lw_p216, List.forall_mem_cons.mpr ⟨lw_p217, List.forall_mem_cons.mpr ⟨lw_p218, List.forall_mem_cons.mpr ⟨lw_p219, List.forall_mem_cons.mpr ⟨lw_p220, List.forall_mem_cons.mpr ⟨lw_p221, List.forall_mem_cons.mpr ⟨lw_p222, List.forall_mem_cons.mpr ⟨lw_p223, fun _ h => absurd h List.not_mem_nil⟩⟩⟩⟩⟩⟩⟩⟩⟩⟩⟩⟩⟩⟩⟩⟩
theorem lw_p224 : lw_okq (⟨"FilterForgeModel", "load", "(JI)J"⟩, 78) := ⟨⟨by decide +kernel, by decide +kernel⟩, List.mem_of_getElem? (i := 1528) (by decide +kernel), List.mem_of_getElem? (i := 2387) (by decide +kernel), List.mem_of_getElem? (i := 2388) (by decide +kernel)⟩
theorem lw_p225 : lw_okq (⟨"FilterForgeModel", "store", "(JIJ)V"⟩, 78) := ⟨⟨by decide +kernel, by decide +kernel⟩, List.mem_of_getElem? (i := 1528) (by decide +kernel), List.mem_of_getElem? (i := 2391) (by decide +kernel), List.mem_of_getElem? (i := 2392) (by decide +kernel)⟩
theorem lw_p226 : lw_okq (⟨"FilterForgeModel", "lookThrough", "()I"⟩, 78) := ⟨⟨by decide +kernel, by decide +kernel⟩, List.mem_of_getElem? (i := 1528) (by decide +kernel), List.mem_of_getElem? (i := 2414) (by decide +kernel), List.mem_of_getElem? (i := 2415) (by decide +kernel)⟩
theorem lw_p227 : lw_okq (⟨"FilterForgeModel", "room", "(I)V"⟩, 78) := ⟨⟨by decide +kernel, by decide +kernel⟩, List.mem_of_getElem? (i := 1528) (by decide +kernel), List.mem_of_getElem? (i := 2418) (by decide +kernel), List.mem_of_getElem? (i := 2419) (by decide +kernel)⟩
theorem lw_p228 : lw_okq (⟨"FilterForgeModel", "formOffence", "(I)I"⟩, 78) := ⟨⟨by decide +kernel, by decide +kernel⟩, List.mem_of_getElem? (i := 1528) (by decide +kernel), List.mem_of_getElem? (i := 2422) (by decide +kernel), List.mem_of_getElem? (i := 2423) (by decide +kernel)⟩
theorem lw_p229 : lw_okq (⟨"FilterForgeModel", "start", "()V"⟩, 78) := ⟨⟨by decide +kernel, by decide +kernel⟩, List.mem_of_getElem? (i := 1528) (by decide +kernel), List.mem_of_getElem? (i := 2426) (by decide +kernel), List.mem_of_getElem? (i := 2427) (by decide +kernel)⟩
theorem lw_p230 : lw_okq (⟨"FilterForgeModel", "put", "(II)V"⟩, 78) := ⟨⟨by decide +kernel, by decide +kernel⟩, List.mem_of_getElem? (i := 1528) (by decide +kernel), List.mem_of_getElem? (i := 2430) (by decide +kernel), List.mem_of_getElem? (i := 2431) (by decide +kernel)⟩
theorem lw_p231 : lw_okq (⟨"FilterForgeModel", "settle", "()V"⟩, 78) := ⟨⟨by decide +kernel, by decide +kernel⟩, List.mem_of_getElem? (i := 1528) (by decide +kernel), List.mem_of_getElem? (i := 2434) (by decide +kernel), List.mem_of_getElem? (i := 2435) (by decide +kernel)⟩
theorem lw_p232 : lw_okq (⟨"FilterForgeModel", "come", "(I[I[J[J[J[JJ)V"⟩, 78) := ⟨⟨by decide +kernel, by decide +kernel⟩, List.mem_of_getElem? (i := 1528) (by decide +kernel), List.mem_of_getElem? (i := 2438) (by decide +kernel), List.mem_of_getElem? (i := 2439) (by decide +kernel)⟩
theorem lw_p233 : lw_okq (⟨"FilterForgeModel", "offenceOf", "(J)I"⟩, 78) := ⟨⟨by decide +kernel, by decide +kernel⟩, List.mem_of_getElem? (i := 1528) (by decide +kernel), List.mem_of_getElem? (i := 2448) (by decide +kernel), List.mem_of_getElem? (i := 2449) (by decide +kernel)⟩
theorem lw_p234 : lw_okq (⟨"FilterForgeModel", "usesD", "(II)Z"⟩, 78) := ⟨⟨by decide +kernel, by decide +kernel⟩, List.mem_of_getElem? (i := 1528) (by decide +kernel), List.mem_of_getElem? (i := 2452) (by decide +kernel), List.mem_of_getElem? (i := 2453) (by decide +kernel)⟩
theorem lw_p235 : lw_okq (⟨"FilterForgeModel", "usesS", "(II)Z"⟩, 78) := ⟨⟨by decide +kernel, by decide +kernel⟩, List.mem_of_getElem? (i := 1528) (by decide +kernel), List.mem_of_getElem? (i := 2456) (by decide +kernel), List.mem_of_getElem? (i := 2457) (by decide +kernel)⟩
theorem lw_p236 : lw_okq (⟨"FilterForgeModel", "isMisplaced", "(IIII)Z"⟩, 78) := ⟨⟨by decide +kernel, by decide +kernel⟩, List.mem_of_getElem? (i := 1528) (by decide +kernel), List.mem_of_getElem? (i := 2460) (by decide +kernel), List.mem_of_getElem? (i := 2461) (by decide +kernel)⟩
theorem lw_p237 : lw_okq (⟨"FilterForgeModel", "isInStack", "(JIZ)Z"⟩, 78) := ⟨⟨by decide +kernel, by decide +kernel⟩, List.mem_of_getElem? (i := 1528) (by decide +kernel), List.mem_of_getElem? (i := 2464) (by decide +kernel), List.mem_of_getElem? (i := 2465) (by decide +kernel)⟩
theorem lw_p238 : lw_okq (⟨"FilterForgeModel", "hand", "(I)V"⟩, 78) := ⟨⟨by decide +kernel, by decide +kernel⟩, List.mem_of_getElem? (i := 1528) (by decide +kernel), List.mem_of_getElem? (i := 2468) (by decide +kernel), List.mem_of_getElem? (i := 2469) (by decide +kernel)⟩
theorem lw_p239 : lw_okq (⟨"FilterForgeModel", "yNumber", "(J)V"⟩, 78) := ⟨⟨by decide +kernel, by decide +kernel⟩, List.mem_of_getElem? (i := 1528) (by decide +kernel), List.mem_of_getElem? (i := 2472) (by decide +kernel), List.mem_of_getElem? (i := 2473) (by decide +kernel)⟩
def lw_privs_15 : List (MethodName × Nat) := [(⟨"FilterForgeModel", "load", "(JI)J"⟩, 78), (⟨"FilterForgeModel", "store", "(JIJ)V"⟩, 78), (⟨"FilterForgeModel", "lookThrough", "()I"⟩, 78), (⟨"FilterForgeModel", "room", "(I)V"⟩, 78), (⟨"FilterForgeModel", "formOffence", "(I)I"⟩, 78), (⟨"FilterForgeModel", "start", "()V"⟩, 78), (⟨"FilterForgeModel", "put", "(II)V"⟩, 78), (⟨"FilterForgeModel", "settle", "()V"⟩, 78), (⟨"FilterForgeModel", "come", "(I[I[J[J[J[JJ)V"⟩, 78), (⟨"FilterForgeModel", "offenceOf", "(J)I"⟩, 78), (⟨"FilterForgeModel", "usesD", "(II)Z"⟩, 78), (⟨"FilterForgeModel", "usesS", "(II)Z"⟩, 78), (⟨"FilterForgeModel", "isMisplaced", "(IIII)Z"⟩, 78), (⟨"FilterForgeModel", "isInStack", "(JIZ)Z"⟩, 78), (⟨"FilterForgeModel", "hand", "(I)V"⟩, 78), (⟨"FilterForgeModel", "yNumber", "(J)V"⟩, 78)]
theorem lw_r15 : ∀ q ∈ lw_privs_15, lw_okq q := List.forall_mem_cons.mpr ⟨lw_p224, List.forall_mem_cons.mpr ⟨lw_p225, List.forall_mem_cons.mpr ⟨lw_p226, List.forall_mem_cons.mpr ⟨lw_p227, List.forall_mem_cons.mpr ⟨lw_p228, List.forall_mem_cons.mpr ⟨lw_p229, List.forall_mem_cons.mpr ⟨lw_p230, List.forall_mem_cons.mpr ⟨lw_p231, List.forall_mem_cons.mpr ⟨lw_p232, List.forall_mem_cons.mpr ⟨lw_p233, List.forall_mem_cons.mpr ⟨lw_p234, List.forall_mem_cons.mpr ⟨lw_p235, List.forall_mem_cons.mpr ⟨lw_p236, List.forall_mem_cons.mpr ⟨lw_p237, List.forall_mem_cons.mpr ⟨lw_p238, List.forall_mem_cons.mpr ⟨lw_p239, fun _ h => absurd h List.not_mem_nil⟩⟩⟩⟩⟩⟩⟩⟩⟩⟩⟩⟩⟩⟩⟩⟩
theorem lw_p240 : lw_okq (⟨"FilterForgeModel", "work", "(I)V"⟩, 78) := ⟨⟨by decide +kernel, by decide +kernel⟩, List.mem_of_getElem? (i := 1528) (by decide +kernel), List.mem_of_getElem? (i := 2476) (by decide +kernel), List.mem_of_getElem? (i := 2477) (by decide +kernel)⟩
theorem lw_p241 : lw_okq (⟨"FilterForgeModel", "cutBoth", "()V"⟩, 78) := ⟨⟨by decide +kernel, by decide +kernel⟩, List.mem_of_getElem? (i := 1528) (by decide +kernel), List.mem_of_getElem? (i := 2480) (by decide +kernel), List.mem_of_getElem? (i := 2481) (by decide +kernel)⟩
theorem lw_p242 : lw_okq (⟨"FilterForgeModel", "cut", "()V"⟩, 78) := ⟨⟨by decide +kernel, by decide +kernel⟩, List.mem_of_getElem? (i := 1528) (by decide +kernel), List.mem_of_getElem? (i := 2484) (by decide +kernel), List.mem_of_getElem? (i := 2485) (by decide +kernel)⟩
theorem lw_p243 : lw_okq (⟨"FilterForgeModel", "bitsOf", "(IJJJJJIZ)V"⟩, 78) := ⟨⟨by decide +kernel, by decide +kernel⟩, List.mem_of_getElem? (i := 1528) (by decide +kernel), List.mem_of_getElem? (i := 2492) (by decide +kernel), List.mem_of_getElem? (i := 2493) (by decide +kernel)⟩
theorem lw_p244 : lw_okq (⟨"FilterForgeModel", "sumBits", "(JJJJZ)V"⟩, 78) := ⟨⟨by decide +kernel, by decide +kernel⟩, List.mem_of_getElem? (i := 1528) (by decide +kernel), List.mem_of_getElem? (i := 2496) (by decide +kernel), List.mem_of_getElem? (i := 2497) (by decide +kernel)⟩
theorem lw_p245 : lw_okq (⟨"FilterForgeModel", "rightBits", "(JJI)V"⟩, 78) := ⟨⟨by decide +kernel, by decide +kernel⟩, List.mem_of_getElem? (i := 1528) (by decide +kernel), List.mem_of_getElem? (i := 2500) (by decide +kernel), List.mem_of_getElem? (i := 2501) (by decide +kernel)⟩
theorem lw_p246 : lw_okq (⟨"FilterForgeModel", "rangeOf", "(IJJJJIZ)V"⟩, 78) := ⟨⟨by decide +kernel, by decide +kernel⟩, List.mem_of_getElem? (i := 1528) (by decide +kernel), List.mem_of_getElem? (i := 2506) (by decide +kernel), List.mem_of_getElem? (i := 2507) (by decide +kernel)⟩
theorem lw_p247 : lw_okq (⟨"FilterForgeModel", "rightRange", "(JJI)V"⟩, 78) := ⟨⟨by decide +kernel, by decide +kernel⟩, List.mem_of_getElem? (i := 1528) (by decide +kernel), List.mem_of_getElem? (i := 2520) (by decide +kernel), List.mem_of_getElem? (i := 2521) (by decide +kernel)⟩
theorem lw_p248 : lw_okq (⟨"FilterForgeModel", "goOn", "(I)V"⟩, 78) := ⟨⟨by decide +kernel, by decide +kernel⟩, List.mem_of_getElem? (i := 1528) (by decide +kernel), List.mem_of_getElem? (i := 2526) (by decide +kernel), List.mem_of_getElem? (i := 2527) (by decide +kernel)⟩
theorem lw_p249 : lw_okq (⟨"FilterForgeModel", "comeBy", "(JZI)V"⟩, 78) := ⟨⟨by decide +kernel, by decide +kernel⟩, List.mem_of_getElem? (i := 1528) (by decide +kernel), List.mem_of_getElem? (i := 2530) (by decide +kernel), List.mem_of_getElem? (i := 2531) (by decide +kernel)⟩
theorem lw_p250 : lw_okq (⟨"FilterForgeModel", "other", "(J)V"⟩, 78) := ⟨⟨by decide +kernel, by decide +kernel⟩, List.mem_of_getElem? (i := 1528) (by decide +kernel), List.mem_of_getElem? (i := 2534) (by decide +kernel), List.mem_of_getElem? (i := 2535) (by decide +kernel)⟩
theorem lw_p251 : lw_okq (⟨"FilterForgeModel", "narrows", "(IZJ)Z"⟩, 78) := ⟨⟨by decide +kernel, by decide +kernel⟩, List.mem_of_getElem? (i := 1528) (by decide +kernel), List.mem_of_getElem? (i := 2538) (by decide +kernel), List.mem_of_getElem? (i := 2539) (by decide +kernel)⟩
theorem lw_p252 : lw_okq (⟨"FilterForgeModel", "effect", "(J)V"⟩, 78) := ⟨⟨by decide +kernel, by decide +kernel⟩, List.mem_of_getElem? (i := 1528) (by decide +kernel), List.mem_of_getElem? (i := 2542) (by decide +kernel), List.mem_of_getElem? (i := 2543) (by decide +kernel)⟩
theorem lw_p253 : lw_okq (⟨"FilterForgeModel", "any", "()V"⟩, 78) := ⟨⟨by decide +kernel, by decide +kernel⟩, List.mem_of_getElem? (i := 1528) (by decide +kernel), List.mem_of_getElem? (i := 2546) (by decide +kernel), List.mem_of_getElem? (i := 2547) (by decide +kernel)⟩
theorem lw_p254 : lw_okq (⟨"FilterForgeModel", "loaded", "(I)V"⟩, 78) := ⟨⟨by decide +kernel, by decide +kernel⟩, List.mem_of_getElem? (i := 1528) (by decide +kernel), List.mem_of_getElem? (i := 2550) (by decide +kernel), List.mem_of_getElem? (i := 2551) (by decide +kernel)⟩
theorem lw_p255 : lw_okq (⟨"FilterForgeModel", "swap", "()V"⟩, 78) := ⟨⟨by decide +kernel, by decide +kernel⟩, List.mem_of_getElem? (i := 1528) (by decide +kernel), List.mem_of_getElem? (i := 2562) (by decide +kernel), List.mem_of_getElem? (i := 2563) (by decide +kernel)⟩
def lw_privs_16 : List (MethodName × Nat) := [(⟨"FilterForgeModel", "work", "(I)V"⟩, 78), (⟨"FilterForgeModel", "cutBoth", "()V"⟩, 78), (⟨"FilterForgeModel", "cut", "()V"⟩, 78), (⟨"FilterForgeModel", "bitsOf", "(IJJJJJIZ)V"⟩, 78), (⟨"FilterForgeModel", "sumBits", "(JJJJZ)V"⟩, 78), (⟨"FilterForgeModel", "rightBits", "(JJI)V"⟩, 78), (⟨"FilterForgeModel", "rangeOf", "(IJJJJIZ)V"⟩, 78), (⟨"FilterForgeModel", "rightRange", "(JJI)V"⟩, 78), (⟨"FilterForgeModel", "goOn", "(I)V"⟩, 78), (⟨"FilterForgeModel", "comeBy", "(JZI)V"⟩, 78), (⟨"FilterForgeModel", "other", "(J)V"⟩, 78), (⟨"FilterForgeModel", "narrows", "(IZJ)Z"⟩, 78), (⟨"FilterForgeModel", "effect", "(J)V"⟩, 78), (⟨"FilterForgeModel", "any", "()V"⟩, 78), (⟨"FilterForgeModel", "loaded", "(I)V"⟩, 78), (⟨"FilterForgeModel", "swap", "()V"⟩, 78)]
theorem lw_r16 : ∀ q ∈ lw_privs_16, lw_okq q := List.forall_mem_cons.mpr ⟨lw_p240, List.forall_mem_cons.mpr ⟨lw_p241, List.forall_mem_cons.mpr ⟨lw_p242, List.forall_mem_cons.mpr ⟨lw_p243, List.forall_mem_cons.mpr ⟨lw_p244, List.forall_mem_cons.mpr ⟨lw_p245, List.forall_mem_cons.mpr ⟨lw_p246, List.forall_mem_cons.mpr ⟨lw_p247, List.forall_mem_cons.mpr ⟨lw_p248, List.forall_mem_cons.mpr ⟨lw_p249, List.forall_mem_cons.mpr ⟨lw_p250, List.forall_mem_cons.mpr ⟨lw_p251, List.forall_mem_cons.mpr ⟨lw_p252, List.forall_mem_cons.mpr ⟨lw_p253, List.forall_mem_cons.mpr ⟨lw_p254, List.forall_mem_cons.mpr ⟨lw_p255, fun _ h => absurd h List.not_mem_nil⟩⟩⟩⟩⟩⟩⟩⟩⟩⟩⟩⟩⟩⟩⟩⟩
theorem lw_p256 : lw_okq (⟨"FilterForgeModel", "arithmeticWords", "(J)V"⟩, 78) := ⟨⟨by decide +kernel, by decide +kernel⟩, List.mem_of_getElem? (i := 1528) (by decide +kernel), List.mem_of_getElem? (i := 2566) (by decide +kernel), List.mem_of_getElem? (i := 2567) (by decide +kernel)⟩
theorem lw_p257 : lw_okq (⟨"FilterForgeModel", "number", "(II)V"⟩, 78) := ⟨⟨by decide +kernel, by decide +kernel⟩, List.mem_of_getElem? (i := 1528) (by decide +kernel), List.mem_of_getElem? (i := 2573) (by decide +kernel), List.mem_of_getElem? (i := 2574) (by decide +kernel)⟩
theorem lw_p258 : lw_okq (⟨"FilterForgeModel", "addNumber", "(III)V"⟩, 78) := ⟨⟨by decide +kernel, by decide +kernel⟩, List.mem_of_getElem? (i := 1528) (by decide +kernel), List.mem_of_getElem? (i := 2577) (by decide +kernel), List.mem_of_getElem? (i := 2578) (by decide +kernel)⟩
theorem lw_p259 : lw_okq (⟨"FilterForgeModel", "immediate", "(IIIII)V"⟩, 78) := ⟨⟨by decide +kernel, by decide +kernel⟩, List.mem_of_getElem? (i := 1528) (by decide +kernel), List.mem_of_getElem? (i := 2581) (by decide +kernel), List.mem_of_getElem? (i := 2582) (by decide +kernel)⟩
theorem lw_p260 : lw_okq (⟨"FilterForgeModel", "emitWord", "(J)V"⟩, 78) := ⟨⟨by decide +kernel, by decide +kernel⟩, List.mem_of_getElem? (i := 1528) (by decide +kernel), List.mem_of_getElem? (i := 2585) (by decide +kernel), List.mem_of_getElem? (i := 2586) (by decide +kernel)⟩
theorem lw_p261 : lw_okq (⟨"FilterForgeModel", "addNumberWord", "(III)V"⟩, 78) := ⟨⟨by decide +kernel, by decide +kernel⟩, List.mem_of_getElem? (i := 1528) (by decide +kernel), List.mem_of_getElem? (i := 2591) (by decide +kernel), List.mem_of_getElem? (i := 2592) (by decide +kernel)⟩
theorem lw_p262 : lw_okq (⟨"FilterForgeModel", "divideWords", "(ZII)V"⟩, 78) := ⟨⟨by decide +kernel, by decide +kernel⟩, List.mem_of_getElem? (i := 1528) (by decide +kernel), List.mem_of_getElem? (i := 2595) (by decide +kernel), List.mem_of_getElem? (i := 2596) (by decide +kernel)⟩
theorem lw_p263 : lw_okq (⟨"FilterForgeModel", "branch", "(IIII)V"⟩, 78) := ⟨⟨by decide +kernel, by decide +kernel⟩, List.mem_of_getElem? (i := 1528) (by decide +kernel), List.mem_of_getElem? (i := 2599) (by decide +kernel), List.mem_of_getElem? (i := 2600) (by decide +kernel)⟩
theorem lw_p264 : lw_okq (⟨"FilterForgeModel", "three", "(IIIIII)V"⟩, 78) := ⟨⟨by decide +kernel, by decide +kernel⟩, List.mem_of_getElem? (i := 1528) (by decide +kernel), List.mem_of_getElem? (i := 2604) (by decide +kernel), List.mem_of_getElem? (i := 2605) (by decide +kernel)⟩
theorem lw_p265 : lw_okq (⟨"FilterForgeModel", "sumWord", "(IZII)V"⟩, 78) := ⟨⟨by decide +kernel, by decide +kernel⟩, List.mem_of_getElem? (i := 1528) (by decide +kernel), List.mem_of_getElem? (i := 2611) (by decide +kernel), List.mem_of_getElem? (i := 2612) (by decide +kernel)⟩
theorem lw_p266 : lw_okq (⟨"FilterForgeModel", "zeroHigh", "(I)V"⟩, 78) := ⟨⟨by decide +kernel, by decide +kernel⟩, List.mem_of_getElem? (i := 1528) (by decide +kernel), List.mem_of_getElem? (i := 2615) (by decide +kernel), List.mem_of_getElem? (i := 2616) (by decide +kernel)⟩
theorem lw_p267 : lw_okq (⟨"FilterForgeModel", "shiftLeft", "(III)V"⟩, 78) := ⟨⟨by decide +kernel, by decide +kernel⟩, List.mem_of_getElem? (i := 1528) (by decide +kernel), List.mem_of_getElem? (i := 2619) (by decide +kernel), List.mem_of_getElem? (i := 2620) (by decide +kernel)⟩
theorem lw_p268 : lw_okq (⟨"FilterForgeModel", "wayWords", "(J)V"⟩, 78) := ⟨⟨by decide +kernel, by decide +kernel⟩, List.mem_of_getElem? (i := 1528) (by decide +kernel), List.mem_of_getElem? (i := 2623) (by decide +kernel), List.mem_of_getElem? (i := 2624) (by decide +kernel)⟩
theorem lw_p269 : lw_okq (⟨"FilterForgeModel", "notWord", "(III)V"⟩, 78) := ⟨⟨by decide +kernel, by decide +kernel⟩, List.mem_of_getElem? (i := 1528) (by decide +kernel), List.mem_of_getElem? (i := 2628) (by decide +kernel), List.mem_of_getElem? (i := 2629) (by decide +kernel)⟩
theorem lw_p270 : lw_okq (⟨"FilterForgeModel", "memoryWords", "(J)V"⟩, 78) := ⟨⟨by decide +kernel, by decide +kernel⟩, List.mem_of_getElem? (i := 1528) (by decide +kernel), List.mem_of_getElem? (i := 2633) (by decide +kernel), List.mem_of_getElem? (i := 2634) (by decide +kernel)⟩
theorem lw_p271 : lw_okq (⟨"FilterForgeModel", "add", "(III)V"⟩, 78) := ⟨⟨by decide +kernel, by decide +kernel⟩, List.mem_of_getElem? (i := 1528) (by decide +kernel), List.mem_of_getElem? (i := 2637) (by decide +kernel), List.mem_of_getElem? (i := 2638) (by decide +kernel)⟩
def lw_privs_17 : List (MethodName × Nat) := [(⟨"FilterForgeModel", "arithmeticWords", "(J)V"⟩, 78), (⟨"FilterForgeModel", "number", "(II)V"⟩, 78), (⟨"FilterForgeModel", "addNumber", "(III)V"⟩, 78), (⟨"FilterForgeModel", "immediate", "(IIIII)V"⟩, 78), (⟨"FilterForgeModel", "emitWord", "(J)V"⟩, 78), (⟨"FilterForgeModel", "addNumberWord", "(III)V"⟩, 78), (⟨"FilterForgeModel", "divideWords", "(ZII)V"⟩, 78), (⟨"FilterForgeModel", "branch", "(IIII)V"⟩, 78), (⟨"FilterForgeModel", "three", "(IIIIII)V"⟩, 78), (⟨"FilterForgeModel", "sumWord", "(IZII)V"⟩, 78), (⟨"FilterForgeModel", "zeroHigh", "(I)V"⟩, 78), (⟨"FilterForgeModel", "shiftLeft", "(III)V"⟩, 78), (⟨"FilterForgeModel", "wayWords", "(J)V"⟩, 78), (⟨"FilterForgeModel", "notWord", "(III)V"⟩, 78), (⟨"FilterForgeModel", "memoryWords", "(J)V"⟩, 78), (⟨"FilterForgeModel", "add", "(III)V"⟩, 78)]
theorem lw_r17 : ∀ q ∈ lw_privs_17, lw_okq q := List.forall_mem_cons.mpr ⟨lw_p256, List.forall_mem_cons.mpr ⟨lw_p257, List.forall_mem_cons.mpr ⟨lw_p258, List.forall_mem_cons.mpr ⟨lw_p259, List.forall_mem_cons.mpr ⟨lw_p260, List.forall_mem_cons.mpr ⟨lw_p261, List.forall_mem_cons.mpr ⟨lw_p262, List.forall_mem_cons.mpr ⟨lw_p263, List.forall_mem_cons.mpr ⟨lw_p264, List.forall_mem_cons.mpr ⟨lw_p265, List.forall_mem_cons.mpr ⟨lw_p266, List.forall_mem_cons.mpr ⟨lw_p267, List.forall_mem_cons.mpr ⟨lw_p268, List.forall_mem_cons.mpr ⟨lw_p269, List.forall_mem_cons.mpr ⟨lw_p270, List.forall_mem_cons.mpr ⟨lw_p271, fun _ h => absurd h List.not_mem_nil⟩⟩⟩⟩⟩⟩⟩⟩⟩⟩⟩⟩⟩⟩⟩⟩
theorem lw_p272 : lw_okq (⟨"FilterForgeModel", "storeWord", "(IIII)V"⟩, 78) := ⟨⟨by decide +kernel, by decide +kernel⟩, List.mem_of_getElem? (i := 1528) (by decide +kernel), List.mem_of_getElem? (i := 2641) (by decide +kernel), List.mem_of_getElem? (i := 2642) (by decide +kernel)⟩
theorem lw_p273 : lw_okq (⟨"FilterForgeModel", "readWords", "(J)V"⟩, 78) := ⟨⟨by decide +kernel, by decide +kernel⟩, List.mem_of_getElem? (i := 1528) (by decide +kernel), List.mem_of_getElem? (i := 2646) (by decide +kernel), List.mem_of_getElem? (i := 2647) (by decide +kernel)⟩
theorem lw_p274 : lw_okq (⟨"FilterForgeModel", "takeObject", "(I)V"⟩, 78) := ⟨⟨by decide +kernel, by decide +kernel⟩, List.mem_of_getElem? (i := 1528) (by decide +kernel), List.mem_of_getElem? (i := 2650) (by decide +kernel), List.mem_of_getElem? (i := 2651) (by decide +kernel)⟩
theorem lw_p275 : lw_okq (⟨"FilterForgeModel", "one", "(IIJ)Z"⟩, 78) := ⟨⟨by decide +kernel, by decide +kernel⟩, List.mem_of_getElem? (i := 1528) (by decide +kernel), List.mem_of_getElem? (i := 2668) (by decide +kernel), List.mem_of_getElem? (i := 2669) (by decide +kernel)⟩
theorem lw_p276 : lw_okq (⟨"FilterForgeModel", "set", "(IJ)V"⟩, 78) := ⟨⟨by decide +kernel, by decide +kernel⟩, List.mem_of_getElem? (i := 1528) (by decide +kernel), List.mem_of_getElem? (i := 2672) (by decide +kernel), List.mem_of_getElem? (i := 2673) (by decide +kernel)⟩
theorem lw_p277 : lw_okq (⟨"FilterForgeModel", "jumpWord", "(IJ)V"⟩, 78) := ⟨⟨by decide +kernel, by decide +kernel⟩, List.mem_of_getElem? (i := 1528) (by decide +kernel), List.mem_of_getElem? (i := 2676) (by decide +kernel), List.mem_of_getElem? (i := 2677) (by decide +kernel)⟩
theorem lw_p278 : lw_okq (⟨"FilterForgeModel", "jumpRegister", "(IJ)V"⟩, 78) := ⟨⟨by decide +kernel, by decide +kernel⟩, List.mem_of_getElem? (i := 1528) (by decide +kernel), List.mem_of_getElem? (i := 2680) (by decide +kernel), List.mem_of_getElem? (i := 2681) (by decide +kernel)⟩
theorem lw_p279 : lw_okq (⟨"FilterForgeModel", "branchWord", "(IJ)V"⟩, 78) := ⟨⟨by decide +kernel, by decide +kernel⟩, List.mem_of_getElem? (i := 1528) (by decide +kernel), List.mem_of_getElem? (i := 2684) (by decide +kernel), List.mem_of_getElem? (i := 2685) (by decide +kernel)⟩
theorem lw_p280 : lw_okq (⟨"FilterForgeModel", "loadWord", "(II)V"⟩, 78) := ⟨⟨by decide +kernel, by decide +kernel⟩, List.mem_of_getElem? (i := 1528) (by decide +kernel), List.mem_of_getElem? (i := 2688) (by decide +kernel), List.mem_of_getElem? (i := 2689) (by decide +kernel)⟩
theorem lw_p281 : lw_okq (⟨"FilterForgeModel", "isThere", "(IJIZ)Z"⟩, 78) := ⟨⟨by decide +kernel, by decide +kernel⟩, List.mem_of_getElem? (i := 1528) (by decide +kernel), List.mem_of_getElem? (i := 2692) (by decide +kernel), List.mem_of_getElem? (i := 2693) (by decide +kernel)⟩
theorem lw_p282 : lw_okq (⟨"FilterForgeModel", "loaded", "(IJI)J"⟩, 78) := ⟨⟨by decide +kernel, by decide +kernel⟩, List.mem_of_getElem? (i := 1528) (by decide +kernel), List.mem_of_getElem? (i := 2696) (by decide +kernel), List.mem_of_getElem? (i := 2697) (by decide +kernel)⟩
theorem lw_p283 : lw_okq (⟨"FilterForgeModel", "storeWord", "(II)V"⟩, 78) := ⟨⟨by decide +kernel, by decide +kernel⟩, List.mem_of_getElem? (i := 1528) (by decide +kernel), List.mem_of_getElem? (i := 2703) (by decide +kernel), List.mem_of_getElem? (i := 2704) (by decide +kernel)⟩
theorem lw_p284 : lw_okq (⟨"FilterForgeModel", "numberWord", "(I)V"⟩, 78) := ⟨⟨by decide +kernel, by decide +kernel⟩, List.mem_of_getElem? (i := 1528) (by decide +kernel), List.mem_of_getElem? (i := 2707) (by decide +kernel), List.mem_of_getElem? (i := 2708) (by decide +kernel)⟩
theorem lw_p285 : lw_okq (⟨"FilterForgeModel", "numberWordShort", "(I)V"⟩, 78) := ⟨⟨by decide +kernel, by decide +kernel⟩, List.mem_of_getElem? (i := 1528) (by decide +kernel), List.mem_of_getElem? (i := 2711) (by decide +kernel), List.mem_of_getElem? (i := 2712) (by decide +kernel)⟩
theorem lw_p286 : lw_okq (⟨"FilterForgeModel", "registerWord", "(I)V"⟩, 78) := ⟨⟨by decide +kernel, by decide +kernel⟩, List.mem_of_getElem? (i := 1528) (by decide +kernel), List.mem_of_getElem? (i := 2715) (by decide +kernel), List.mem_of_getElem? (i := 2716) (by decide +kernel)⟩
theorem lw_p287 : lw_okq (⟨"FilterForgeModel", "registerWordShort", "(I)V"⟩, 78) := ⟨⟨by decide +kernel, by decide +kernel⟩, List.mem_of_getElem? (i := 1528) (by decide +kernel), List.mem_of_getElem? (i := 2719) (by decide +kernel), List.mem_of_getElem? (i := 2720) (by decide +kernel)⟩
def lw_privs_18 : List (MethodName × Nat) := [(⟨"FilterForgeModel", "storeWord", "(IIII)V"⟩, 78), (⟨"FilterForgeModel", "readWords", "(J)V"⟩, 78), (⟨"FilterForgeModel", "takeObject", "(I)V"⟩, 78), (⟨"FilterForgeModel", "one", "(IIJ)Z"⟩, 78), (⟨"FilterForgeModel", "set", "(IJ)V"⟩, 78), (⟨"FilterForgeModel", "jumpWord", "(IJ)V"⟩, 78), (⟨"FilterForgeModel", "jumpRegister", "(IJ)V"⟩, 78), (⟨"FilterForgeModel", "branchWord", "(IJ)V"⟩, 78), (⟨"FilterForgeModel", "loadWord", "(II)V"⟩, 78), (⟨"FilterForgeModel", "isThere", "(IJIZ)Z"⟩, 78), (⟨"FilterForgeModel", "loaded", "(IJI)J"⟩, 78), (⟨"FilterForgeModel", "storeWord", "(II)V"⟩, 78), (⟨"FilterForgeModel", "numberWord", "(I)V"⟩, 78), (⟨"FilterForgeModel", "numberWordShort", "(I)V"⟩, 78), (⟨"FilterForgeModel", "registerWord", "(I)V"⟩, 78), (⟨"FilterForgeModel", "registerWordShort", "(I)V"⟩, 78)]
theorem lw_r18 : ∀ q ∈ lw_privs_18, lw_okq q := List.forall_mem_cons.mpr ⟨lw_p272, List.forall_mem_cons.mpr ⟨lw_p273, List.forall_mem_cons.mpr ⟨lw_p274, List.forall_mem_cons.mpr ⟨lw_p275, List.forall_mem_cons.mpr ⟨lw_p276, List.forall_mem_cons.mpr ⟨lw_p277, List.forall_mem_cons.mpr ⟨lw_p278, List.forall_mem_cons.mpr ⟨lw_p279, List.forall_mem_cons.mpr ⟨lw_p280, List.forall_mem_cons.mpr ⟨lw_p281, List.forall_mem_cons.mpr ⟨lw_p282, List.forall_mem_cons.mpr ⟨lw_p283, List.forall_mem_cons.mpr ⟨lw_p284, List.forall_mem_cons.mpr ⟨lw_p285, List.forall_mem_cons.mpr ⟨lw_p286, List.forall_mem_cons.mpr ⟨lw_p287, fun _ h => absurd h List.not_mem_nil⟩⟩⟩⟩⟩⟩⟩⟩⟩⟩⟩⟩⟩⟩⟩⟩
def lw_privs : List (MethodName × Nat) := lw_privs_1 ++ (lw_privs_2 ++ (lw_privs_3 ++ (lw_privs_4 ++ (lw_privs_5 ++ (lw_privs_6 ++ (lw_privs_7 ++ (lw_privs_8 ++ (lw_privs_9 ++ (lw_privs_10 ++ (lw_privs_11 ++ (lw_privs_12 ++ (lw_privs_13 ++ (lw_privs_14 ++ (lw_privs_15 ++ (lw_privs_16 ++ (lw_privs_17 ++ (lw_privs_18)))))))))))))))))
def lw_tbl : List Cond := k2_sels lw_privs ++ tables_1
theorem lw_privs_ok : ∀ q ∈ lw_privs, lw_okq q := by
  show ∀ q ∈ lw_privs_1 ++ (lw_privs_2 ++ (lw_privs_3 ++ (lw_privs_4 ++ (lw_privs_5 ++ (lw_privs_6 ++ (lw_privs_7 ++ (lw_privs_8 ++ (lw_privs_9 ++ (lw_privs_10 ++ (lw_privs_11 ++ (lw_privs_12 ++ (lw_privs_13 ++ (lw_privs_14 ++ (lw_privs_15 ++ (lw_privs_16 ++ (lw_privs_17 ++ (lw_privs_18))))))))))))))))), lw_okq q
  exact List.forall_mem_append.mpr ⟨lw_r1, List.forall_mem_append.mpr ⟨lw_r2, List.forall_mem_append.mpr ⟨lw_r3, List.forall_mem_append.mpr ⟨lw_r4, List.forall_mem_append.mpr ⟨lw_r5, List.forall_mem_append.mpr ⟨lw_r6, List.forall_mem_append.mpr ⟨lw_r7, List.forall_mem_append.mpr ⟨lw_r8, List.forall_mem_append.mpr ⟨lw_r9, List.forall_mem_append.mpr ⟨lw_r10, List.forall_mem_append.mpr ⟨lw_r11, List.forall_mem_append.mpr ⟨lw_r12, List.forall_mem_append.mpr ⟨lw_r13, List.forall_mem_append.mpr ⟨lw_r14, List.forall_mem_append.mpr ⟨lw_r15, List.forall_mem_append.mpr ⟨lw_r16, List.forall_mem_append.mpr ⟨lw_r17, lw_r18⟩⟩⟩⟩⟩⟩⟩⟩⟩⟩⟩⟩⟩⟩⟩⟩⟩
end
section
def RX0 : String := "FilterForge$Coder"
def TX0 : u_T := fun k => match k with
  | 0 => ("FilterForge$Coder", "starts", "[I", true)
  | 1 => ("FilterForge$Coder", "goals", "[I", true)
  | 2 => ("FilterForge$Coder", "filter", "LFilterForge$Filter;", false)
  | 3 => ("FilterForge$Coder", "made", "LFilterForge$Program;", false)
  | _ => ("FilterForge$Coder", "length", "I", false)
def tyX0 : Nat → FieldType := fun k => match k with
  | 0 => .array .int
  | 1 => .array .int
  | 2 => .object "FilterForge$Filter"
  | 3 => .object "FilterForge$Program"
  | _ => .int
abbrev wsX00 : List Cond := u_ws RX0 TX0 5
theorem nmX0 : ∀ a, a < 5 → ∀ b, b < 5 → a ≠ b → (TX0 a).2.1 ≠ (TX0 b).2.1 := by decide +kernel
theorem tyX0_ok : ∀ k, k < 5 → parseFieldDescriptor (TX0 k).2.2.1 = some (tyX0 k) := by decide +kernel
def RX1 : String := "FilterForge$Fact"
def TX1 : u_T := fun k => match k with
  | 0 => ("FilterForge$Fact", "kind", "I", false)
  | 1 => ("FilterForge$Fact", "low", "J", false)
  | 2 => ("FilterForge$Fact", "high", "J", false)
  | 3 => ("FilterForge$Fact", "sure", "J", false)
  | _ => ("FilterForge$Fact", "ones", "J", false)
def tyX1 : Nat → FieldType := fun k => match k with
  | 0 => .int
  | 1 => .long
  | 2 => .long
  | 3 => .long
  | _ => .long
abbrev wsX10 : List Cond := u_ws RX1 TX1 5
theorem nmX1 : ∀ a, a < 5 → ∀ b, b < 5 → a ≠ b → (TX1 a).2.1 ≠ (TX1 b).2.1 := by decide +kernel
theorem tyX1_ok : ∀ k, k < 5 → parseFieldDescriptor (TX1 k).2.2.1 = some (tyX1 k) := by decide +kernel
def RX2 : String := "FilterForge$Filter"
def TX2 : u_T := fun k => match k with
  | 0 => ("FilterForge$Filter", "kinds", "[I", true)
  | 1 => ("FilterForge$Filter", "hows", "[I", true)
  | 2 => ("FilterForge$Filter", "numbers", "[I", true)
  | 3 => ("FilterForge$Filter", "itemCount", "I", false)
  | 4 => ("FilterForge$Filter", "from", "[I", true)
  | 5 => ("FilterForge$Filter", "middle", "[I", true)
  | 6 => ("FilterForge$Filter", "until", "[I", true)
  | 7 => ("FilterForge$Filter", "ops", "[I", true)
  | 8 => ("FilterForge$Filter", "yes", "[I", true)
  | 9 => ("FilterForge$Filter", "no", "[I", true)
  | 10 => ("FilterForge$Filter", "kept", "[Z", true)
  | 11 => ("FilterForge$Filter", "blockCount", "I", false)
  | 12 => ("FilterForge$Filter", "leftOut", "I", false)
  | 13 => ("FilterForge$Filter", "labels", "[I", true)
  | 14 => ("FilterForge$Filter", "labelCount", "I", false)
  | 15 => ("FilterForge$Filter", "asked", "[I", true)
  | 16 => ("FilterForge$Filter", "askedCount", "I", false)
  | _ => ("FilterForge$Filter", "pushed", "[J", true)
def tyX2 : Nat → FieldType := fun k => match k with
  | 0 => .array .int
  | 1 => .array .int
  | 2 => .array .int
  | 3 => .int
  | 4 => .array .int
  | 5 => .array .int
  | 6 => .array .int
  | 7 => .array .int
  | 8 => .array .int
  | 9 => .array .int
  | 10 => .array .boolean
  | 11 => .int
  | 12 => .int
  | 13 => .array .int
  | 14 => .int
  | 15 => .array .int
  | 16 => .int
  | _ => .array .long
abbrev wsX20 : List Cond := u_ws RX2 TX2 18
theorem nmX2 : ∀ a, a < 18 → ∀ b, b < 18 → a ≠ b → (TX2 a).2.1 ≠ (TX2 b).2.1 := by decide +kernel
theorem tyX2_ok : ∀ k, k < 18 → parseFieldDescriptor (TX2 k).2.2.1 = some (tyX2 k) := by decide +kernel
def RX3 : String := "FilterForge$Inspector"
def TX3 : u_T := fun k => match k with
  | 0 => ("FilterForge$Inspector", "kinds", "[B", false)
  | 1 => ("FilterForge$Inspector", "lows", "[J", false)
  | 2 => ("FilterForge$Inspector", "highs", "[J", false)
  | 3 => ("FilterForge$Inspector", "sures", "[J", false)
  | 4 => ("FilterForge$Inspector", "oneBits", "[J", false)
  | 5 => ("FilterForge$Inspector", "sets", "[J", false)
  | 6 => ("FilterForge$Inspector", "reached", "[Z", false)
  | 7 => ("FilterForge$Inspector", "now", "[LFilterForge$Fact;", true)
  | 8 => ("FilterForge$Inspector", "side", "LFilterForge$Fact;", true)
  | 9 => ("FilterForge$Inspector", "place", "LFilterForge$Fact;", true)
  | 10 => ("FilterForge$Inspector", "former", "LFilterForge$Fact;", true)
  | 11 => ("FilterForge$Inspector", "nowSet", "J", false)
  | 12 => ("FilterForge$Inspector", "program", "LFilterForge$Program;", false)
  | _ => ("FilterForge$Inspector", "lastTold", "I", false)
def tyX3 : Nat → FieldType := fun k => match k with
  | 0 => .array .byte
  | 1 => .array .long
  | 2 => .array .long
  | 3 => .array .long
  | 4 => .array .long
  | 5 => .array .long
  | 6 => .array .boolean
  | 7 => .array (.object "FilterForge$Fact")
  | 8 => .object "FilterForge$Fact"
  | 9 => .object "FilterForge$Fact"
  | 10 => .object "FilterForge$Fact"
  | 11 => .long
  | 12 => .object "FilterForge$Program"
  | _ => .int
abbrev wsX30 : List Cond := u_ws RX3 TX3 14
theorem nmX3 : ∀ a, a < 14 → ∀ b, b < 14 → a ≠ b → (TX3 a).2.1 ≠ (TX3 b).2.1 := by decide +kernel
theorem tyX3_ok : ∀ k, k < 14 → parseFieldDescriptor (TX3 k).2.2.1 = some (tyX3 k) := by decide +kernel
def RX4 : String := "FilterForge$Machine"
def TX4 : u_T := fun k => match k with
  | 0 => ("FilterForge$Machine", "registers", "[J", true)
  | 1 => ("FilterForge$Machine", "stackRow", "[B", true)
  | 2 => ("FilterForge$Machine", "packets", "LFilterForge$Packets;", true)
  | 3 => ("FilterForge$Machine", "packet", "I", false)
  | 4 => ("FilterForge$Machine", "shown", "I", false)
  | 5 => ("FilterForge$Machine", "trap", "I", false)
  | 6 => ("FilterForge$Machine", "steps", "I", false)
  | 7 => ("FilterForge$Machine", "place", "I", false)
  | 8 => ("FilterForge$Machine", "next", "J", false)
  | _ => ("FilterForge$Machine", "over", "Z", false)
def tyX4 : Nat → FieldType := fun k => match k with
  | 0 => .array .long
  | 1 => .array .byte
  | 2 => .object "FilterForge$Packets"
  | 3 => .int
  | 4 => .int
  | 5 => .int
  | 6 => .int
  | 7 => .int
  | 8 => .long
  | _ => .boolean
abbrev wsX40 : List Cond := u_ws RX4 TX4 10
theorem nmX4 : ∀ a, a < 10 → ∀ b, b < 10 → a ≠ b → (TX4 a).2.1 ≠ (TX4 b).2.1 := by decide +kernel
theorem tyX4_ok : ∀ k, k < 10 → parseFieldDescriptor (TX4 k).2.2.1 = some (tyX4 k) := by decide +kernel
def RX5 : String := "FilterForge$ObjectCode"
def TX5 : u_T := fun k => match k with
  | 0 => ("FilterForge$ObjectCode", "row", "[I", true)
  | _ => ("FilterForge$ObjectCode", "length", "I", false)
def tyX5 : Nat → FieldType := fun k => match k with
  | 0 => .array .int
  | _ => .int
abbrev wsX50 : List Cond := u_ws RX5 TX5 2
theorem nmX5 : ∀ a, a < 2 → ∀ b, b < 2 → a ≠ b → (TX5 a).2.1 ≠ (TX5 b).2.1 := by decide +kernel
theorem tyX5_ok : ∀ k, k < 2 → parseFieldDescriptor (TX5 k).2.2.1 = some (tyX5 k) := by decide +kernel
def RX6 : String := "FilterForge$Packets"
def TX6 : u_T := fun k => match k with
  | 0 => ("FilterForge$Packets", "cells", "[B", true)
  | 1 => ("FilterForge$Packets", "lengths", "[I", true)
  | _ => ("FilterForge$Packets", "held", "I", false)
def tyX6 : Nat → FieldType := fun k => match k with
  | 0 => .array .byte
  | 1 => .array .int
  | _ => .int
abbrev wsX60 : List Cond := u_ws RX6 TX6 3
theorem nmX6 : ∀ a, a < 3 → ∀ b, b < 3 → a ≠ b → (TX6 a).2.1 ≠ (TX6 b).2.1 := by decide +kernel
theorem tyX6_ok : ∀ k, k < 3 → parseFieldDescriptor (TX6 k).2.2.1 = some (tyX6 k) := by decide +kernel
def RX7 : String := "FilterForge$Program"
def TX7 : u_T := fun k => match k with
  | 0 => ("FilterForge$Program", "row", "[J", true)
  | _ => ("FilterForge$Program", "length", "I", false)
def tyX7 : Nat → FieldType := fun k => match k with
  | 0 => .array .long
  | _ => .int
abbrev wsX70 : List Cond := u_ws RX7 TX7 2
theorem nmX7 : ∀ a, a < 2 → ∀ b, b < 2 → a ≠ b → (TX7 a).2.1 ≠ (TX7 b).2.1 := by decide +kernel
theorem tyX7_ok : ∀ k, k < 2 → parseFieldDescriptor (TX7 k).2.2.1 = some (tyX7 k) := by decide +kernel
def RX8 : String := "FilterForge$Reader"
def TX8 : u_T := fun k => match k with
  | 0 => ("FilterForge$Reader", "text", "LFilterForge$Tape;", true)
  | 1 => ("FilterForge$Reader", "made", "LFilterForge$Filter;", false)
  | 2 => ("FilterForge$Reader", "kind", "I", false)
  | 3 => ("FilterForge$Reader", "first", "I", false)
  | 4 => ("FilterForge$Reader", "behind", "I", false)
  | _ => ("FilterForge$Reader", "wrong", "I", false)
def tyX8 : Nat → FieldType := fun k => match k with
  | 0 => .object "FilterForge$Tape"
  | 1 => .object "FilterForge$Filter"
  | 2 => .int
  | 3 => .int
  | 4 => .int
  | _ => .int
abbrev wsX80 : List Cond := u_ws RX8 TX8 6
theorem nmX8 : ∀ a, a < 6 → ∀ b, b < 6 → a ≠ b → (TX8 a).2.1 ≠ (TX8 b).2.1 := by decide +kernel
theorem tyX8_ok : ∀ k, k < 6 → parseFieldDescriptor (TX8 k).2.2.1 = some (tyX8 k) := by decide +kernel
def RX9 : String := "FilterForge$Tape"
def TX9 : u_T := fun k => match k with
  | 0 => ("FilterForge$Tape", "row", "[B", true)
  | _ => ("FilterForge$Tape", "length", "I", false)
def tyX9 : Nat → FieldType := fun k => match k with
  | 0 => .array .byte
  | _ => .int
abbrev wsX90 : List Cond := u_ws RX9 TX9 2
theorem nmX9 : ∀ a, a < 2 → ∀ b, b < 2 → a ≠ b → (TX9 a).2.1 ≠ (TX9 b).2.1 := by decide +kernel
theorem tyX9_ok : ∀ k, k < 2 → parseFieldDescriptor (TX9 k).2.2.1 = some (tyX9 k) := by decide +kernel
def RX10 : String := "FilterForge$Translator"
def TX10 : u_T := fun k => match k with
  | 0 => ("FilterForge$Translator", "starts", "[I", true)
  | 1 => ("FilterForge$Translator", "made", "LFilterForge$ObjectCode;", true)
  | 2 => ("FilterForge$Translator", "source", "LFilterForge$Program;", false)
  | 3 => ("FilterForge$Translator", "writes", "Z", false)
  | _ => ("FilterForge$Translator", "length", "I", false)
def tyX10 : Nat → FieldType := fun k => match k with
  | 0 => .array .int
  | 1 => .object "FilterForge$ObjectCode"
  | 2 => .object "FilterForge$Program"
  | 3 => .boolean
  | _ => .int
abbrev wsX100 : List Cond := u_ws RX10 TX10 5
theorem nmX10 : ∀ a, a < 5 → ∀ b, b < 5 → a ≠ b → (TX10 a).2.1 ≠ (TX10 b).2.1 := by decide +kernel
theorem tyX10_ok : ∀ k, k < 5 → parseFieldDescriptor (TX10 k).2.2.1 = some (tyX10 k) := by decide +kernel
def RX11 : String := "FilterForge"
def TX11 : u_T := fun k => match k with
  | 0 => ("FilterForge", "tape", "LFilterForge$Tape;", true)
  | 1 => ("FilterForge", "packets", "LFilterForge$Packets;", true)
  | 2 => ("FilterForge", "machine", "LFilterForge$Machine;", true)
  | 3 => ("FilterForge", "object", "LFilterForge$ObjectCode;", true)
  | 4 => ("FilterForge", "filter", "LFilterForge$Filter;", false)
  | 5 => ("FilterForge", "spareFilter", "LFilterForge$Filter;", false)
  | 6 => ("FilterForge", "program", "LFilterForge$Program;", false)
  | 7 => ("FilterForge", "spareProgram", "LFilterForge$Program;", false)
  | 8 => ("FilterForge", "filterRead", "Z", false)
  | 9 => ("FilterForge", "reader", "LFilterForge$Reader;", true)
  | 10 => ("FilterForge", "coder", "LFilterForge$Coder;", true)
  | 11 => ("FilterForge", "translator", "LFilterForge$Translator;", true)
  | 12 => ("FilterForge", "inspector", "LFilterForge$Inspector;", true)
  | _ => ("FilterForge", "gatekeeper", "LFilterForge$Inspector;", true)
def tyX11 : Nat → FieldType := fun k => match k with
  | 0 => .object "FilterForge$Tape"
  | 1 => .object "FilterForge$Packets"
  | 2 => .object "FilterForge$Machine"
  | 3 => .object "FilterForge$ObjectCode"
  | 4 => .object "FilterForge$Filter"
  | 5 => .object "FilterForge$Filter"
  | 6 => .object "FilterForge$Program"
  | 7 => .object "FilterForge$Program"
  | 8 => .boolean
  | 9 => .object "FilterForge$Reader"
  | 10 => .object "FilterForge$Coder"
  | 11 => .object "FilterForge$Translator"
  | 12 => .object "FilterForge$Inspector"
  | _ => .object "FilterForge$Inspector"
abbrev wsX110 : List Cond := u_ws RX11 TX11 14
theorem nmX11 : ∀ a, a < 14 → ∀ b, b < 14 → a ≠ b → (TX11 a).2.1 ≠ (TX11 b).2.1 := by decide +kernel
theorem tyX11_ok : ∀ k, k < 14 → parseFieldDescriptor (TX11 k).2.2.1 = some (tyX11 k) := by decide +kernel
def RX12 : String := "FilterForgeModel$Filter"
def TX12 : u_T := fun k => match k with
  | 0 => ("FilterForgeModel$Filter", "kind", "I", true)
  | 1 => ("FilterForgeModel$Filter", "a", "LFilterForgeModel$Filter;", true)
  | 2 => ("FilterForgeModel$Filter", "b", "LFilterForgeModel$Filter;", true)
  | 3 => ("FilterForgeModel$Filter", "left", "LFilterForgeModel$Sum;", true)
  | 4 => ("FilterForgeModel$Filter", "right", "LFilterForgeModel$Sum;", true)
  | 5 => ("FilterForgeModel$Filter", "sign", "I", true)
  | _ => ("FilterForgeModel$Filter", "first", "I", false)
def tyX12 : Nat → FieldType := fun k => match k with
  | 0 => .int
  | 1 => .object "FilterForgeModel$Filter"
  | 2 => .object "FilterForgeModel$Filter"
  | 3 => .object "FilterForgeModel$Sum"
  | 4 => .object "FilterForgeModel$Sum"
  | 5 => .int
  | _ => .int
abbrev wsX120 : List Cond := u_ws RX12 TX12 7
theorem nmX12 : ∀ a, a < 7 → ∀ b, b < 7 → a ≠ b → (TX12 a).2.1 ≠ (TX12 b).2.1 := by decide +kernel
theorem tyX12_ok : ∀ k, k < 7 → parseFieldDescriptor (TX12 k).2.2.1 = some (tyX12 k) := by decide +kernel
def RX13 : String := "FilterForgeModel$Never"
def TX13 : u_T := fun k => match k with
  | 0 => ("java/lang/Throwable", "cause", "Ljava/lang/Throwable;", false)
  | 1 => ("java/lang/Throwable", "stackTrace", "[Ljava/lang/StackTraceElement;", false)
  | 2 => ("java/lang/Throwable", "suppressedExceptions", "Ljava/util/List;", false)
  | 3 => ("java/lang/Throwable", "detailMessage", "Ljava/lang/String;", false)
  | 4 => ("java/lang/Throwable", "backtrace", "Ljava/lang/Object;", false)
  | _ => ("java/lang/Throwable", "depth", "I", false)
def tyX13 : Nat → FieldType := fun k => match k with
  | 0 => .object "java/lang/Throwable"
  | 1 => .array (.object "java/lang/StackTraceElement")
  | 2 => .object "java/util/List"
  | 3 => .object "java/lang/String"
  | 4 => .object "java/lang/Object"
  | _ => .int
abbrev wsX130 : List Cond := u_ws RX13 TX13 6
theorem nmX13 : ∀ a, a < 6 → ∀ b, b < 6 → a ≠ b → (TX13 a).2.1 ≠ (TX13 b).2.1 := by decide +kernel
theorem tyX13_ok : ∀ k, k < 6 → parseFieldDescriptor (TX13 k).2.2.1 = some (tyX13 k) := by decide +kernel
def RX14 : String := "FilterForgeModel$Sum"
def TX14 : u_T := fun k => match k with
  | 0 => ("FilterForgeModel$Sum", "kind", "I", true)
  | 1 => ("FilterForgeModel$Sum", "value", "J", true)
  | 2 => ("FilterForgeModel$Sum", "a", "LFilterForgeModel$Sum;", true)
  | 3 => ("FilterForgeModel$Sum", "b", "LFilterForgeModel$Sum;", true)
  | _ => ("FilterForgeModel$Sum", "size", "I", true)
def tyX14 : Nat → FieldType := fun k => match k with
  | 0 => .int
  | 1 => .long
  | 2 => .object "FilterForgeModel$Sum"
  | 3 => .object "FilterForgeModel$Sum"
  | _ => .int
abbrev wsX140 : List Cond := u_ws RX14 TX14 5
theorem nmX14 : ∀ a, a < 5 → ∀ b, b < 5 → a ≠ b → (TX14 a).2.1 ≠ (TX14 b).2.1 := by decide +kernel
theorem tyX14_ok : ∀ k, k < 5 → parseFieldDescriptor (TX14 k).2.2.1 = some (tyX14 k) := by decide +kernel
def RX15 : String := "FilterForgeModel$Wrong"
def TX15 : u_T := fun k => match k with
  | 0 => ("java/lang/Throwable", "cause", "Ljava/lang/Throwable;", false)
  | 1 => ("java/lang/Throwable", "stackTrace", "[Ljava/lang/StackTraceElement;", false)
  | 2 => ("java/lang/Throwable", "suppressedExceptions", "Ljava/util/List;", false)
  | 3 => ("java/lang/Throwable", "detailMessage", "Ljava/lang/String;", false)
  | 4 => ("java/lang/Throwable", "backtrace", "Ljava/lang/Object;", false)
  | 5 => ("java/lang/Throwable", "depth", "I", false)
  | _ => ("FilterForgeModel$Wrong", "place", "I", true)
def tyX15 : Nat → FieldType := fun k => match k with
  | 0 => .object "java/lang/Throwable"
  | 1 => .array (.object "java/lang/StackTraceElement")
  | 2 => .object "java/util/List"
  | 3 => .object "java/lang/String"
  | 4 => .object "java/lang/Object"
  | 5 => .int
  | _ => .int
abbrev wsX150 : List Cond := u_ws RX15 TX15 7
theorem nmX15 : ∀ a, a < 7 → ∀ b, b < 7 → a ≠ b → (TX15 a).2.1 ≠ (TX15 b).2.1 := by decide +kernel
theorem tyX15_ok : ∀ k, k < 7 → parseFieldDescriptor (TX15 k).2.2.1 = some (tyX15 k) := by decide +kernel
def RX16 : String := "FilterForgeModel"
def TX16 : u_T := fun k => match k with
  | 0 => ("FilterForgeModel", "tape", "[I", true)
  | 1 => ("FilterForgeModel", "fed", "I", false)
  | 2 => ("FilterForgeModel", "packetBytes", "[I", true)
  | 3 => ("FilterForgeModel", "packetLengths", "[I", true)
  | 4 => ("FilterForgeModel", "packets", "I", false)
  | 5 => ("FilterForgeModel", "wordKind", "I", false)
  | 6 => ("FilterForgeModel", "wordFrom", "I", false)
  | 7 => ("FilterForgeModel", "wordTo", "I", false)
  | 8 => ("FilterForgeModel", "textEnd", "I", false)
  | 9 => ("FilterForgeModel", "openFilters", "I", false)
  | 10 => ("FilterForgeModel", "openSums", "I", false)
  | 11 => ("FilterForgeModel", "pending", "I", false)
  | 12 => ("FilterForgeModel", "guards", "[I", true)
  | 13 => ("FilterForgeModel", "guardMany", "I", false)
  | 14 => ("FilterForgeModel", "tests", "[LFilterForgeModel$Filter;", false)
  | 15 => ("FilterForgeModel", "testMany", "I", false)
  | 16 => ("FilterForgeModel", "yes", "[I", false)
  | 17 => ("FilterForgeModel", "no", "[I", false)
  | 18 => ("FilterForgeModel", "wasRead", "Z", false)
  | 19 => ("FilterForgeModel", "leftOut", "I", false)
  | 20 => ("FilterForgeModel", "pile", "[LFilterForgeModel$Filter;", false)
  | 21 => ("FilterForgeModel", "pileYes", "[I", false)
  | 22 => ("FilterForgeModel", "pileNo", "[I", false)
  | 23 => ("FilterForgeModel", "piled", "I", false)
  | 24 => ("FilterForgeModel", "spine", "[LFilterForgeModel$Sum;", false)
  | 25 => ("FilterForgeModel", "spined", "I", false)
  | 26 => ("FilterForgeModel", "program", "[J", false)
  | 27 => ("FilterForgeModel", "hasProgram", "Z", false)
  | 28 => ("FilterForgeModel", "code", "[J", false)
  | 29 => ("FilterForgeModel", "coded", "I", false)
  | 30 => ("FilterForgeModel", "wantsAt", "[I", false)
  | 31 => ("FilterForgeModel", "wantsWhat", "[I", false)
  | 32 => ("FilterForgeModel", "wants", "I", false)
  | 33 => ("FilterForgeModel", "registers", "[J", true)
  | 34 => ("FilterForgeModel", "stackBytes", "[I", true)
  | 35 => ("FilterForgeModel", "trap", "I", false)
  | 36 => ("FilterForgeModel", "steps", "I", false)
  | 37 => ("FilterForgeModel", "endedAt", "I", false)
  | 38 => ("FilterForgeModel", "wasEmulated", "Z", false)
  | 39 => ("FilterForgeModel", "kinds", "[I", false)
  | 40 => ("FilterForgeModel", "lows", "[J", false)
  | 41 => ("FilterForgeModel", "highs", "[J", false)
  | 42 => ("FilterForgeModel", "knowns", "[J", false)
  | 43 => ("FilterForgeModel", "ones", "[J", false)
  | 44 => ("FilterForgeModel", "sets", "[J", false)
  | 45 => ("FilterForgeModel", "comes", "[Z", false)
  | 46 => ("FilterForgeModel", "looked", "I", false)
  | 47 => ("FilterForgeModel", "low", "J", false)
  | 48 => ("FilterForgeModel", "high", "J", false)
  | 49 => ("FilterForgeModel", "known", "J", false)
  | 50 => ("FilterForgeModel", "one", "J", false)
  | 51 => ("FilterForgeModel", "yLow", "J", false)
  | 52 => ("FilterForgeModel", "yHigh", "J", false)
  | 53 => ("FilterForgeModel", "yKnown", "J", false)
  | 54 => ("FilterForgeModel", "yOne", "J", false)
  | 55 => ("FilterForgeModel", "kind", "[I", true)
  | 56 => ("FilterForgeModel", "l", "[J", true)
  | 57 => ("FilterForgeModel", "h", "[J", true)
  | 58 => ("FilterForgeModel", "k", "[J", true)
  | 59 => ("FilterForgeModel", "o", "[J", true)
  | 60 => ("FilterForgeModel", "set", "J", false)
  | 61 => ("FilterForgeModel", "otherKinds", "[I", false)
  | 62 => ("FilterForgeModel", "otherLows", "[J", false)
  | 63 => ("FilterForgeModel", "otherHighs", "[J", false)
  | 64 => ("FilterForgeModel", "otherKnowns", "[J", false)
  | 65 => ("FilterForgeModel", "otherOnes", "[J", false)
  | 66 => ("FilterForgeModel", "otherSets", "[J", false)
  | 67 => ("FilterForgeModel", "otherComes", "[Z", false)
  | 68 => ("FilterForgeModel", "otherLooked", "I", false)
  | 69 => ("FilterForgeModel", "object", "[I", true)
  | 70 => ("FilterForgeModel", "objectMany", "I", false)
  | 71 => ("FilterForgeModel", "hasObject", "Z", false)
  | 72 => ("FilterForgeModel", "words", "[I", true)
  | 73 => ("FilterForgeModel", "wordMany", "I", false)
  | 74 => ("FilterForgeModel", "wordOf", "[I", true)
  | 75 => ("FilterForgeModel", "goesTo", "J", false)
  | 76 => ("FilterForgeModel", "isBad", "Z", false)
  | _ => ("FilterForgeModel", "noMemory", "Z", false)
def tyX16 : Nat → FieldType := fun k => match k with
  | 0 => .array .int
  | 1 => .int
  | 2 => .array .int
  | 3 => .array .int
  | 4 => .int
  | 5 => .int
  | 6 => .int
  | 7 => .int
  | 8 => .int
  | 9 => .int
  | 10 => .int
  | 11 => .int
  | 12 => .array .int
  | 13 => .int
  | 14 => .array (.object "FilterForgeModel$Filter")
  | 15 => .int
  | 16 => .array .int
  | 17 => .array .int
  | 18 => .boolean
  | 19 => .int
  | 20 => .array (.object "FilterForgeModel$Filter")
  | 21 => .array .int
  | 22 => .array .int
  | 23 => .int
  | 24 => .array (.object "FilterForgeModel$Sum")
  | 25 => .int
  | 26 => .array .long
  | 27 => .boolean
  | 28 => .array .long
  | 29 => .int
  | 30 => .array .int
  | 31 => .array .int
  | 32 => .int
  | 33 => .array .long
  | 34 => .array .int
  | 35 => .int
  | 36 => .int
  | 37 => .int
  | 38 => .boolean
  | 39 => .array .int
  | 40 => .array .long
  | 41 => .array .long
  | 42 => .array .long
  | 43 => .array .long
  | 44 => .array .long
  | 45 => .array .boolean
  | 46 => .int
  | 47 => .long
  | 48 => .long
  | 49 => .long
  | 50 => .long
  | 51 => .long
  | 52 => .long
  | 53 => .long
  | 54 => .long
  | 55 => .array .int
  | 56 => .array .long
  | 57 => .array .long
  | 58 => .array .long
  | 59 => .array .long
  | 60 => .long
  | 61 => .array .int
  | 62 => .array .long
  | 63 => .array .long
  | 64 => .array .long
  | 65 => .array .long
  | 66 => .array .long
  | 67 => .array .boolean
  | 68 => .int
  | 69 => .array .int
  | 70 => .int
  | 71 => .boolean
  | 72 => .array .int
  | 73 => .int
  | 74 => .array .int
  | 75 => .long
  | 76 => .boolean
  | _ => .boolean
abbrev wsX160 : List Cond := u_ws RX16 TX16 78
theorem nmX16 : ∀ a, a < 78 → ∀ b, b < 78 → a ≠ b → (TX16 a).2.1 ≠ (TX16 b).2.1 := by decide +kernel
theorem tyX16_ok : ∀ k, k < 78 → parseFieldDescriptor (TX16 k).2.2.1 = some (tyX16 k) := by decide +kernel
abbrev cX0_init : ByteArray := prog_2_method_1_code
def yX0_init : MethodName := ⟨RX0, "<init>", "(LFilterForge$Filter;LFilterForge$Program;)V"⟩
abbrev cX1_init : ByteArray := prog_3_method_1_code
def yX1_init : MethodName := ⟨RX1, "<init>", "()V"⟩
abbrev cX2_init : ByteArray := prog_4_method_1_code
def yX2_init : MethodName := ⟨RX2, "<init>", "()V"⟩
abbrev cX2_clear : ByteArray := prog_4_method_2_code
def yX2_clear : MethodName := ⟨RX2, "clear", "()V"⟩
abbrev cX2_newLabel : ByteArray := prog_4_method_3_code
def yX2_newLabel : MethodName := ⟨RX2, "newLabel", "()I"⟩
abbrev cX2_joinLabel : ByteArray := prog_4_method_5_code
def yX2_joinLabel : MethodName := ⟨RX2, "joinLabel", "(II)V"⟩
abbrev cX3_init : ByteArray := prog_5_method_1_code
def yX3_init : MethodName := ⟨RX3, "<init>", "(LFilterForge$Program;)V"⟩
abbrev cX3_look : ByteArray := prog_5_method_2_code
def yX3_look : MethodName := ⟨RX3, "look", "(LFilterForge$Program;)I"⟩
abbrev cX3_tell : ByteArray := prog_5_method_3_code
def yX3_tell : MethodName := ⟨RX3, "tell", "(III)J"⟩
abbrev cX4_init : ByteArray := prog_6_method_1_code
def yX4_init : MethodName := ⟨RX4, "<init>", "(LFilterForge$Packets;)V"⟩
abbrev cX5_init : ByteArray := prog_7_method_1_code
def yX5_init : MethodName := ⟨RX5, "<init>", "()V"⟩
abbrev cX5_takeTape : ByteArray := prog_7_method_2_code
def yX5_takeTape : MethodName := ⟨RX5, "takeTape", "(LFilterForge$Tape;)I"⟩
abbrev cX5_at : ByteArray := prog_7_method_3_code
def yX5_at : MethodName := ⟨RX5, "at", "(I)I"⟩
abbrev cX6_init : ByteArray := prog_8_method_1_code
def yX6_init : MethodName := ⟨RX6, "<init>", "()V"⟩
abbrev cX6_add : ByteArray := prog_8_method_2_code
def yX6_add : MethodName := ⟨RX6, "add", "(LFilterForge$Tape;)I"⟩
abbrev cX6_lengthOf : ByteArray := prog_8_method_3_code
def yX6_lengthOf : MethodName := ⟨RX6, "lengthOf", "(I)I"⟩
abbrev cX6_at : ByteArray := prog_8_method_4_code
def yX6_at : MethodName := ⟨RX6, "at", "(IJ)I"⟩
abbrev cX6_eightFrom : ByteArray := prog_8_method_5_code
def yX6_eightFrom : MethodName := ⟨RX6, "eightFrom", "(II)J"⟩
abbrev cX7_init : ByteArray := prog_9_method_1_code
def yX7_init : MethodName := ⟨RX7, "<init>", "()V"⟩
abbrev cX7_takeTape : ByteArray := prog_9_method_2_code
def yX7_takeTape : MethodName := ⟨RX7, "takeTape", "(LFilterForge$Tape;)I"⟩
abbrev cX7_at : ByteArray := prog_9_method_3_code
def yX7_at : MethodName := ⟨RX7, "at", "(I)J"⟩
abbrev cX8_init : ByteArray := prog_10_method_1_code
def yX8_init : MethodName := ⟨RX8, "<init>", "(LFilterForge$Tape;LFilterForge$Filter;)V"⟩
abbrev cX8_begin : ByteArray := prog_10_method_2_code
def yX8_begin : MethodName := ⟨RX8, "begin", "(LFilterForge$Filter;)V"⟩
abbrev cX8_wrongPlace : ByteArray := prog_10_method_3_code
def yX8_wrongPlace : MethodName := ⟨RX8, "wrongPlace", "()I"⟩
abbrev cX8_fail : ByteArray := prog_10_method_4_code
def yX8_fail : MethodName := ⟨RX8, "fail", "()V"⟩
abbrev cX8_next : ByteArray := prog_10_method_5_code
def yX8_next : MethodName := ⟨RX8, "next", "()V"⟩
abbrev cX8_behindBlanks : ByteArray := prog_10_method_6_code
def yX8_behindBlanks : MethodName := ⟨RX8, "behindBlanks", "(I)I"⟩
abbrev cX8_isWord : ByteArray := prog_10_method_11_code
def yX8_isWord : MethodName := ⟨RX8, "isWord", "(Ljava/lang/String;)Z"⟩
abbrev cX8_protocol : ByteArray := prog_10_method_13_code
def yX8_protocol : MethodName := ⟨RX8, "protocol", "()I"⟩
abbrev cX8_number : ByteArray := prog_10_method_14_code
def yX8_number : MethodName := ⟨RX8, "number", "()J"⟩
abbrev cX8_readFilter : ByteArray := prog_10_method_22_code
def yX8_readFilter : MethodName := ⟨RX8, "readFilter", "(III)V"⟩
abbrev cX8_readRow : ByteArray := prog_10_method_23_code
def yX8_readRow : MethodName := ⟨RX8, "readRow", "(III)V"⟩
abbrev cX8_readOne : ByteArray := prog_10_method_24_code
def yX8_readOne : MethodName := ⟨RX8, "readOne", "(III)V"⟩
abbrev cX8_beginsRelation : ByteArray := prog_10_method_25_code
def yX8_beginsRelation : MethodName := ⟨RX8, "beginsRelation", "()Z"⟩
abbrev cX8_readSided : ByteArray := prog_10_method_27_code
def yX8_readSided : MethodName := ⟨RX8, "readSided", "(II)V"⟩
abbrev cX8_readLength : ByteArray := prog_10_method_29_code
def yX8_readLength : MethodName := ⟨RX8, "readLength", "(II)V"⟩
abbrev cX9_init : ByteArray := prog_11_method_1_code
def yX9_init : MethodName := ⟨RX9, "<init>", "()V"⟩
abbrev cX9_hasRoom : ByteArray := prog_11_method_2_code
def yX9_hasRoom : MethodName := ⟨RX9, "hasRoom", "(I)Z"⟩
abbrev cX9_put : ByteArray := prog_11_method_3_code
def yX9_put : MethodName := ⟨RX9, "put", "(I)V"⟩
abbrev cX9_at : ByteArray := prog_11_method_4_code
def yX9_at : MethodName := ⟨RX9, "at", "(I)I"⟩
abbrev cX10_init : ByteArray := prog_12_method_1_code
def yX10_init : MethodName := ⟨RX10, "<init>", "(LFilterForge$Program;LFilterForge$ObjectCode;)V"⟩
abbrev cX11_init : ByteArray := prog_1_method_1_code
def yX11_init : MethodName := ⟨RX11, "<init>", "()V"⟩
abbrev cX11_feed : ByteArray := prog_1_method_2_code
def yX11_feed : MethodName := ⟨RX11, "feed", "(IIIII)I"⟩
abbrev cX11_end : ByteArray := prog_1_method_3_code
def yX11_end : MethodName := ⟨RX11, "end", "(I)I"⟩
abbrev cX11_packet : ByteArray := prog_1_method_4_code
def yX11_packet : MethodName := ⟨RX11, "packet", "()I"⟩
abbrev cX11_bytes : ByteArray := prog_1_method_5_code
def yX11_bytes : MethodName := ⟨RX11, "bytes", "(II)J"⟩
abbrev cX11_compile : ByteArray := prog_1_method_6_code
def yX11_compile : MethodName := ⟨RX11, "compile", "()I"⟩
abbrev cX11_load : ByteArray := prog_1_method_8_code
def yX11_load : MethodName := ⟨RX11, "load", "()I"⟩
abbrev cX11_instruction : ByteArray := prog_1_method_9_code
def yX11_instruction : MethodName := ⟨RX11, "instruction", "(I)J"⟩
abbrev cX11_verify : ByteArray := prog_1_method_10_code
def yX11_verify : MethodName := ⟨RX11, "verify", "()I"⟩
abbrev cX11_known : ByteArray := prog_1_method_11_code
def yX11_known : MethodName := ⟨RX11, "known", "(III)J"⟩
abbrev cX11_run : ByteArray := prog_1_method_12_code
def yX11_run : MethodName := ⟨RX11, "run", "(I)J"⟩
abbrev cX11_translate : ByteArray := prog_1_method_13_code
def yX11_translate : MethodName := ⟨RX11, "translate", "()I"⟩
abbrev cX11_raw : ByteArray := prog_1_method_14_code
def yX11_raw : MethodName := ⟨RX11, "raw", "()I"⟩
abbrev cX11_word : ByteArray := prog_1_method_15_code
def yX11_word : MethodName := ⟨RX11, "word", "(I)I"⟩
abbrev cX11_emulate : ByteArray := prog_1_method_16_code
def yX11_emulate : MethodName := ⟨RX11, "emulate", "(I)J"⟩
abbrev cX11_ended : ByteArray := prog_1_method_17_code
def yX11_ended : MethodName := ⟨RX11, "ended", "(I)I"⟩
abbrev cX11_register : ByteArray := prog_1_method_18_code
def yX11_register : MethodName := ⟨RX11, "register", "(I)J"⟩
abbrev cX11_stack : ByteArray := prog_1_method_19_code
def yX11_stack : MethodName := ⟨RX11, "stack", "(I)I"⟩
abbrev cX11_matches : ByteArray := prog_1_method_20_code
def yX11_matches : MethodName := ⟨RX11, "matches", "()I"⟩
abbrev cX11_count : ByteArray := prog_1_method_21_code
def yX11_count : MethodName := ⟨RX11, "count", "(I)I"⟩
abbrev cX15_init : ByteArray := prog_18_method_1_code
def yX15_init : MethodName := ⟨RX15, "<init>", "(I)V"⟩
abbrev cX16_init : ByteArray := prog_14_method_1_code
def yX16_init : MethodName := ⟨RX16, "<init>", "()V"⟩
abbrev cX16_feed : ByteArray := prog_14_method_2_code
def yX16_feed : MethodName := ⟨RX16, "feed", "(IIIII)I"⟩
abbrev cX16_feedOne : ByteArray := prog_14_method_3_code
def yX16_feedOne : MethodName := ⟨RX16, "feedOne", "(I)V"⟩
abbrev cX16_end : ByteArray := prog_14_method_4_code
def yX16_end : MethodName := ⟨RX16, "end", "(I)I"⟩
abbrev cX16_packet : ByteArray := prog_14_method_5_code
def yX16_packet : MethodName := ⟨RX16, "packet", "()I"⟩
abbrev cX16_isPacket : ByteArray := prog_14_method_6_code
def yX16_isPacket : MethodName := ⟨RX16, "isPacket", "(I)Z"⟩
abbrev cX16_bytes : ByteArray := prog_14_method_7_code
def yX16_bytes : MethodName := ⟨RX16, "bytes", "(II)J"⟩
abbrev cX16_next : ByteArray := prog_14_method_12_code
def yX16_next : MethodName := ⟨RX16, "next", "()V"⟩
abbrev cX16_must : ByteArray := prog_14_method_13_code
def yX16_must : MethodName := ⟨RX16, "must", "(Z)V"⟩
abbrev cX16_is : ByteArray := prog_14_method_14_code
def yX16_is : MethodName := ⟨RX16, "is", "(Ljava/lang/String;)Z"⟩
abbrev cX16_number : ByteArray := prog_14_method_16_code
def yX16_number : MethodName := ⟨RX16, "number", "()J"⟩
abbrev cX16_wantNumber : ByteArray := prog_14_method_17_code
def yX16_wantNumber : MethodName := ⟨RX16, "wantNumber", "(JJ)J"⟩
abbrev cX16_readFilter : ByteArray := prog_14_method_35_code
def yX16_readFilter : MethodName := ⟨RX16, "readFilter", "()LFilterForgeModel$Filter;"⟩
abbrev cX16_readAll : ByteArray := prog_14_method_36_code
def yX16_readAll : MethodName := ⟨RX16, "readAll", "()LFilterForgeModel$Filter;"⟩
abbrev cX16_readOne : ByteArray := prog_14_method_38_code
def yX16_readOne : MethodName := ⟨RX16, "readOne", "()LFilterForgeModel$Filter;"⟩
abbrev cX16_accessOf : ByteArray := prog_14_method_39_code
def yX16_accessOf : MethodName := ⟨RX16, "accessOf", "()I"⟩
abbrev cX16_readRelation : ByteArray := prog_14_method_42_code
def yX16_readRelation : MethodName := ⟨RX16, "readRelation", "()LFilterForgeModel$Filter;"⟩
abbrev cX16_readSum : ByteArray := prog_14_method_43_code
def yX16_readSum : MethodName := ⟨RX16, "readSum", "()LFilterForgeModel$Sum;"⟩
abbrev cX16_readProduct : ByteArray := prog_14_method_45_code
def yX16_readProduct : MethodName := ⟨RX16, "readProduct", "()LFilterForgeModel$Sum;"⟩
abbrev cX16_readAtom : ByteArray := prog_14_method_48_code
def yX16_readAtom : MethodName := ⟨RX16, "readAtom", "(I)LFilterForgeModel$Sum;"⟩
abbrev cX16_matches : ByteArray := prog_14_method_62_code
def yX16_matches : MethodName := ⟨RX16, "matches", "()I"⟩
abbrev cX16_compile : ByteArray := prog_14_method_86_code
def yX16_compile : MethodName := ⟨RX16, "compile", "()I"⟩
abbrev cX16_load : ByteArray := prog_14_method_89_code
def yX16_load : MethodName := ⟨RX16, "load", "()I"⟩
abbrev cX16_instruction : ByteArray := prog_14_method_90_code
def yX16_instruction : MethodName := ⟨RX16, "instruction", "(I)J"⟩
abbrev cX16_run : ByteArray := prog_14_method_105_code
def yX16_run : MethodName := ⟨RX16, "run", "(I)J"⟩
abbrev cX16_ended : ByteArray := prog_14_method_106_code
def yX16_ended : MethodName := ⟨RX16, "ended", "(I)I"⟩
abbrev cX16_register : ByteArray := prog_14_method_107_code
def yX16_register : MethodName := ⟨RX16, "register", "(I)J"⟩
abbrev cX16_stack : ByteArray := prog_14_method_108_code
def yX16_stack : MethodName := ⟨RX16, "stack", "(I)I"⟩
abbrev cX16_verify : ByteArray := prog_14_method_142_code
def yX16_verify : MethodName := ⟨RX16, "verify", "()I"⟩
abbrev cX16_known : ByteArray := prog_14_method_143_code
def yX16_known : MethodName := ⟨RX16, "known", "(III)J"⟩
abbrev cX16_translate : ByteArray := prog_14_method_165_code
def yX16_translate : MethodName := ⟨RX16, "translate", "()I"⟩
abbrev cX16_raw : ByteArray := prog_14_method_167_code
def yX16_raw : MethodName := ⟨RX16, "raw", "()I"⟩
abbrev cX16_word : ByteArray := prog_14_method_168_code
def yX16_word : MethodName := ⟨RX16, "word", "(I)I"⟩
abbrev cX16_emulate : ByteArray := prog_14_method_183_code
def yX16_emulate : MethodName := ⟨RX16, "emulate", "(I)J"⟩
abbrev cX16_count : ByteArray := prog_14_method_184_code
def yX16_count : MethodName := ⟨RX16, "count", "(I)I"⟩
theorem mhX0_init : (yX0_init.cls ≠ "java/lang/invoke/MethodHandle" ∧ yX0_init.cls ≠ "java/lang/invoke/VarHandle" ∧ (parseMethodDescriptor yX0_init.desc).map (fun d => d.parameters.length) = some 2) := by decide +kernel
theorem mhX1_init : (yX1_init.cls ≠ "java/lang/invoke/MethodHandle" ∧ yX1_init.cls ≠ "java/lang/invoke/VarHandle" ∧ (parseMethodDescriptor yX1_init.desc).map (fun d => d.parameters.length) = some 0) := by decide +kernel
theorem mhX2_init : (yX2_init.cls ≠ "java/lang/invoke/MethodHandle" ∧ yX2_init.cls ≠ "java/lang/invoke/VarHandle" ∧ (parseMethodDescriptor yX2_init.desc).map (fun d => d.parameters.length) = some 0) := by decide +kernel
theorem mhX2_clear : (yX2_clear.cls ≠ "java/lang/invoke/MethodHandle" ∧ yX2_clear.cls ≠ "java/lang/invoke/VarHandle" ∧ (parseMethodDescriptor yX2_clear.desc).map (fun d => d.parameters.length) = some 0) := by decide +kernel
theorem mhX2_newLabel : (yX2_newLabel.cls ≠ "java/lang/invoke/MethodHandle" ∧ yX2_newLabel.cls ≠ "java/lang/invoke/VarHandle" ∧ (parseMethodDescriptor yX2_newLabel.desc).map (fun d => d.parameters.length) = some 0) := by decide +kernel
theorem mhX2_joinLabel : (yX2_joinLabel.cls ≠ "java/lang/invoke/MethodHandle" ∧ yX2_joinLabel.cls ≠ "java/lang/invoke/VarHandle" ∧ (parseMethodDescriptor yX2_joinLabel.desc).map (fun d => d.parameters.length) = some 2) := by decide +kernel
theorem mhX3_init : (yX3_init.cls ≠ "java/lang/invoke/MethodHandle" ∧ yX3_init.cls ≠ "java/lang/invoke/VarHandle" ∧ (parseMethodDescriptor yX3_init.desc).map (fun d => d.parameters.length) = some 1) := by decide +kernel
theorem mhX3_look : (yX3_look.cls ≠ "java/lang/invoke/MethodHandle" ∧ yX3_look.cls ≠ "java/lang/invoke/VarHandle" ∧ (parseMethodDescriptor yX3_look.desc).map (fun d => d.parameters.length) = some 1) := by decide +kernel
theorem mhX3_tell : (yX3_tell.cls ≠ "java/lang/invoke/MethodHandle" ∧ yX3_tell.cls ≠ "java/lang/invoke/VarHandle" ∧ (parseMethodDescriptor yX3_tell.desc).map (fun d => d.parameters.length) = some 3) := by decide +kernel
theorem mhX4_init : (yX4_init.cls ≠ "java/lang/invoke/MethodHandle" ∧ yX4_init.cls ≠ "java/lang/invoke/VarHandle" ∧ (parseMethodDescriptor yX4_init.desc).map (fun d => d.parameters.length) = some 1) := by decide +kernel
theorem mhX5_init : (yX5_init.cls ≠ "java/lang/invoke/MethodHandle" ∧ yX5_init.cls ≠ "java/lang/invoke/VarHandle" ∧ (parseMethodDescriptor yX5_init.desc).map (fun d => d.parameters.length) = some 0) := by decide +kernel
theorem mhX5_takeTape : (yX5_takeTape.cls ≠ "java/lang/invoke/MethodHandle" ∧ yX5_takeTape.cls ≠ "java/lang/invoke/VarHandle" ∧ (parseMethodDescriptor yX5_takeTape.desc).map (fun d => d.parameters.length) = some 1) := by decide +kernel
theorem mhX5_at : (yX5_at.cls ≠ "java/lang/invoke/MethodHandle" ∧ yX5_at.cls ≠ "java/lang/invoke/VarHandle" ∧ (parseMethodDescriptor yX5_at.desc).map (fun d => d.parameters.length) = some 1) := by decide +kernel
theorem mhX6_init : (yX6_init.cls ≠ "java/lang/invoke/MethodHandle" ∧ yX6_init.cls ≠ "java/lang/invoke/VarHandle" ∧ (parseMethodDescriptor yX6_init.desc).map (fun d => d.parameters.length) = some 0) := by decide +kernel
theorem mhX6_add : (yX6_add.cls ≠ "java/lang/invoke/MethodHandle" ∧ yX6_add.cls ≠ "java/lang/invoke/VarHandle" ∧ (parseMethodDescriptor yX6_add.desc).map (fun d => d.parameters.length) = some 1) := by decide +kernel
theorem mhX6_lengthOf : (yX6_lengthOf.cls ≠ "java/lang/invoke/MethodHandle" ∧ yX6_lengthOf.cls ≠ "java/lang/invoke/VarHandle" ∧ (parseMethodDescriptor yX6_lengthOf.desc).map (fun d => d.parameters.length) = some 1) := by decide +kernel
theorem mhX6_at : (yX6_at.cls ≠ "java/lang/invoke/MethodHandle" ∧ yX6_at.cls ≠ "java/lang/invoke/VarHandle" ∧ (parseMethodDescriptor yX6_at.desc).map (fun d => d.parameters.length) = some 2) := by decide +kernel
theorem mhX6_eightFrom : (yX6_eightFrom.cls ≠ "java/lang/invoke/MethodHandle" ∧ yX6_eightFrom.cls ≠ "java/lang/invoke/VarHandle" ∧ (parseMethodDescriptor yX6_eightFrom.desc).map (fun d => d.parameters.length) = some 2) := by decide +kernel
theorem mhX7_init : (yX7_init.cls ≠ "java/lang/invoke/MethodHandle" ∧ yX7_init.cls ≠ "java/lang/invoke/VarHandle" ∧ (parseMethodDescriptor yX7_init.desc).map (fun d => d.parameters.length) = some 0) := by decide +kernel
theorem mhX7_takeTape : (yX7_takeTape.cls ≠ "java/lang/invoke/MethodHandle" ∧ yX7_takeTape.cls ≠ "java/lang/invoke/VarHandle" ∧ (parseMethodDescriptor yX7_takeTape.desc).map (fun d => d.parameters.length) = some 1) := by decide +kernel
theorem mhX7_at : (yX7_at.cls ≠ "java/lang/invoke/MethodHandle" ∧ yX7_at.cls ≠ "java/lang/invoke/VarHandle" ∧ (parseMethodDescriptor yX7_at.desc).map (fun d => d.parameters.length) = some 1) := by decide +kernel
theorem mhX8_init : (yX8_init.cls ≠ "java/lang/invoke/MethodHandle" ∧ yX8_init.cls ≠ "java/lang/invoke/VarHandle" ∧ (parseMethodDescriptor yX8_init.desc).map (fun d => d.parameters.length) = some 2) := by decide +kernel
theorem mhX8_begin : (yX8_begin.cls ≠ "java/lang/invoke/MethodHandle" ∧ yX8_begin.cls ≠ "java/lang/invoke/VarHandle" ∧ (parseMethodDescriptor yX8_begin.desc).map (fun d => d.parameters.length) = some 1) := by decide +kernel
theorem mhX8_wrongPlace : (yX8_wrongPlace.cls ≠ "java/lang/invoke/MethodHandle" ∧ yX8_wrongPlace.cls ≠ "java/lang/invoke/VarHandle" ∧ (parseMethodDescriptor yX8_wrongPlace.desc).map (fun d => d.parameters.length) = some 0) := by decide +kernel
theorem mhX8_fail : (yX8_fail.cls ≠ "java/lang/invoke/MethodHandle" ∧ yX8_fail.cls ≠ "java/lang/invoke/VarHandle" ∧ (parseMethodDescriptor yX8_fail.desc).map (fun d => d.parameters.length) = some 0) := by decide +kernel
theorem mhX8_next : (yX8_next.cls ≠ "java/lang/invoke/MethodHandle" ∧ yX8_next.cls ≠ "java/lang/invoke/VarHandle" ∧ (parseMethodDescriptor yX8_next.desc).map (fun d => d.parameters.length) = some 0) := by decide +kernel
theorem mhX8_behindBlanks : (yX8_behindBlanks.cls ≠ "java/lang/invoke/MethodHandle" ∧ yX8_behindBlanks.cls ≠ "java/lang/invoke/VarHandle" ∧ (parseMethodDescriptor yX8_behindBlanks.desc).map (fun d => d.parameters.length) = some 1) := by decide +kernel
theorem mhX8_isWord : (yX8_isWord.cls ≠ "java/lang/invoke/MethodHandle" ∧ yX8_isWord.cls ≠ "java/lang/invoke/VarHandle" ∧ (parseMethodDescriptor yX8_isWord.desc).map (fun d => d.parameters.length) = some 1) := by decide +kernel
theorem mhX8_protocol : (yX8_protocol.cls ≠ "java/lang/invoke/MethodHandle" ∧ yX8_protocol.cls ≠ "java/lang/invoke/VarHandle" ∧ (parseMethodDescriptor yX8_protocol.desc).map (fun d => d.parameters.length) = some 0) := by decide +kernel
theorem mhX8_number : (yX8_number.cls ≠ "java/lang/invoke/MethodHandle" ∧ yX8_number.cls ≠ "java/lang/invoke/VarHandle" ∧ (parseMethodDescriptor yX8_number.desc).map (fun d => d.parameters.length) = some 0) := by decide +kernel
theorem mhX8_readFilter : (yX8_readFilter.cls ≠ "java/lang/invoke/MethodHandle" ∧ yX8_readFilter.cls ≠ "java/lang/invoke/VarHandle" ∧ (parseMethodDescriptor yX8_readFilter.desc).map (fun d => d.parameters.length) = some 3) := by decide +kernel
theorem mhX8_readRow : (yX8_readRow.cls ≠ "java/lang/invoke/MethodHandle" ∧ yX8_readRow.cls ≠ "java/lang/invoke/VarHandle" ∧ (parseMethodDescriptor yX8_readRow.desc).map (fun d => d.parameters.length) = some 3) := by decide +kernel
theorem mhX8_readOne : (yX8_readOne.cls ≠ "java/lang/invoke/MethodHandle" ∧ yX8_readOne.cls ≠ "java/lang/invoke/VarHandle" ∧ (parseMethodDescriptor yX8_readOne.desc).map (fun d => d.parameters.length) = some 3) := by decide +kernel
theorem mhX8_beginsRelation : (yX8_beginsRelation.cls ≠ "java/lang/invoke/MethodHandle" ∧ yX8_beginsRelation.cls ≠ "java/lang/invoke/VarHandle" ∧ (parseMethodDescriptor yX8_beginsRelation.desc).map (fun d => d.parameters.length) = some 0) := by decide +kernel
theorem mhX8_readSided : (yX8_readSided.cls ≠ "java/lang/invoke/MethodHandle" ∧ yX8_readSided.cls ≠ "java/lang/invoke/VarHandle" ∧ (parseMethodDescriptor yX8_readSided.desc).map (fun d => d.parameters.length) = some 2) := by decide +kernel
theorem mhX8_readLength : (yX8_readLength.cls ≠ "java/lang/invoke/MethodHandle" ∧ yX8_readLength.cls ≠ "java/lang/invoke/VarHandle" ∧ (parseMethodDescriptor yX8_readLength.desc).map (fun d => d.parameters.length) = some 2) := by decide +kernel
theorem mhX9_init : (yX9_init.cls ≠ "java/lang/invoke/MethodHandle" ∧ yX9_init.cls ≠ "java/lang/invoke/VarHandle" ∧ (parseMethodDescriptor yX9_init.desc).map (fun d => d.parameters.length) = some 0) := by decide +kernel
theorem mhX9_hasRoom : (yX9_hasRoom.cls ≠ "java/lang/invoke/MethodHandle" ∧ yX9_hasRoom.cls ≠ "java/lang/invoke/VarHandle" ∧ (parseMethodDescriptor yX9_hasRoom.desc).map (fun d => d.parameters.length) = some 1) := by decide +kernel
theorem mhX9_put : (yX9_put.cls ≠ "java/lang/invoke/MethodHandle" ∧ yX9_put.cls ≠ "java/lang/invoke/VarHandle" ∧ (parseMethodDescriptor yX9_put.desc).map (fun d => d.parameters.length) = some 1) := by decide +kernel
theorem mhX9_at : (yX9_at.cls ≠ "java/lang/invoke/MethodHandle" ∧ yX9_at.cls ≠ "java/lang/invoke/VarHandle" ∧ (parseMethodDescriptor yX9_at.desc).map (fun d => d.parameters.length) = some 1) := by decide +kernel
theorem mhX10_init : (yX10_init.cls ≠ "java/lang/invoke/MethodHandle" ∧ yX10_init.cls ≠ "java/lang/invoke/VarHandle" ∧ (parseMethodDescriptor yX10_init.desc).map (fun d => d.parameters.length) = some 2) := by decide +kernel
theorem mhX11_init : (yX11_init.cls ≠ "java/lang/invoke/MethodHandle" ∧ yX11_init.cls ≠ "java/lang/invoke/VarHandle" ∧ (parseMethodDescriptor yX11_init.desc).map (fun d => d.parameters.length) = some 0) := by decide +kernel
theorem mhX11_feed : (yX11_feed.cls ≠ "java/lang/invoke/MethodHandle" ∧ yX11_feed.cls ≠ "java/lang/invoke/VarHandle" ∧ (parseMethodDescriptor yX11_feed.desc).map (fun d => d.parameters.length) = some 5) := by decide +kernel
theorem mhX11_end : (yX11_end.cls ≠ "java/lang/invoke/MethodHandle" ∧ yX11_end.cls ≠ "java/lang/invoke/VarHandle" ∧ (parseMethodDescriptor yX11_end.desc).map (fun d => d.parameters.length) = some 1) := by decide +kernel
theorem mhX11_packet : (yX11_packet.cls ≠ "java/lang/invoke/MethodHandle" ∧ yX11_packet.cls ≠ "java/lang/invoke/VarHandle" ∧ (parseMethodDescriptor yX11_packet.desc).map (fun d => d.parameters.length) = some 0) := by decide +kernel
theorem mhX11_bytes : (yX11_bytes.cls ≠ "java/lang/invoke/MethodHandle" ∧ yX11_bytes.cls ≠ "java/lang/invoke/VarHandle" ∧ (parseMethodDescriptor yX11_bytes.desc).map (fun d => d.parameters.length) = some 2) := by decide +kernel
theorem mhX11_compile : (yX11_compile.cls ≠ "java/lang/invoke/MethodHandle" ∧ yX11_compile.cls ≠ "java/lang/invoke/VarHandle" ∧ (parseMethodDescriptor yX11_compile.desc).map (fun d => d.parameters.length) = some 0) := by decide +kernel
theorem mhX11_load : (yX11_load.cls ≠ "java/lang/invoke/MethodHandle" ∧ yX11_load.cls ≠ "java/lang/invoke/VarHandle" ∧ (parseMethodDescriptor yX11_load.desc).map (fun d => d.parameters.length) = some 0) := by decide +kernel
theorem mhX11_instruction : (yX11_instruction.cls ≠ "java/lang/invoke/MethodHandle" ∧ yX11_instruction.cls ≠ "java/lang/invoke/VarHandle" ∧ (parseMethodDescriptor yX11_instruction.desc).map (fun d => d.parameters.length) = some 1) := by decide +kernel
theorem mhX11_verify : (yX11_verify.cls ≠ "java/lang/invoke/MethodHandle" ∧ yX11_verify.cls ≠ "java/lang/invoke/VarHandle" ∧ (parseMethodDescriptor yX11_verify.desc).map (fun d => d.parameters.length) = some 0) := by decide +kernel
theorem mhX11_known : (yX11_known.cls ≠ "java/lang/invoke/MethodHandle" ∧ yX11_known.cls ≠ "java/lang/invoke/VarHandle" ∧ (parseMethodDescriptor yX11_known.desc).map (fun d => d.parameters.length) = some 3) := by decide +kernel
theorem mhX11_run : (yX11_run.cls ≠ "java/lang/invoke/MethodHandle" ∧ yX11_run.cls ≠ "java/lang/invoke/VarHandle" ∧ (parseMethodDescriptor yX11_run.desc).map (fun d => d.parameters.length) = some 1) := by decide +kernel
theorem mhX11_translate : (yX11_translate.cls ≠ "java/lang/invoke/MethodHandle" ∧ yX11_translate.cls ≠ "java/lang/invoke/VarHandle" ∧ (parseMethodDescriptor yX11_translate.desc).map (fun d => d.parameters.length) = some 0) := by decide +kernel
theorem mhX11_raw : (yX11_raw.cls ≠ "java/lang/invoke/MethodHandle" ∧ yX11_raw.cls ≠ "java/lang/invoke/VarHandle" ∧ (parseMethodDescriptor yX11_raw.desc).map (fun d => d.parameters.length) = some 0) := by decide +kernel
theorem mhX11_word : (yX11_word.cls ≠ "java/lang/invoke/MethodHandle" ∧ yX11_word.cls ≠ "java/lang/invoke/VarHandle" ∧ (parseMethodDescriptor yX11_word.desc).map (fun d => d.parameters.length) = some 1) := by decide +kernel
theorem mhX11_emulate : (yX11_emulate.cls ≠ "java/lang/invoke/MethodHandle" ∧ yX11_emulate.cls ≠ "java/lang/invoke/VarHandle" ∧ (parseMethodDescriptor yX11_emulate.desc).map (fun d => d.parameters.length) = some 1) := by decide +kernel
theorem mhX11_ended : (yX11_ended.cls ≠ "java/lang/invoke/MethodHandle" ∧ yX11_ended.cls ≠ "java/lang/invoke/VarHandle" ∧ (parseMethodDescriptor yX11_ended.desc).map (fun d => d.parameters.length) = some 1) := by decide +kernel
theorem mhX11_register : (yX11_register.cls ≠ "java/lang/invoke/MethodHandle" ∧ yX11_register.cls ≠ "java/lang/invoke/VarHandle" ∧ (parseMethodDescriptor yX11_register.desc).map (fun d => d.parameters.length) = some 1) := by decide +kernel
theorem mhX11_stack : (yX11_stack.cls ≠ "java/lang/invoke/MethodHandle" ∧ yX11_stack.cls ≠ "java/lang/invoke/VarHandle" ∧ (parseMethodDescriptor yX11_stack.desc).map (fun d => d.parameters.length) = some 1) := by decide +kernel
theorem mhX11_matches : (yX11_matches.cls ≠ "java/lang/invoke/MethodHandle" ∧ yX11_matches.cls ≠ "java/lang/invoke/VarHandle" ∧ (parseMethodDescriptor yX11_matches.desc).map (fun d => d.parameters.length) = some 0) := by decide +kernel
theorem mhX11_count : (yX11_count.cls ≠ "java/lang/invoke/MethodHandle" ∧ yX11_count.cls ≠ "java/lang/invoke/VarHandle" ∧ (parseMethodDescriptor yX11_count.desc).map (fun d => d.parameters.length) = some 1) := by decide +kernel
theorem mhX15_init : (yX15_init.cls ≠ "java/lang/invoke/MethodHandle" ∧ yX15_init.cls ≠ "java/lang/invoke/VarHandle" ∧ (parseMethodDescriptor yX15_init.desc).map (fun d => d.parameters.length) = some 1) := by decide +kernel
theorem mhX16_init : (yX16_init.cls ≠ "java/lang/invoke/MethodHandle" ∧ yX16_init.cls ≠ "java/lang/invoke/VarHandle" ∧ (parseMethodDescriptor yX16_init.desc).map (fun d => d.parameters.length) = some 0) := by decide +kernel
theorem mhX16_feed : (yX16_feed.cls ≠ "java/lang/invoke/MethodHandle" ∧ yX16_feed.cls ≠ "java/lang/invoke/VarHandle" ∧ (parseMethodDescriptor yX16_feed.desc).map (fun d => d.parameters.length) = some 5) := by decide +kernel
theorem mhX16_feedOne : (yX16_feedOne.cls ≠ "java/lang/invoke/MethodHandle" ∧ yX16_feedOne.cls ≠ "java/lang/invoke/VarHandle" ∧ (parseMethodDescriptor yX16_feedOne.desc).map (fun d => d.parameters.length) = some 1) := by decide +kernel
theorem mhX16_end : (yX16_end.cls ≠ "java/lang/invoke/MethodHandle" ∧ yX16_end.cls ≠ "java/lang/invoke/VarHandle" ∧ (parseMethodDescriptor yX16_end.desc).map (fun d => d.parameters.length) = some 1) := by decide +kernel
theorem mhX16_packet : (yX16_packet.cls ≠ "java/lang/invoke/MethodHandle" ∧ yX16_packet.cls ≠ "java/lang/invoke/VarHandle" ∧ (parseMethodDescriptor yX16_packet.desc).map (fun d => d.parameters.length) = some 0) := by decide +kernel
theorem mhX16_isPacket : (yX16_isPacket.cls ≠ "java/lang/invoke/MethodHandle" ∧ yX16_isPacket.cls ≠ "java/lang/invoke/VarHandle" ∧ (parseMethodDescriptor yX16_isPacket.desc).map (fun d => d.parameters.length) = some 1) := by decide +kernel
theorem mhX16_bytes : (yX16_bytes.cls ≠ "java/lang/invoke/MethodHandle" ∧ yX16_bytes.cls ≠ "java/lang/invoke/VarHandle" ∧ (parseMethodDescriptor yX16_bytes.desc).map (fun d => d.parameters.length) = some 2) := by decide +kernel
theorem mhX16_next : (yX16_next.cls ≠ "java/lang/invoke/MethodHandle" ∧ yX16_next.cls ≠ "java/lang/invoke/VarHandle" ∧ (parseMethodDescriptor yX16_next.desc).map (fun d => d.parameters.length) = some 0) := by decide +kernel
theorem mhX16_must : (yX16_must.cls ≠ "java/lang/invoke/MethodHandle" ∧ yX16_must.cls ≠ "java/lang/invoke/VarHandle" ∧ (parseMethodDescriptor yX16_must.desc).map (fun d => d.parameters.length) = some 1) := by decide +kernel
theorem mhX16_is : (yX16_is.cls ≠ "java/lang/invoke/MethodHandle" ∧ yX16_is.cls ≠ "java/lang/invoke/VarHandle" ∧ (parseMethodDescriptor yX16_is.desc).map (fun d => d.parameters.length) = some 1) := by decide +kernel
theorem mhX16_number : (yX16_number.cls ≠ "java/lang/invoke/MethodHandle" ∧ yX16_number.cls ≠ "java/lang/invoke/VarHandle" ∧ (parseMethodDescriptor yX16_number.desc).map (fun d => d.parameters.length) = some 0) := by decide +kernel
theorem mhX16_wantNumber : (yX16_wantNumber.cls ≠ "java/lang/invoke/MethodHandle" ∧ yX16_wantNumber.cls ≠ "java/lang/invoke/VarHandle" ∧ (parseMethodDescriptor yX16_wantNumber.desc).map (fun d => d.parameters.length) = some 2) := by decide +kernel
theorem mhX16_readFilter : (yX16_readFilter.cls ≠ "java/lang/invoke/MethodHandle" ∧ yX16_readFilter.cls ≠ "java/lang/invoke/VarHandle" ∧ (parseMethodDescriptor yX16_readFilter.desc).map (fun d => d.parameters.length) = some 0) := by decide +kernel
theorem mhX16_readAll : (yX16_readAll.cls ≠ "java/lang/invoke/MethodHandle" ∧ yX16_readAll.cls ≠ "java/lang/invoke/VarHandle" ∧ (parseMethodDescriptor yX16_readAll.desc).map (fun d => d.parameters.length) = some 0) := by decide +kernel
theorem mhX16_readOne : (yX16_readOne.cls ≠ "java/lang/invoke/MethodHandle" ∧ yX16_readOne.cls ≠ "java/lang/invoke/VarHandle" ∧ (parseMethodDescriptor yX16_readOne.desc).map (fun d => d.parameters.length) = some 0) := by decide +kernel
theorem mhX16_accessOf : (yX16_accessOf.cls ≠ "java/lang/invoke/MethodHandle" ∧ yX16_accessOf.cls ≠ "java/lang/invoke/VarHandle" ∧ (parseMethodDescriptor yX16_accessOf.desc).map (fun d => d.parameters.length) = some 0) := by decide +kernel
theorem mhX16_readRelation : (yX16_readRelation.cls ≠ "java/lang/invoke/MethodHandle" ∧ yX16_readRelation.cls ≠ "java/lang/invoke/VarHandle" ∧ (parseMethodDescriptor yX16_readRelation.desc).map (fun d => d.parameters.length) = some 0) := by decide +kernel
theorem mhX16_readSum : (yX16_readSum.cls ≠ "java/lang/invoke/MethodHandle" ∧ yX16_readSum.cls ≠ "java/lang/invoke/VarHandle" ∧ (parseMethodDescriptor yX16_readSum.desc).map (fun d => d.parameters.length) = some 0) := by decide +kernel
theorem mhX16_readProduct : (yX16_readProduct.cls ≠ "java/lang/invoke/MethodHandle" ∧ yX16_readProduct.cls ≠ "java/lang/invoke/VarHandle" ∧ (parseMethodDescriptor yX16_readProduct.desc).map (fun d => d.parameters.length) = some 0) := by decide +kernel
theorem mhX16_readAtom : (yX16_readAtom.cls ≠ "java/lang/invoke/MethodHandle" ∧ yX16_readAtom.cls ≠ "java/lang/invoke/VarHandle" ∧ (parseMethodDescriptor yX16_readAtom.desc).map (fun d => d.parameters.length) = some 1) := by decide +kernel
theorem mhX16_matches : (yX16_matches.cls ≠ "java/lang/invoke/MethodHandle" ∧ yX16_matches.cls ≠ "java/lang/invoke/VarHandle" ∧ (parseMethodDescriptor yX16_matches.desc).map (fun d => d.parameters.length) = some 0) := by decide +kernel
theorem mhX16_compile : (yX16_compile.cls ≠ "java/lang/invoke/MethodHandle" ∧ yX16_compile.cls ≠ "java/lang/invoke/VarHandle" ∧ (parseMethodDescriptor yX16_compile.desc).map (fun d => d.parameters.length) = some 0) := by decide +kernel
theorem mhX16_load : (yX16_load.cls ≠ "java/lang/invoke/MethodHandle" ∧ yX16_load.cls ≠ "java/lang/invoke/VarHandle" ∧ (parseMethodDescriptor yX16_load.desc).map (fun d => d.parameters.length) = some 0) := by decide +kernel
theorem mhX16_instruction : (yX16_instruction.cls ≠ "java/lang/invoke/MethodHandle" ∧ yX16_instruction.cls ≠ "java/lang/invoke/VarHandle" ∧ (parseMethodDescriptor yX16_instruction.desc).map (fun d => d.parameters.length) = some 1) := by decide +kernel
theorem mhX16_run : (yX16_run.cls ≠ "java/lang/invoke/MethodHandle" ∧ yX16_run.cls ≠ "java/lang/invoke/VarHandle" ∧ (parseMethodDescriptor yX16_run.desc).map (fun d => d.parameters.length) = some 1) := by decide +kernel
theorem mhX16_ended : (yX16_ended.cls ≠ "java/lang/invoke/MethodHandle" ∧ yX16_ended.cls ≠ "java/lang/invoke/VarHandle" ∧ (parseMethodDescriptor yX16_ended.desc).map (fun d => d.parameters.length) = some 1) := by decide +kernel
theorem mhX16_register : (yX16_register.cls ≠ "java/lang/invoke/MethodHandle" ∧ yX16_register.cls ≠ "java/lang/invoke/VarHandle" ∧ (parseMethodDescriptor yX16_register.desc).map (fun d => d.parameters.length) = some 1) := by decide +kernel
theorem mhX16_stack : (yX16_stack.cls ≠ "java/lang/invoke/MethodHandle" ∧ yX16_stack.cls ≠ "java/lang/invoke/VarHandle" ∧ (parseMethodDescriptor yX16_stack.desc).map (fun d => d.parameters.length) = some 1) := by decide +kernel
theorem mhX16_verify : (yX16_verify.cls ≠ "java/lang/invoke/MethodHandle" ∧ yX16_verify.cls ≠ "java/lang/invoke/VarHandle" ∧ (parseMethodDescriptor yX16_verify.desc).map (fun d => d.parameters.length) = some 0) := by decide +kernel
theorem mhX16_known : (yX16_known.cls ≠ "java/lang/invoke/MethodHandle" ∧ yX16_known.cls ≠ "java/lang/invoke/VarHandle" ∧ (parseMethodDescriptor yX16_known.desc).map (fun d => d.parameters.length) = some 3) := by decide +kernel
theorem mhX16_translate : (yX16_translate.cls ≠ "java/lang/invoke/MethodHandle" ∧ yX16_translate.cls ≠ "java/lang/invoke/VarHandle" ∧ (parseMethodDescriptor yX16_translate.desc).map (fun d => d.parameters.length) = some 0) := by decide +kernel
theorem mhX16_raw : (yX16_raw.cls ≠ "java/lang/invoke/MethodHandle" ∧ yX16_raw.cls ≠ "java/lang/invoke/VarHandle" ∧ (parseMethodDescriptor yX16_raw.desc).map (fun d => d.parameters.length) = some 0) := by decide +kernel
theorem mhX16_word : (yX16_word.cls ≠ "java/lang/invoke/MethodHandle" ∧ yX16_word.cls ≠ "java/lang/invoke/VarHandle" ∧ (parseMethodDescriptor yX16_word.desc).map (fun d => d.parameters.length) = some 1) := by decide +kernel
theorem mhX16_emulate : (yX16_emulate.cls ≠ "java/lang/invoke/MethodHandle" ∧ yX16_emulate.cls ≠ "java/lang/invoke/VarHandle" ∧ (parseMethodDescriptor yX16_emulate.desc).map (fun d => d.parameters.length) = some 1) := by decide +kernel
theorem mhX16_count : (yX16_count.cls ≠ "java/lang/invoke/MethodHandle" ∧ yX16_count.cls ≠ "java/lang/invoke/VarHandle" ∧ (parseMethodDescriptor yX16_count.desc).map (fun d => d.parameters.length) = some 1) := by decide +kernel
abbrev vwCl : List vw_C := [(RX0, TX0, 5), (RX1, TX1, 5), (RX2, TX2, 18), (RX3, TX3, 14), (RX4, TX4, 10), (RX5, TX5, 2), (RX6, TX6, 3), (RX7, TX7, 2), (RX8, TX8, 6), (RX9, TX9, 2), (RX10, TX10, 5), (RX11, TX11, 14), (RX12, TX12, 7), (RX13, TX13, 6), (RX14, TX14, 5), (RX15, TX15, 7), (RX16, TX16, 78)]
end
section
theorem dX0_init_0 : decode cX0_init 0 = .ok (.aload_n 0, 1) := by decide +kernel
theorem dX0_init_1 : decode cX0_init 1 = .ok (.invokespecial 3, 3) := by decide +kernel
theorem dX0_init_4 : decode cX0_init 4 = .ok (.aload_n 0, 1) := by decide +kernel
theorem dX0_init_5 : decode cX0_init 5 = .ok (.sipush 3002, 3) := by decide +kernel
theorem dX0_init_8 : decode cX0_init 8 = .ok (.newarray .int, 2) := by decide +kernel
theorem dX0_init_10 : decode cX0_init 10 = .ok (.putfield 11, 3) := by decide +kernel
theorem dX0_init_13 : decode cX0_init 13 = .ok (.aload_n 0, 1) := by decide +kernel
theorem dX0_init_14 : decode cX0_init 14 = .ok (.sipush 4000, 3) := by decide +kernel
theorem dX0_init_17 : decode cX0_init 17 = .ok (.newarray .int, 2) := by decide +kernel
theorem dX0_init_19 : decode cX0_init 19 = .ok (.putfield 19, 3) := by decide +kernel
theorem dX0_init_22 : decode cX0_init 22 = .ok (.aload_n 0, 1) := by decide +kernel
theorem dX0_init_23 : decode cX0_init 23 = .ok (.aload_n 1, 1) := by decide +kernel
theorem dX0_init_24 : decode cX0_init 24 = .ok (.putfield 22, 3) := by decide +kernel
theorem dX0_init_27 : decode cX0_init 27 = .ok (.aload_n 0, 1) := by decide +kernel
theorem dX0_init_28 : decode cX0_init 28 = .ok (.aload_n 2, 1) := by decide +kernel
theorem dX0_init_29 : decode cX0_init 29 = .ok (.putfield 26, 3) := by decide +kernel
theorem dX0_init_32 : decode cX0_init 32 = .ok (.return_, 1) := by decide +kernel
theorem dX1_init_0 : decode cX1_init 0 = .ok (.aload_n 0, 1) := by decide +kernel
theorem dX1_init_1 : decode cX1_init 1 = .ok (.invokespecial 3, 3) := by decide +kernel
theorem dX1_init_4 : decode cX1_init 4 = .ok (.return_, 1) := by decide +kernel
theorem dX2_init_0 : decode cX2_init 0 = .ok (.aload_n 0, 1) := by decide +kernel
theorem dX2_init_1 : decode cX2_init 1 = .ok (.invokespecial 3, 3) := by decide +kernel
theorem dX2_init_4 : decode cX2_init 4 = .ok (.aload_n 0, 1) := by decide +kernel
theorem dX2_init_5 : decode cX2_init 5 = .ok (.sipush 7000, 3) := by decide +kernel
theorem dX2_init_8 : decode cX2_init 8 = .ok (.newarray .int, 2) := by decide +kernel
theorem dX2_init_10 : decode cX2_init 10 = .ok (.putfield 11, 3) := by decide +kernel
theorem dX2_init_13 : decode cX2_init 13 = .ok (.aload_n 0, 1) := by decide +kernel
theorem dX2_init_14 : decode cX2_init 14 = .ok (.sipush 7000, 3) := by decide +kernel
theorem dX2_init_17 : decode cX2_init 17 = .ok (.newarray .int, 2) := by decide +kernel
theorem dX2_init_19 : decode cX2_init 19 = .ok (.putfield 15, 3) := by decide +kernel
theorem dX2_init_22 : decode cX2_init 22 = .ok (.aload_n 0, 1) := by decide +kernel
theorem dX2_init_23 : decode cX2_init 23 = .ok (.sipush 7000, 3) := by decide +kernel
theorem dX2_init_26 : decode cX2_init 26 = .ok (.newarray .int, 2) := by decide +kernel
theorem dX2_init_28 : decode cX2_init 28 = .ok (.putfield 18, 3) := by decide +kernel
theorem dX2_init_31 : decode cX2_init 31 = .ok (.aload_n 0, 1) := by decide +kernel
theorem dX2_init_32 : decode cX2_init 32 = .ok (.sipush 3000, 3) := by decide +kernel
theorem dX2_init_35 : decode cX2_init 35 = .ok (.newarray .int, 2) := by decide +kernel
theorem dX2_init_37 : decode cX2_init 37 = .ok (.putfield 21, 3) := by decide +kernel
theorem dX2_init_40 : decode cX2_init 40 = .ok (.aload_n 0, 1) := by decide +kernel
theorem dX2_init_41 : decode cX2_init 41 = .ok (.sipush 3000, 3) := by decide +kernel
theorem dX2_init_44 : decode cX2_init 44 = .ok (.newarray .int, 2) := by decide +kernel
theorem dX2_init_46 : decode cX2_init 46 = .ok (.putfield 24, 3) := by decide +kernel
theorem dX2_init_49 : decode cX2_init 49 = .ok (.aload_n 0, 1) := by decide +kernel
theorem dX2_init_50 : decode cX2_init 50 = .ok (.sipush 3000, 3) := by decide +kernel
theorem dX2_init_53 : decode cX2_init 53 = .ok (.newarray .int, 2) := by decide +kernel
theorem dX2_init_55 : decode cX2_init 55 = .ok (.putfield 27, 3) := by decide +kernel
theorem dX2_init_58 : decode cX2_init 58 = .ok (.aload_n 0, 1) := by decide +kernel
theorem dX2_init_59 : decode cX2_init 59 = .ok (.sipush 3000, 3) := by decide +kernel
theorem dX2_init_62 : decode cX2_init 62 = .ok (.newarray .int, 2) := by decide +kernel
theorem dX2_init_64 : decode cX2_init 64 = .ok (.putfield 30, 3) := by decide +kernel
theorem dX2_init_67 : decode cX2_init 67 = .ok (.aload_n 0, 1) := by decide +kernel
theorem dX2_init_68 : decode cX2_init 68 = .ok (.sipush 3000, 3) := by decide +kernel
theorem dX2_init_71 : decode cX2_init 71 = .ok (.newarray .int, 2) := by decide +kernel
theorem dX2_init_73 : decode cX2_init 73 = .ok (.putfield 33, 3) := by decide +kernel
theorem dX2_init_76 : decode cX2_init 76 = .ok (.aload_n 0, 1) := by decide +kernel
theorem dX2_init_77 : decode cX2_init 77 = .ok (.sipush 3000, 3) := by decide +kernel
theorem dX2_init_80 : decode cX2_init 80 = .ok (.newarray .int, 2) := by decide +kernel
theorem dX2_init_82 : decode cX2_init 82 = .ok (.putfield 36, 3) := by decide +kernel
theorem dX2_init_85 : decode cX2_init 85 = .ok (.aload_n 0, 1) := by decide +kernel
theorem dX2_init_86 : decode cX2_init 86 = .ok (.sipush 3000, 3) := by decide +kernel
theorem dX2_init_89 : decode cX2_init 89 = .ok (.newarray .boolean, 2) := by decide +kernel
theorem dX2_init_91 : decode cX2_init 91 = .ok (.putfield 39, 3) := by decide +kernel
theorem dX2_init_94 : decode cX2_init 94 = .ok (.aload_n 0, 1) := by decide +kernel
theorem dX2_init_95 : decode cX2_init 95 = .ok (.sipush 5000, 3) := by decide +kernel
theorem dX2_init_98 : decode cX2_init 98 = .ok (.newarray .int, 2) := by decide +kernel
theorem dX2_init_100 : decode cX2_init 100 = .ok (.putfield 43, 3) := by decide +kernel
theorem dX2_init_103 : decode cX2_init 103 = .ok (.aload_n 0, 1) := by decide +kernel
theorem dX2_init_104 : decode cX2_init 104 = .ok (.bipush 6, 2) := by decide +kernel
theorem dX2_init_106 : decode cX2_init 106 = .ok (.newarray .int, 2) := by decide +kernel
theorem dX2_init_108 : decode cX2_init 108 = .ok (.putfield 46, 3) := by decide +kernel
theorem dX2_init_111 : decode cX2_init 111 = .ok (.aload_n 0, 1) := by decide +kernel
theorem dX2_init_112 : decode cX2_init 112 = .ok (.bipush 8, 2) := by decide +kernel
theorem dX2_init_114 : decode cX2_init 114 = .ok (.newarray .long, 2) := by decide +kernel
theorem dX2_init_116 : decode cX2_init 116 = .ok (.putfield 49, 3) := by decide +kernel
theorem dX2_init_119 : decode cX2_init 119 = .ok (.return_, 1) := by decide +kernel
theorem dX2_clear_0 : decode cX2_clear 0 = .ok (.aload_n 0, 1) := by decide +kernel
theorem dX2_clear_1 : decode cX2_clear 1 = .ok (.iconst 0, 1) := by decide +kernel
theorem dX2_clear_2 : decode cX2_clear 2 = .ok (.putfield 53, 3) := by decide +kernel
theorem dX2_clear_5 : decode cX2_clear 5 = .ok (.aload_n 0, 1) := by decide +kernel
theorem dX2_clear_6 : decode cX2_clear 6 = .ok (.iconst 0, 1) := by decide +kernel
theorem dX2_clear_7 : decode cX2_clear 7 = .ok (.putfield 57, 3) := by decide +kernel
theorem dX2_clear_10 : decode cX2_clear 10 = .ok (.aload_n 0, 1) := by decide +kernel
theorem dX2_clear_11 : decode cX2_clear 11 = .ok (.iconst 0, 1) := by decide +kernel
theorem dX2_clear_12 : decode cX2_clear 12 = .ok (.putfield 60, 3) := by decide +kernel
theorem dX2_clear_15 : decode cX2_clear 15 = .ok (.aload_n 0, 1) := by decide +kernel
theorem dX2_clear_16 : decode cX2_clear 16 = .ok (.iconst 2, 1) := by decide +kernel
theorem dX2_clear_17 : decode cX2_clear 17 = .ok (.putfield 63, 3) := by decide +kernel
theorem dX2_clear_20 : decode cX2_clear 20 = .ok (.return_, 1) := by decide +kernel
theorem dX2_newLabel_0 : decode cX2_newLabel 0 = .ok (.aload_n 0, 1) := by decide +kernel
theorem dX2_newLabel_1 : decode cX2_newLabel 1 = .ok (.getfield 63, 3) := by decide +kernel
theorem dX2_newLabel_4 : decode cX2_newLabel 4 = .ok (.sipush 5000, 3) := by decide +kernel
theorem dX2_newLabel_7 : decode cX2_newLabel 7 = .ok (.if_icmp .ge 13, 3) := by decide +kernel
theorem dX2_newLabel_10 : decode cX2_newLabel 10 = .ok (.aload_n 0, 1) := by decide +kernel
theorem dX2_newLabel_11 : decode cX2_newLabel 11 = .ok (.dup, 1) := by decide +kernel
theorem dX2_newLabel_12 : decode cX2_newLabel 12 = .ok (.getfield 63, 3) := by decide +kernel
theorem dX2_newLabel_15 : decode cX2_newLabel 15 = .ok (.iconst 1, 1) := by decide +kernel
theorem dX2_newLabel_16 : decode cX2_newLabel 16 = .ok (.iadd, 1) := by decide +kernel
theorem dX2_newLabel_17 : decode cX2_newLabel 17 = .ok (.putfield 63, 3) := by decide +kernel
theorem dX2_newLabel_20 : decode cX2_newLabel 20 = .ok (.aload_n 0, 1) := by decide +kernel
theorem dX2_newLabel_21 : decode cX2_newLabel 21 = .ok (.getfield 63, 3) := by decide +kernel
theorem dX2_newLabel_24 : decode cX2_newLabel 24 = .ok (.iconst 1, 1) := by decide +kernel
theorem dX2_newLabel_25 : decode cX2_newLabel 25 = .ok (.isub, 1) := by decide +kernel
theorem dX2_newLabel_26 : decode cX2_newLabel 26 = .ok (.ireturn, 1) := by decide +kernel
theorem dX2_joinLabel_0 : decode cX2_joinLabel 0 = .ok (.iload_n 1, 1) := by decide +kernel
theorem dX2_joinLabel_1 : decode cX2_joinLabel 1 = .ok (.ifCond .lt 20, 3) := by decide +kernel
theorem dX2_joinLabel_4 : decode cX2_joinLabel 4 = .ok (.iload_n 1, 1) := by decide +kernel
theorem dX2_joinLabel_5 : decode cX2_joinLabel 5 = .ok (.aload_n 0, 1) := by decide +kernel
theorem dX2_joinLabel_6 : decode cX2_joinLabel 6 = .ok (.getfield 63, 3) := by decide +kernel
theorem dX2_joinLabel_9 : decode cX2_joinLabel 9 = .ok (.if_icmp .ge 12, 3) := by decide +kernel
theorem dX2_joinLabel_12 : decode cX2_joinLabel 12 = .ok (.aload_n 0, 1) := by decide +kernel
theorem dX2_joinLabel_13 : decode cX2_joinLabel 13 = .ok (.getfield 43, 3) := by decide +kernel
theorem dX2_joinLabel_16 : decode cX2_joinLabel 16 = .ok (.iload_n 1, 1) := by decide +kernel
theorem dX2_joinLabel_17 : decode cX2_joinLabel 17 = .ok (.iconst (-1), 1) := by decide +kernel
theorem dX2_joinLabel_18 : decode cX2_joinLabel 18 = .ok (.iload_n 2, 1) := by decide +kernel
theorem dX2_joinLabel_19 : decode cX2_joinLabel 19 = .ok (.isub, 1) := by decide +kernel
theorem dX2_joinLabel_20 : decode cX2_joinLabel 20 = .ok (.iastore, 1) := by decide +kernel
theorem dX2_joinLabel_21 : decode cX2_joinLabel 21 = .ok (.return_, 1) := by decide +kernel
theorem dX3_init_0 : decode cX3_init 0 = .ok (.aload_n 0, 1) := by decide +kernel
theorem dX3_init_1 : decode cX3_init 1 = .ok (.invokespecial 3, 3) := by decide +kernel
theorem dX3_init_4 : decode cX3_init 4 = .ok (.aload_n 0, 1) := by decide +kernel
theorem dX3_init_5 : decode cX3_init 5 = .ok (.iconst 0, 1) := by decide +kernel
theorem dX3_init_6 : decode cX3_init 6 = .ok (.newarray .byte, 2) := by decide +kernel
theorem dX3_init_8 : decode cX3_init 8 = .ok (.putfield 9, 3) := by decide +kernel
theorem dX3_init_11 : decode cX3_init 11 = .ok (.aload_n 0, 1) := by decide +kernel
theorem dX3_init_12 : decode cX3_init 12 = .ok (.iconst 0, 1) := by decide +kernel
theorem dX3_init_13 : decode cX3_init 13 = .ok (.newarray .long, 2) := by decide +kernel
theorem dX3_init_15 : decode cX3_init 15 = .ok (.putfield 15, 3) := by decide +kernel
theorem dX3_init_18 : decode cX3_init 18 = .ok (.aload_n 0, 1) := by decide +kernel
theorem dX3_init_19 : decode cX3_init 19 = .ok (.iconst 0, 1) := by decide +kernel
theorem dX3_init_20 : decode cX3_init 20 = .ok (.newarray .long, 2) := by decide +kernel
theorem dX3_init_22 : decode cX3_init 22 = .ok (.putfield 19, 3) := by decide +kernel
theorem dX3_init_25 : decode cX3_init 25 = .ok (.aload_n 0, 1) := by decide +kernel
theorem dX3_init_26 : decode cX3_init 26 = .ok (.iconst 0, 1) := by decide +kernel
theorem dX3_init_27 : decode cX3_init 27 = .ok (.newarray .long, 2) := by decide +kernel
theorem dX3_init_29 : decode cX3_init 29 = .ok (.putfield 22, 3) := by decide +kernel
theorem dX3_init_32 : decode cX3_init 32 = .ok (.aload_n 0, 1) := by decide +kernel
theorem dX3_init_33 : decode cX3_init 33 = .ok (.iconst 0, 1) := by decide +kernel
theorem dX3_init_34 : decode cX3_init 34 = .ok (.newarray .long, 2) := by decide +kernel
theorem dX3_init_36 : decode cX3_init 36 = .ok (.putfield 25, 3) := by decide +kernel
theorem dX3_init_39 : decode cX3_init 39 = .ok (.aload_n 0, 1) := by decide +kernel
theorem dX3_init_40 : decode cX3_init 40 = .ok (.iconst 0, 1) := by decide +kernel
theorem dX3_init_41 : decode cX3_init 41 = .ok (.newarray .long, 2) := by decide +kernel
theorem dX3_init_43 : decode cX3_init 43 = .ok (.putfield 28, 3) := by decide +kernel
theorem dX3_init_46 : decode cX3_init 46 = .ok (.aload_n 0, 1) := by decide +kernel
theorem dX3_init_47 : decode cX3_init 47 = .ok (.iconst 0, 1) := by decide +kernel
theorem dX3_init_48 : decode cX3_init 48 = .ok (.newarray .boolean, 2) := by decide +kernel
theorem dX3_init_50 : decode cX3_init 50 = .ok (.putfield 31, 3) := by decide +kernel
theorem dX3_init_53 : decode cX3_init 53 = .ok (.aload_n 0, 1) := by decide +kernel
theorem dX3_init_54 : decode cX3_init 54 = .ok (.bipush 11, 2) := by decide +kernel
theorem dX3_init_56 : decode cX3_init 56 = .ok (.anewarray 35, 3) := by decide +kernel
theorem dX3_init_59 : decode cX3_init 59 = .ok (.putfield 37, 3) := by decide +kernel
theorem dX3_init_62 : decode cX3_init 62 = .ok (.aload_n 0, 1) := by decide +kernel
theorem dX3_init_63 : decode cX3_init 63 = .ok (.new 35, 3) := by decide +kernel
theorem dX3_init_66 : decode cX3_init 66 = .ok (.dup, 1) := by decide +kernel
theorem dX3_init_67 : decode cX3_init 67 = .ok (.invokespecial 41, 3) := by decide +kernel
theorem dX3_init_70 : decode cX3_init 70 = .ok (.putfield 42, 3) := by decide +kernel
theorem dX3_init_73 : decode cX3_init 73 = .ok (.aload_n 0, 1) := by decide +kernel
theorem dX3_init_74 : decode cX3_init 74 = .ok (.new 35, 3) := by decide +kernel
theorem dX3_init_77 : decode cX3_init 77 = .ok (.dup, 1) := by decide +kernel
theorem dX3_init_78 : decode cX3_init 78 = .ok (.invokespecial 41, 3) := by decide +kernel
theorem dX3_init_81 : decode cX3_init 81 = .ok (.putfield 46, 3) := by decide +kernel
theorem dX3_init_84 : decode cX3_init 84 = .ok (.aload_n 0, 1) := by decide +kernel
theorem dX3_init_85 : decode cX3_init 85 = .ok (.new 35, 3) := by decide +kernel
theorem dX3_init_88 : decode cX3_init 88 = .ok (.dup, 1) := by decide +kernel
theorem dX3_init_89 : decode cX3_init 89 = .ok (.invokespecial 41, 3) := by decide +kernel
theorem dX3_init_92 : decode cX3_init 92 = .ok (.putfield 49, 3) := by decide +kernel
theorem dX3_init_95 : decode cX3_init 95 = .ok (.aload_n 0, 1) := by decide +kernel
theorem dX3_init_96 : decode cX3_init 96 = .ok (.iconst (-1), 1) := by decide +kernel
theorem dX3_init_97 : decode cX3_init 97 = .ok (.putfield 52, 3) := by decide +kernel
theorem dX3_init_100 : decode cX3_init 100 = .ok (.aload_n 0, 1) := by decide +kernel
theorem dX3_init_101 : decode cX3_init 101 = .ok (.aload_n 1, 1) := by decide +kernel
theorem dX3_init_102 : decode cX3_init 102 = .ok (.putfield 56, 3) := by decide +kernel
theorem dX3_init_105 : decode cX3_init 105 = .ok (.iconst 0, 1) := by decide +kernel
theorem dX3_init_106 : decode cX3_init 106 = .ok (.istore_n 2, 1) := by decide +kernel
theorem dX3_init_107 : decode cX3_init 107 = .ok (.iload_n 2, 1) := by decide +kernel
theorem dX3_init_108 : decode cX3_init 108 = .ok (.bipush 11, 2) := by decide +kernel
theorem dX3_init_110 : decode cX3_init 110 = .ok (.if_icmp .ge 22, 3) := by decide +kernel
theorem dX3_init_113 : decode cX3_init 113 = .ok (.aload_n 0, 1) := by decide +kernel
theorem dX3_init_114 : decode cX3_init 114 = .ok (.getfield 37, 3) := by decide +kernel
theorem dX3_init_117 : decode cX3_init 117 = .ok (.iload_n 2, 1) := by decide +kernel
theorem dX3_init_118 : decode cX3_init 118 = .ok (.new 35, 3) := by decide +kernel
theorem dX3_init_121 : decode cX3_init 121 = .ok (.dup, 1) := by decide +kernel
theorem dX3_init_122 : decode cX3_init 122 = .ok (.invokespecial 41, 3) := by decide +kernel
theorem dX3_init_125 : decode cX3_init 125 = .ok (.aastore, 1) := by decide +kernel
theorem dX3_init_126 : decode cX3_init 126 = .ok (.iinc 2 1, 3) := by decide +kernel
theorem dX3_init_129 : decode cX3_init 129 = .ok (.goto (-22), 3) := by decide +kernel
theorem dX3_init_132 : decode cX3_init 132 = .ok (.return_, 1) := by decide +kernel
theorem dX3_look_0 : decode cX3_look 0 = .ok (.aload_n 0, 1) := by decide +kernel
theorem dX3_look_1 : decode cX3_look 1 = .ok (.aload_n 1, 1) := by decide +kernel
theorem dX3_look_2 : decode cX3_look 2 = .ok (.putfield 56, 3) := by decide +kernel
theorem dX3_look_5 : decode cX3_look 5 = .ok (.aload_n 0, 1) := by decide +kernel
theorem dX3_look_6 : decode cX3_look 6 = .ok (.iconst (-1), 1) := by decide +kernel
theorem dX3_look_7 : decode cX3_look 7 = .ok (.putfield 52, 3) := by decide +kernel
theorem dX3_look_10 : decode cX3_look 10 = .ok (.aload_n 0, 1) := by decide +kernel
theorem dX3_look_11 : decode cX3_look 11 = .ok (.getfield 56, 3) := by decide +kernel
theorem dX3_look_14 : decode cX3_look 14 = .ok (.getfield 60, 3) := by decide +kernel
theorem dX3_look_17 : decode cX3_look 17 = .ok (.ifCond .ne 5, 3) := by decide +kernel
theorem dX3_look_20 : decode cX3_look 20 = .ok (.iconst (-1), 1) := by decide +kernel
theorem dX3_look_21 : decode cX3_look 21 = .ok (.ireturn, 1) := by decide +kernel
theorem dX3_look_22 : decode cX3_look 22 = .ok (.aload_n 0, 1) := by decide +kernel
theorem dX3_look_23 : decode cX3_look 23 = .ok (.invokevirtual 65, 3) := by decide +kernel
theorem dX3_look_26 : decode cX3_look 26 = .ok (.istore_n 2, 1) := by decide +kernel
theorem dX3_look_27 : decode cX3_look 27 = .ok (.iload_n 2, 1) := by decide +kernel
theorem dX3_look_28 : decode cX3_look 28 = .ok (.ifCond .eq 5, 3) := by decide +kernel
theorem dX3_look_31 : decode cX3_look 31 = .ok (.iload_n 2, 1) := by decide +kernel
theorem dX3_look_32 : decode cX3_look 32 = .ok (.ireturn, 1) := by decide +kernel
theorem dX3_look_33 : decode cX3_look 33 = .ok (.aload_n 0, 1) := by decide +kernel
theorem dX3_look_34 : decode cX3_look 34 = .ok (.invokevirtual 69, 3) := by decide +kernel
theorem dX3_look_37 : decode cX3_look 37 = .ok (.aload_n 0, 1) := by decide +kernel
theorem dX3_look_38 : decode cX3_look 38 = .ok (.invokevirtual 72, 3) := by decide +kernel
theorem dX3_look_41 : decode cX3_look 41 = .ok (.iconst 0, 1) := by decide +kernel
theorem dX3_look_42 : decode cX3_look 42 = .ok (.istore_n 3, 1) := by decide +kernel
theorem dX3_look_43 : decode cX3_look 43 = .ok (.iload_n 3, 1) := by decide +kernel
theorem dX3_look_44 : decode cX3_look 44 = .ok (.aload_n 0, 1) := by decide +kernel
theorem dX3_look_45 : decode cX3_look 45 = .ok (.getfield 56, 3) := by decide +kernel
theorem dX3_look_48 : decode cX3_look 48 = .ok (.getfield 60, 3) := by decide +kernel
theorem dX3_look_51 : decode cX3_look 51 = .ok (.if_icmp .ge 68, 3) := by decide +kernel
theorem dX3_look_54 : decode cX3_look 54 = .ok (.aload_n 0, 1) := by decide +kernel
theorem dX3_look_55 : decode cX3_look 55 = .ok (.iload_n 3, 1) := by decide +kernel
theorem dX3_look_56 : decode cX3_look 56 = .ok (.putfield 52, 3) := by decide +kernel
theorem dX3_look_59 : decode cX3_look 59 = .ok (.aload_n 0, 1) := by decide +kernel
theorem dX3_look_60 : decode cX3_look 60 = .ok (.getfield 31, 3) := by decide +kernel
theorem dX3_look_63 : decode cX3_look 63 = .ok (.iload_n 3, 1) := by decide +kernel
theorem dX3_look_64 : decode cX3_look 64 = .ok (.baload, 1) := by decide +kernel
theorem dX3_look_65 : decode cX3_look 65 = .ok (.ifCond .eq 48, 3) := by decide +kernel
theorem dX3_look_68 : decode cX3_look 68 = .ok (.aload_n 0, 1) := by decide +kernel
theorem dX3_look_69 : decode cX3_look 69 = .ok (.iload_n 3, 1) := by decide +kernel
theorem dX3_look_70 : decode cX3_look 70 = .ok (.invokevirtual 75, 3) := by decide +kernel
theorem dX3_look_73 : decode cX3_look 73 = .ok (.aload_n 0, 1) := by decide +kernel
theorem dX3_look_74 : decode cX3_look 74 = .ok (.aload_n 0, 1) := by decide +kernel
theorem dX3_look_75 : decode cX3_look 75 = .ok (.getfield 56, 3) := by decide +kernel
theorem dX3_look_78 : decode cX3_look 78 = .ok (.iload_n 3, 1) := by decide +kernel
theorem dX3_look_79 : decode cX3_look 79 = .ok (.invokevirtual 79, 3) := by decide +kernel
theorem dX3_look_82 : decode cX3_look 82 = .ok (.invokevirtual 83, 3) := by decide +kernel
theorem dX3_look_85 : decode cX3_look 85 = .ok (.istore 4, 2) := by decide +kernel
theorem dX3_look_87 : decode cX3_look 87 = .ok (.iload 4, 2) := by decide +kernel
theorem dX3_look_89 : decode cX3_look 89 = .ok (.ifCond .eq 11, 3) := by decide +kernel
theorem dX3_look_92 : decode cX3_look 92 = .ok (.bipush 16, 2) := by decide +kernel
theorem dX3_look_94 : decode cX3_look 94 = .ok (.iload_n 3, 1) := by decide +kernel
theorem dX3_look_95 : decode cX3_look 95 = .ok (.imul, 1) := by decide +kernel
theorem dX3_look_96 : decode cX3_look 96 = .ok (.iload 4, 2) := by decide +kernel
theorem dX3_look_98 : decode cX3_look 98 = .ok (.iadd, 1) := by decide +kernel
theorem dX3_look_99 : decode cX3_look 99 = .ok (.ireturn, 1) := by decide +kernel
theorem dX3_look_100 : decode cX3_look 100 = .ok (.aload_n 0, 1) := by decide +kernel
theorem dX3_look_101 : decode cX3_look 101 = .ok (.iload_n 3, 1) := by decide +kernel
theorem dX3_look_102 : decode cX3_look 102 = .ok (.aload_n 0, 1) := by decide +kernel
theorem dX3_look_103 : decode cX3_look 103 = .ok (.getfield 56, 3) := by decide +kernel
theorem dX3_look_106 : decode cX3_look 106 = .ok (.iload_n 3, 1) := by decide +kernel
theorem dX3_look_107 : decode cX3_look 107 = .ok (.invokevirtual 79, 3) := by decide +kernel
theorem dX3_look_110 : decode cX3_look 110 = .ok (.invokevirtual 87, 3) := by decide +kernel
theorem dX3_look_113 : decode cX3_look 113 = .ok (.iinc 3 1, 3) := by decide +kernel
theorem dX3_look_116 : decode cX3_look 116 = .ok (.goto (-73), 3) := by decide +kernel
theorem dX3_look_119 : decode cX3_look 119 = .ok (.iconst 0, 1) := by decide +kernel
theorem dX3_look_120 : decode cX3_look 120 = .ok (.ireturn, 1) := by decide +kernel
theorem dX3_tell_0 : decode cX3_tell 0 = .ok (.iload_n 1, 1) := by decide +kernel
theorem dX3_tell_1 : decode cX3_tell 1 = .ok (.ifCond .lt 34, 3) := by decide +kernel
theorem dX3_tell_4 : decode cX3_tell 4 = .ok (.iload_n 1, 1) := by decide +kernel
theorem dX3_tell_5 : decode cX3_tell 5 = .ok (.aload_n 0, 1) := by decide +kernel
theorem dX3_tell_6 : decode cX3_tell 6 = .ok (.getfield 52, 3) := by decide +kernel
theorem dX3_tell_9 : decode cX3_tell 9 = .ok (.if_icmp .gt 26, 3) := by decide +kernel
theorem dX3_tell_12 : decode cX3_tell 12 = .ok (.aload_n 0, 1) := by decide +kernel
theorem dX3_tell_13 : decode cX3_tell 13 = .ok (.getfield 31, 3) := by decide +kernel
theorem dX3_tell_16 : decode cX3_tell 16 = .ok (.iload_n 1, 1) := by decide +kernel
theorem dX3_tell_17 : decode cX3_tell 17 = .ok (.baload, 1) := by decide +kernel
theorem dX3_tell_18 : decode cX3_tell 18 = .ok (.ifCond .eq 17, 3) := by decide +kernel
theorem dX3_tell_21 : decode cX3_tell 21 = .ok (.iload_n 2, 1) := by decide +kernel
theorem dX3_tell_22 : decode cX3_tell 22 = .ok (.ifCond .lt 13, 3) := by decide +kernel
theorem dX3_tell_25 : decode cX3_tell 25 = .ok (.iload_n 2, 1) := by decide +kernel
theorem dX3_tell_26 : decode cX3_tell 26 = .ok (.bipush 11, 2) := by decide +kernel
theorem dX3_tell_28 : decode cX3_tell 28 = .ok (.if_icmp .gt 7, 3) := by decide +kernel
theorem dX3_tell_31 : decode cX3_tell 31 = .ok (.iconst 1, 1) := by decide +kernel
theorem dX3_tell_32 : decode cX3_tell 32 = .ok (.goto 4, 3) := by decide +kernel
theorem dX3_tell_35 : decode cX3_tell 35 = .ok (.iconst 0, 1) := by decide +kernel
theorem dX3_tell_36 : decode cX3_tell 36 = .ok (.istore 4, 2) := by decide +kernel
theorem dX3_tell_38 : decode cX3_tell 38 = .ok (.iload 4, 2) := by decide +kernel
theorem dX3_tell_40 : decode cX3_tell 40 = .ok (.ifCond .ne 15, 3) := by decide +kernel
theorem dX3_tell_43 : decode cX3_tell 43 = .ok (.iload_n 3, 1) := by decide +kernel
theorem dX3_tell_44 : decode cX3_tell 44 = .ok (.ifCond .ne 9, 3) := by decide +kernel
theorem dX3_tell_47 : decode cX3_tell 47 = .ok (.ldc2_w 91, 3) := by decide +kernel
theorem dX3_tell_50 : decode cX3_tell 50 = .ok (.goto 4, 3) := by decide +kernel
theorem dX3_tell_53 : decode cX3_tell 53 = .ok (.lconst 0, 1) := by decide +kernel
theorem dX3_tell_54 : decode cX3_tell 54 = .ok (.lreturn, 1) := by decide +kernel
theorem dX3_tell_55 : decode cX3_tell 55 = .ok (.iload_n 2, 1) := by decide +kernel
theorem dX3_tell_56 : decode cX3_tell 56 = .ok (.bipush 11, 2) := by decide +kernel
theorem dX3_tell_58 : decode cX3_tell 58 = .ok (.if_icmp .ne 28, 3) := by decide +kernel
theorem dX3_tell_61 : decode cX3_tell 61 = .ok (.iload_n 3, 1) := by decide +kernel
theorem dX3_tell_62 : decode cX3_tell 62 = .ok (.ifCond .lt 9, 3) := by decide +kernel
theorem dX3_tell_65 : decode cX3_tell 65 = .ok (.iload_n 3, 1) := by decide +kernel
theorem dX3_tell_66 : decode cX3_tell 66 = .ok (.bipush 64, 2) := by decide +kernel
theorem dX3_tell_68 : decode cX3_tell 68 = .ok (.if_icmp .lt 7, 3) := by decide +kernel
theorem dX3_tell_71 : decode cX3_tell 71 = .ok (.lconst 0, 1) := by decide +kernel
theorem dX3_tell_72 : decode cX3_tell 72 = .ok (.goto 13, 3) := by decide +kernel
theorem dX3_tell_75 : decode cX3_tell 75 = .ok (.aload_n 0, 1) := by decide +kernel
theorem dX3_tell_76 : decode cX3_tell 76 = .ok (.getfield 28, 3) := by decide +kernel
theorem dX3_tell_79 : decode cX3_tell 79 = .ok (.iload_n 1, 1) := by decide +kernel
theorem dX3_tell_80 : decode cX3_tell 80 = .ok (.laload, 1) := by decide +kernel
theorem dX3_tell_81 : decode cX3_tell 81 = .ok (.iload_n 3, 1) := by decide +kernel
theorem dX3_tell_82 : decode cX3_tell 82 = .ok (.lushr, 1) := by decide +kernel
theorem dX3_tell_83 : decode cX3_tell 83 = .ok (.lconst 1, 1) := by decide +kernel
theorem dX3_tell_84 : decode cX3_tell 84 = .ok (.land, 1) := by decide +kernel
theorem dX3_tell_85 : decode cX3_tell 85 = .ok (.lreturn, 1) := by decide +kernel
theorem dX3_tell_86 : decode cX3_tell 86 = .ok (.iload_n 1, 1) := by decide +kernel
theorem dX3_tell_87 : decode cX3_tell 87 = .ok (.bipush 11, 2) := by decide +kernel
theorem dX3_tell_89 : decode cX3_tell 89 = .ok (.imul, 1) := by decide +kernel
theorem dX3_tell_90 : decode cX3_tell 90 = .ok (.iload_n 2, 1) := by decide +kernel
theorem dX3_tell_91 : decode cX3_tell 91 = .ok (.iadd, 1) := by decide +kernel
theorem dX3_tell_92 : decode cX3_tell 92 = .ok (.istore 5, 2) := by decide +kernel
theorem dX3_tell_94 : decode cX3_tell 94 = .ok (.iload_n 3, 1) := by decide +kernel
theorem dX3_tell_95 : decode cX3_tell 95 = .ok (.tableswitch 74 0 4 #[33, 42, 50, 58, 66], 33) := by decide +kernel
theorem dX3_tell_128 : decode cX3_tell 128 = .ok (.aload_n 0, 1) := by decide +kernel
theorem dX3_tell_129 : decode cX3_tell 129 = .ok (.getfield 9, 3) := by decide +kernel
theorem dX3_tell_132 : decode cX3_tell 132 = .ok (.iload 5, 2) := by decide +kernel
theorem dX3_tell_134 : decode cX3_tell 134 = .ok (.baload, 1) := by decide +kernel
theorem dX3_tell_135 : decode cX3_tell 135 = .ok (.i2l, 1) := by decide +kernel
theorem dX3_tell_136 : decode cX3_tell 136 = .ok (.lreturn, 1) := by decide +kernel
theorem dX3_tell_137 : decode cX3_tell 137 = .ok (.aload_n 0, 1) := by decide +kernel
theorem dX3_tell_138 : decode cX3_tell 138 = .ok (.getfield 15, 3) := by decide +kernel
theorem dX3_tell_141 : decode cX3_tell 141 = .ok (.iload 5, 2) := by decide +kernel
theorem dX3_tell_143 : decode cX3_tell 143 = .ok (.laload, 1) := by decide +kernel
theorem dX3_tell_144 : decode cX3_tell 144 = .ok (.lreturn, 1) := by decide +kernel
theorem dX3_tell_145 : decode cX3_tell 145 = .ok (.aload_n 0, 1) := by decide +kernel
theorem dX3_tell_146 : decode cX3_tell 146 = .ok (.getfield 19, 3) := by decide +kernel
theorem dX3_tell_149 : decode cX3_tell 149 = .ok (.iload 5, 2) := by decide +kernel
theorem dX3_tell_151 : decode cX3_tell 151 = .ok (.laload, 1) := by decide +kernel
theorem dX3_tell_152 : decode cX3_tell 152 = .ok (.lreturn, 1) := by decide +kernel
theorem dX3_tell_153 : decode cX3_tell 153 = .ok (.aload_n 0, 1) := by decide +kernel
theorem dX3_tell_154 : decode cX3_tell 154 = .ok (.getfield 22, 3) := by decide +kernel
theorem dX3_tell_157 : decode cX3_tell 157 = .ok (.iload 5, 2) := by decide +kernel
theorem dX3_tell_159 : decode cX3_tell 159 = .ok (.laload, 1) := by decide +kernel
theorem dX3_tell_160 : decode cX3_tell 160 = .ok (.lreturn, 1) := by decide +kernel
theorem dX3_tell_161 : decode cX3_tell 161 = .ok (.aload_n 0, 1) := by decide +kernel
theorem dX3_tell_162 : decode cX3_tell 162 = .ok (.getfield 25, 3) := by decide +kernel
theorem dX3_tell_165 : decode cX3_tell 165 = .ok (.iload 5, 2) := by decide +kernel
theorem dX3_tell_167 : decode cX3_tell 167 = .ok (.laload, 1) := by decide +kernel
theorem dX3_tell_168 : decode cX3_tell 168 = .ok (.lreturn, 1) := by decide +kernel
theorem dX3_tell_169 : decode cX3_tell 169 = .ok (.lconst 0, 1) := by decide +kernel
theorem dX3_tell_170 : decode cX3_tell 170 = .ok (.lreturn, 1) := by decide +kernel
theorem dX4_init_0 : decode cX4_init 0 = .ok (.aload_n 0, 1) := by decide +kernel
theorem dX4_init_1 : decode cX4_init 1 = .ok (.invokespecial 3, 3) := by decide +kernel
theorem dX4_init_4 : decode cX4_init 4 = .ok (.aload_n 0, 1) := by decide +kernel
theorem dX4_init_5 : decode cX4_init 5 = .ok (.bipush 32, 2) := by decide +kernel
theorem dX4_init_7 : decode cX4_init 7 = .ok (.newarray .long, 2) := by decide +kernel
theorem dX4_init_9 : decode cX4_init 9 = .ok (.putfield 9, 3) := by decide +kernel
theorem dX4_init_12 : decode cX4_init 12 = .ok (.aload_n 0, 1) := by decide +kernel
theorem dX4_init_13 : decode cX4_init 13 = .ok (.bipush 64, 2) := by decide +kernel
theorem dX4_init_15 : decode cX4_init 15 = .ok (.newarray .byte, 2) := by decide +kernel
theorem dX4_init_17 : decode cX4_init 17 = .ok (.putfield 15, 3) := by decide +kernel
theorem dX4_init_20 : decode cX4_init 20 = .ok (.aload_n 0, 1) := by decide +kernel
theorem dX4_init_21 : decode cX4_init 21 = .ok (.aload_n 1, 1) := by decide +kernel
theorem dX4_init_22 : decode cX4_init 22 = .ok (.putfield 19, 3) := by decide +kernel
theorem dX4_init_25 : decode cX4_init 25 = .ok (.return_, 1) := by decide +kernel
theorem dX5_init_0 : decode cX5_init 0 = .ok (.aload_n 0, 1) := by decide +kernel
theorem dX5_init_1 : decode cX5_init 1 = .ok (.invokespecial 3, 3) := by decide +kernel
theorem dX5_init_4 : decode cX5_init 4 = .ok (.aload_n 0, 1) := by decide +kernel
theorem dX5_init_5 : decode cX5_init 5 = .ok (.ldc 11, 2) := by decide +kernel
theorem dX5_init_7 : decode cX5_init 7 = .ok (.newarray .int, 2) := by decide +kernel
theorem dX5_init_9 : decode cX5_init 9 = .ok (.putfield 12, 3) := by decide +kernel
theorem dX5_init_12 : decode cX5_init 12 = .ok (.return_, 1) := by decide +kernel
theorem dX5_takeTape_0 : decode cX5_takeTape 0 = .ok (.aload_n 1, 1) := by decide +kernel
theorem dX5_takeTape_1 : decode cX5_takeTape 1 = .ok (.getfield 16, 3) := by decide +kernel
theorem dX5_takeTape_4 : decode cX5_takeTape 4 = .ok (.ifCond .eq 12, 3) := by decide +kernel
theorem dX5_takeTape_7 : decode cX5_takeTape 7 = .ok (.aload_n 1, 1) := by decide +kernel
theorem dX5_takeTape_8 : decode cX5_takeTape 8 = .ok (.getfield 16, 3) := by decide +kernel
theorem dX5_takeTape_11 : decode cX5_takeTape 11 = .ok (.iconst 4, 1) := by decide +kernel
theorem dX5_takeTape_12 : decode cX5_takeTape 12 = .ok (.irem, 1) := by decide +kernel
theorem dX5_takeTape_13 : decode cX5_takeTape 13 = .ok (.ifCond .eq 5, 3) := by decide +kernel
theorem dX5_takeTape_16 : decode cX5_takeTape 16 = .ok (.iconst (-1), 1) := by decide +kernel
theorem dX5_takeTape_17 : decode cX5_takeTape 17 = .ok (.ireturn, 1) := by decide +kernel
theorem dX5_takeTape_18 : decode cX5_takeTape 18 = .ok (.aload_n 0, 1) := by decide +kernel
theorem dX5_takeTape_19 : decode cX5_takeTape 19 = .ok (.aload_n 1, 1) := by decide +kernel
theorem dX5_takeTape_20 : decode cX5_takeTape 20 = .ok (.getfield 16, 3) := by decide +kernel
theorem dX5_takeTape_23 : decode cX5_takeTape 23 = .ok (.iconst 4, 1) := by decide +kernel
theorem dX5_takeTape_24 : decode cX5_takeTape 24 = .ok (.idiv, 1) := by decide +kernel
theorem dX5_takeTape_25 : decode cX5_takeTape 25 = .ok (.putfield 22, 3) := by decide +kernel
theorem dX5_takeTape_28 : decode cX5_takeTape 28 = .ok (.iconst 0, 1) := by decide +kernel
theorem dX5_takeTape_29 : decode cX5_takeTape 29 = .ok (.istore_n 2, 1) := by decide +kernel
theorem dX5_takeTape_30 : decode cX5_takeTape 30 = .ok (.iload_n 2, 1) := by decide +kernel
theorem dX5_takeTape_31 : decode cX5_takeTape 31 = .ok (.aload_n 0, 1) := by decide +kernel
theorem dX5_takeTape_32 : decode cX5_takeTape 32 = .ok (.getfield 22, 3) := by decide +kernel
theorem dX5_takeTape_35 : decode cX5_takeTape 35 = .ok (.if_icmp .ge 24, 3) := by decide +kernel
theorem dX5_takeTape_38 : decode cX5_takeTape 38 = .ok (.aload_n 0, 1) := by decide +kernel
theorem dX5_takeTape_39 : decode cX5_takeTape 39 = .ok (.getfield 12, 3) := by decide +kernel
theorem dX5_takeTape_42 : decode cX5_takeTape 42 = .ok (.iload_n 2, 1) := by decide +kernel
theorem dX5_takeTape_43 : decode cX5_takeTape 43 = .ok (.aload_n 1, 1) := by decide +kernel
theorem dX5_takeTape_44 : decode cX5_takeTape 44 = .ok (.iconst 4, 1) := by decide +kernel
theorem dX5_takeTape_45 : decode cX5_takeTape 45 = .ok (.iload_n 2, 1) := by decide +kernel
theorem dX5_takeTape_46 : decode cX5_takeTape 46 = .ok (.imul, 1) := by decide +kernel
theorem dX5_takeTape_47 : decode cX5_takeTape 47 = .ok (.iconst 4, 1) := by decide +kernel
theorem dX5_takeTape_48 : decode cX5_takeTape 48 = .ok (.invokevirtual 23, 3) := by decide +kernel
theorem dX5_takeTape_51 : decode cX5_takeTape 51 = .ok (.l2i, 1) := by decide +kernel
theorem dX5_takeTape_52 : decode cX5_takeTape 52 = .ok (.iastore, 1) := by decide +kernel
theorem dX5_takeTape_53 : decode cX5_takeTape 53 = .ok (.iinc 2 1, 3) := by decide +kernel
theorem dX5_takeTape_56 : decode cX5_takeTape 56 = .ok (.goto (-26), 3) := by decide +kernel
theorem dX5_takeTape_59 : decode cX5_takeTape 59 = .ok (.aload_n 0, 1) := by decide +kernel
theorem dX5_takeTape_60 : decode cX5_takeTape 60 = .ok (.getfield 22, 3) := by decide +kernel
theorem dX5_takeTape_63 : decode cX5_takeTape 63 = .ok (.ireturn, 1) := by decide +kernel
theorem dX5_at_0 : decode cX5_at 0 = .ok (.iload_n 1, 1) := by decide +kernel
theorem dX5_at_1 : decode cX5_at 1 = .ok (.ifCond .lt 11, 3) := by decide +kernel
theorem dX5_at_4 : decode cX5_at 4 = .ok (.iload_n 1, 1) := by decide +kernel
theorem dX5_at_5 : decode cX5_at 5 = .ok (.aload_n 0, 1) := by decide +kernel
theorem dX5_at_6 : decode cX5_at 6 = .ok (.getfield 22, 3) := by decide +kernel
theorem dX5_at_9 : decode cX5_at 9 = .ok (.if_icmp .lt 7, 3) := by decide +kernel
theorem dX5_at_12 : decode cX5_at 12 = .ok (.iconst 0, 1) := by decide +kernel
theorem dX5_at_13 : decode cX5_at 13 = .ok (.goto 9, 3) := by decide +kernel
theorem dX5_at_16 : decode cX5_at 16 = .ok (.aload_n 0, 1) := by decide +kernel
theorem dX5_at_17 : decode cX5_at 17 = .ok (.getfield 12, 3) := by decide +kernel
theorem dX5_at_20 : decode cX5_at 20 = .ok (.iload_n 1, 1) := by decide +kernel
theorem dX5_at_21 : decode cX5_at 21 = .ok (.iaload, 1) := by decide +kernel
theorem dX5_at_22 : decode cX5_at 22 = .ok (.ireturn, 1) := by decide +kernel
theorem dX6_init_0 : decode cX6_init 0 = .ok (.aload_n 0, 1) := by decide +kernel
theorem dX6_init_1 : decode cX6_init 1 = .ok (.invokespecial 1, 3) := by decide +kernel
theorem dX6_init_4 : decode cX6_init 4 = .ok (.aload_n 0, 1) := by decide +kernel
theorem dX6_init_5 : decode cX6_init 5 = .ok (.sipush 4096, 3) := by decide +kernel
theorem dX6_init_8 : decode cX6_init 8 = .ok (.newarray .byte, 2) := by decide +kernel
theorem dX6_init_10 : decode cX6_init 10 = .ok (.putfield 9, 3) := by decide +kernel
theorem dX6_init_13 : decode cX6_init 13 = .ok (.aload_n 0, 1) := by decide +kernel
theorem dX6_init_14 : decode cX6_init 14 = .ok (.bipush 16, 2) := by decide +kernel
theorem dX6_init_16 : decode cX6_init 16 = .ok (.newarray .int, 2) := by decide +kernel
theorem dX6_init_18 : decode cX6_init 18 = .ok (.putfield 13, 3) := by decide +kernel
theorem dX6_init_21 : decode cX6_init 21 = .ok (.return_, 1) := by decide +kernel
theorem dX6_add_0 : decode cX6_add 0 = .ok (.aload_n 0, 1) := by decide +kernel
theorem dX6_add_1 : decode cX6_add 1 = .ok (.getfield 17, 3) := by decide +kernel
theorem dX6_add_4 : decode cX6_add 4 = .ok (.bipush 16, 2) := by decide +kernel
theorem dX6_add_6 : decode cX6_add 6 = .ok (.if_icmp .lt 5, 3) := by decide +kernel
theorem dX6_add_9 : decode cX6_add 9 = .ok (.iconst (-1), 1) := by decide +kernel
theorem dX6_add_10 : decode cX6_add 10 = .ok (.ireturn, 1) := by decide +kernel
theorem dX6_add_11 : decode cX6_add 11 = .ok (.aload_n 1, 1) := by decide +kernel
theorem dX6_add_12 : decode cX6_add 12 = .ok (.getfield 21, 3) := by decide +kernel
theorem dX6_add_15 : decode cX6_add 15 = .ok (.sipush 256, 3) := by decide +kernel
theorem dX6_add_18 : decode cX6_add 18 = .ok (.if_icmp .le 6, 3) := by decide +kernel
theorem dX6_add_21 : decode cX6_add 21 = .ok (.bipush (-2), 2) := by decide +kernel
theorem dX6_add_23 : decode cX6_add 23 = .ok (.ireturn, 1) := by decide +kernel
theorem dX6_add_24 : decode cX6_add 24 = .ok (.iconst 0, 1) := by decide +kernel
theorem dX6_add_25 : decode cX6_add 25 = .ok (.istore_n 2, 1) := by decide +kernel
theorem dX6_add_26 : decode cX6_add 26 = .ok (.iload_n 2, 1) := by decide +kernel
theorem dX6_add_27 : decode cX6_add 27 = .ok (.aload_n 1, 1) := by decide +kernel
theorem dX6_add_28 : decode cX6_add 28 = .ok (.getfield 21, 3) := by decide +kernel
theorem dX6_add_31 : decode cX6_add 31 = .ok (.if_icmp .ge 30, 3) := by decide +kernel
theorem dX6_add_34 : decode cX6_add 34 = .ok (.aload_n 0, 1) := by decide +kernel
theorem dX6_add_35 : decode cX6_add 35 = .ok (.getfield 9, 3) := by decide +kernel
theorem dX6_add_38 : decode cX6_add 38 = .ok (.aload_n 0, 1) := by decide +kernel
theorem dX6_add_39 : decode cX6_add 39 = .ok (.getfield 17, 3) := by decide +kernel
theorem dX6_add_42 : decode cX6_add 42 = .ok (.sipush 256, 3) := by decide +kernel
theorem dX6_add_45 : decode cX6_add 45 = .ok (.imul, 1) := by decide +kernel
theorem dX6_add_46 : decode cX6_add 46 = .ok (.iload_n 2, 1) := by decide +kernel
theorem dX6_add_47 : decode cX6_add 47 = .ok (.iadd, 1) := by decide +kernel
theorem dX6_add_48 : decode cX6_add 48 = .ok (.aload_n 1, 1) := by decide +kernel
theorem dX6_add_49 : decode cX6_add 49 = .ok (.iload_n 2, 1) := by decide +kernel
theorem dX6_add_50 : decode cX6_add 50 = .ok (.invokevirtual 26, 3) := by decide +kernel
theorem dX6_add_53 : decode cX6_add 53 = .ok (.i2b, 1) := by decide +kernel
theorem dX6_add_54 : decode cX6_add 54 = .ok (.bastore, 1) := by decide +kernel
theorem dX6_add_55 : decode cX6_add 55 = .ok (.iinc 2 1, 3) := by decide +kernel
theorem dX6_add_58 : decode cX6_add 58 = .ok (.goto (-32), 3) := by decide +kernel
theorem dX6_add_61 : decode cX6_add 61 = .ok (.aload_n 0, 1) := by decide +kernel
theorem dX6_add_62 : decode cX6_add 62 = .ok (.getfield 13, 3) := by decide +kernel
theorem dX6_add_65 : decode cX6_add 65 = .ok (.aload_n 0, 1) := by decide +kernel
theorem dX6_add_66 : decode cX6_add 66 = .ok (.getfield 17, 3) := by decide +kernel
theorem dX6_add_69 : decode cX6_add 69 = .ok (.aload_n 1, 1) := by decide +kernel
theorem dX6_add_70 : decode cX6_add 70 = .ok (.getfield 21, 3) := by decide +kernel
theorem dX6_add_73 : decode cX6_add 73 = .ok (.iastore, 1) := by decide +kernel
theorem dX6_add_74 : decode cX6_add 74 = .ok (.aload_n 0, 1) := by decide +kernel
theorem dX6_add_75 : decode cX6_add 75 = .ok (.dup, 1) := by decide +kernel
theorem dX6_add_76 : decode cX6_add 76 = .ok (.getfield 17, 3) := by decide +kernel
theorem dX6_add_79 : decode cX6_add 79 = .ok (.iconst 1, 1) := by decide +kernel
theorem dX6_add_80 : decode cX6_add 80 = .ok (.iadd, 1) := by decide +kernel
theorem dX6_add_81 : decode cX6_add 81 = .ok (.putfield 17, 3) := by decide +kernel
theorem dX6_add_84 : decode cX6_add 84 = .ok (.aload_n 0, 1) := by decide +kernel
theorem dX6_add_85 : decode cX6_add 85 = .ok (.getfield 17, 3) := by decide +kernel
theorem dX6_add_88 : decode cX6_add 88 = .ok (.iconst 1, 1) := by decide +kernel
theorem dX6_add_89 : decode cX6_add 89 = .ok (.isub, 1) := by decide +kernel
theorem dX6_add_90 : decode cX6_add 90 = .ok (.ireturn, 1) := by decide +kernel
theorem dX6_lengthOf_0 : decode cX6_lengthOf 0 = .ok (.iload_n 1, 1) := by decide +kernel
theorem dX6_lengthOf_1 : decode cX6_lengthOf 1 = .ok (.ifCond .lt 11, 3) := by decide +kernel
theorem dX6_lengthOf_4 : decode cX6_lengthOf 4 = .ok (.iload_n 1, 1) := by decide +kernel
theorem dX6_lengthOf_5 : decode cX6_lengthOf 5 = .ok (.aload_n 0, 1) := by decide +kernel
theorem dX6_lengthOf_6 : decode cX6_lengthOf 6 = .ok (.getfield 17, 3) := by decide +kernel
theorem dX6_lengthOf_9 : decode cX6_lengthOf 9 = .ok (.if_icmp .lt 7, 3) := by decide +kernel
theorem dX6_lengthOf_12 : decode cX6_lengthOf 12 = .ok (.iconst (-1), 1) := by decide +kernel
theorem dX6_lengthOf_13 : decode cX6_lengthOf 13 = .ok (.goto 9, 3) := by decide +kernel
theorem dX6_lengthOf_16 : decode cX6_lengthOf 16 = .ok (.aload_n 0, 1) := by decide +kernel
theorem dX6_lengthOf_17 : decode cX6_lengthOf 17 = .ok (.getfield 13, 3) := by decide +kernel
theorem dX6_lengthOf_20 : decode cX6_lengthOf 20 = .ok (.iload_n 1, 1) := by decide +kernel
theorem dX6_lengthOf_21 : decode cX6_lengthOf 21 = .ok (.iaload, 1) := by decide +kernel
theorem dX6_lengthOf_22 : decode cX6_lengthOf 22 = .ok (.ireturn, 1) := by decide +kernel
theorem dX6_at_0 : decode cX6_at 0 = .ok (.lload_n 2, 1) := by decide +kernel
theorem dX6_at_1 : decode cX6_at 1 = .ok (.lconst 0, 1) := by decide +kernel
theorem dX6_at_2 : decode cX6_at 2 = .ok (.lcmp, 1) := by decide +kernel
theorem dX6_at_3 : decode cX6_at 3 = .ok (.ifCond .lt 14, 3) := by decide +kernel
theorem dX6_at_6 : decode cX6_at 6 = .ok (.lload_n 2, 1) := by decide +kernel
theorem dX6_at_7 : decode cX6_at 7 = .ok (.aload_n 0, 1) := by decide +kernel
theorem dX6_at_8 : decode cX6_at 8 = .ok (.iload_n 1, 1) := by decide +kernel
theorem dX6_at_9 : decode cX6_at 9 = .ok (.invokevirtual 30, 3) := by decide +kernel
theorem dX6_at_12 : decode cX6_at 12 = .ok (.i2l, 1) := by decide +kernel
theorem dX6_at_13 : decode cX6_at 13 = .ok (.lcmp, 1) := by decide +kernel
theorem dX6_at_14 : decode cX6_at 14 = .ok (.ifCond .lt 7, 3) := by decide +kernel
theorem dX6_at_17 : decode cX6_at 17 = .ok (.iconst (-1), 1) := by decide +kernel
theorem dX6_at_18 : decode cX6_at 18 = .ok (.goto 20, 3) := by decide +kernel
theorem dX6_at_21 : decode cX6_at 21 = .ok (.aload_n 0, 1) := by decide +kernel
theorem dX6_at_22 : decode cX6_at 22 = .ok (.getfield 9, 3) := by decide +kernel
theorem dX6_at_25 : decode cX6_at 25 = .ok (.iload_n 1, 1) := by decide +kernel
theorem dX6_at_26 : decode cX6_at 26 = .ok (.sipush 256, 3) := by decide +kernel
theorem dX6_at_29 : decode cX6_at 29 = .ok (.imul, 1) := by decide +kernel
theorem dX6_at_30 : decode cX6_at 30 = .ok (.lload_n 2, 1) := by decide +kernel
theorem dX6_at_31 : decode cX6_at 31 = .ok (.l2i, 1) := by decide +kernel
theorem dX6_at_32 : decode cX6_at 32 = .ok (.iadd, 1) := by decide +kernel
theorem dX6_at_33 : decode cX6_at 33 = .ok (.baload, 1) := by decide +kernel
theorem dX6_at_34 : decode cX6_at 34 = .ok (.sipush 255, 3) := by decide +kernel
theorem dX6_at_37 : decode cX6_at 37 = .ok (.iand, 1) := by decide +kernel
theorem dX6_at_38 : decode cX6_at 38 = .ok (.ireturn, 1) := by decide +kernel
theorem dX6_eightFrom_0 : decode cX6_eightFrom 0 = .ok (.aload_n 0, 1) := by decide +kernel
theorem dX6_eightFrom_1 : decode cX6_eightFrom 1 = .ok (.iload_n 1, 1) := by decide +kernel
theorem dX6_eightFrom_2 : decode cX6_eightFrom 2 = .ok (.iload_n 2, 1) := by decide +kernel
theorem dX6_eightFrom_3 : decode cX6_eightFrom 3 = .ok (.i2l, 1) := by decide +kernel
theorem dX6_eightFrom_4 : decode cX6_eightFrom 4 = .ok (.invokevirtual 33, 3) := by decide +kernel
theorem dX6_eightFrom_7 : decode cX6_eightFrom 7 = .ok (.ifCond .ge 7, 3) := by decide +kernel
theorem dX6_eightFrom_10 : decode cX6_eightFrom 10 = .ok (.ldc2_w 36, 3) := by decide +kernel
theorem dX6_eightFrom_13 : decode cX6_eightFrom 13 = .ok (.lreturn, 1) := by decide +kernel
theorem dX6_eightFrom_14 : decode cX6_eightFrom 14 = .ok (.lconst 0, 1) := by decide +kernel
theorem dX6_eightFrom_15 : decode cX6_eightFrom 15 = .ok (.lstore_n 3, 1) := by decide +kernel
theorem dX6_eightFrom_16 : decode cX6_eightFrom 16 = .ok (.iconst 0, 1) := by decide +kernel
theorem dX6_eightFrom_17 : decode cX6_eightFrom 17 = .ok (.istore 5, 2) := by decide +kernel
theorem dX6_eightFrom_19 : decode cX6_eightFrom 19 = .ok (.iload 5, 2) := by decide +kernel
theorem dX6_eightFrom_21 : decode cX6_eightFrom 21 = .ok (.bipush 8, 2) := by decide +kernel
theorem dX6_eightFrom_23 : decode cX6_eightFrom 23 = .ok (.if_icmp .ge 40, 3) := by decide +kernel
theorem dX6_eightFrom_26 : decode cX6_eightFrom 26 = .ok (.aload_n 0, 1) := by decide +kernel
theorem dX6_eightFrom_27 : decode cX6_eightFrom 27 = .ok (.iload_n 1, 1) := by decide +kernel
theorem dX6_eightFrom_28 : decode cX6_eightFrom 28 = .ok (.iload_n 2, 1) := by decide +kernel
theorem dX6_eightFrom_29 : decode cX6_eightFrom 29 = .ok (.i2l, 1) := by decide +kernel
theorem dX6_eightFrom_30 : decode cX6_eightFrom 30 = .ok (.iload 5, 2) := by decide +kernel
theorem dX6_eightFrom_32 : decode cX6_eightFrom 32 = .ok (.i2l, 1) := by decide +kernel
theorem dX6_eightFrom_33 : decode cX6_eightFrom 33 = .ok (.ladd, 1) := by decide +kernel
theorem dX6_eightFrom_34 : decode cX6_eightFrom 34 = .ok (.invokevirtual 33, 3) := by decide +kernel
theorem dX6_eightFrom_37 : decode cX6_eightFrom 37 = .ok (.istore 6, 2) := by decide +kernel
theorem dX6_eightFrom_39 : decode cX6_eightFrom 39 = .ok (.lload_n 3, 1) := by decide +kernel
theorem dX6_eightFrom_40 : decode cX6_eightFrom 40 = .ok (.bipush 8, 2) := by decide +kernel
theorem dX6_eightFrom_42 : decode cX6_eightFrom 42 = .ok (.lshl, 1) := by decide +kernel
theorem dX6_eightFrom_43 : decode cX6_eightFrom 43 = .ok (.iload 6, 2) := by decide +kernel
theorem dX6_eightFrom_45 : decode cX6_eightFrom 45 = .ok (.ifCond .ge 7, 3) := by decide +kernel
theorem dX6_eightFrom_48 : decode cX6_eightFrom 48 = .ok (.iconst 0, 1) := by decide +kernel
theorem dX6_eightFrom_49 : decode cX6_eightFrom 49 = .ok (.goto 5, 3) := by decide +kernel
theorem dX6_eightFrom_52 : decode cX6_eightFrom 52 = .ok (.iload 6, 2) := by decide +kernel
theorem dX6_eightFrom_54 : decode cX6_eightFrom 54 = .ok (.i2l, 1) := by decide +kernel
theorem dX6_eightFrom_55 : decode cX6_eightFrom 55 = .ok (.lor, 1) := by decide +kernel
theorem dX6_eightFrom_56 : decode cX6_eightFrom 56 = .ok (.lstore_n 3, 1) := by decide +kernel
theorem dX6_eightFrom_57 : decode cX6_eightFrom 57 = .ok (.iinc 5 1, 3) := by decide +kernel
theorem dX6_eightFrom_60 : decode cX6_eightFrom 60 = .ok (.goto (-41), 3) := by decide +kernel
theorem dX6_eightFrom_63 : decode cX6_eightFrom 63 = .ok (.lload_n 3, 1) := by decide +kernel
theorem dX6_eightFrom_64 : decode cX6_eightFrom 64 = .ok (.lreturn, 1) := by decide +kernel
theorem dX7_init_0 : decode cX7_init 0 = .ok (.aload_n 0, 1) := by decide +kernel
theorem dX7_init_1 : decode cX7_init 1 = .ok (.invokespecial 3, 3) := by decide +kernel
theorem dX7_init_4 : decode cX7_init 4 = .ok (.aload_n 0, 1) := by decide +kernel
theorem dX7_init_5 : decode cX7_init 5 = .ok (.sipush 4000, 3) := by decide +kernel
theorem dX7_init_8 : decode cX7_init 8 = .ok (.newarray .long, 2) := by decide +kernel
theorem dX7_init_10 : decode cX7_init 10 = .ok (.putfield 11, 3) := by decide +kernel
theorem dX7_init_13 : decode cX7_init 13 = .ok (.return_, 1) := by decide +kernel
theorem dX7_takeTape_0 : decode cX7_takeTape 0 = .ok (.aload_n 1, 1) := by decide +kernel
theorem dX7_takeTape_1 : decode cX7_takeTape 1 = .ok (.getfield 15, 3) := by decide +kernel
theorem dX7_takeTape_4 : decode cX7_takeTape 4 = .ok (.ifCond .eq 13, 3) := by decide +kernel
theorem dX7_takeTape_7 : decode cX7_takeTape 7 = .ok (.aload_n 1, 1) := by decide +kernel
theorem dX7_takeTape_8 : decode cX7_takeTape 8 = .ok (.getfield 15, 3) := by decide +kernel
theorem dX7_takeTape_11 : decode cX7_takeTape 11 = .ok (.bipush 8, 2) := by decide +kernel
theorem dX7_takeTape_13 : decode cX7_takeTape 13 = .ok (.irem, 1) := by decide +kernel
theorem dX7_takeTape_14 : decode cX7_takeTape 14 = .ok (.ifCond .eq 5, 3) := by decide +kernel
theorem dX7_takeTape_17 : decode cX7_takeTape 17 = .ok (.iconst (-1), 1) := by decide +kernel
theorem dX7_takeTape_18 : decode cX7_takeTape 18 = .ok (.ireturn, 1) := by decide +kernel
theorem dX7_takeTape_19 : decode cX7_takeTape 19 = .ok (.aload_n 0, 1) := by decide +kernel
theorem dX7_takeTape_20 : decode cX7_takeTape 20 = .ok (.aload_n 1, 1) := by decide +kernel
theorem dX7_takeTape_21 : decode cX7_takeTape 21 = .ok (.getfield 15, 3) := by decide +kernel
theorem dX7_takeTape_24 : decode cX7_takeTape 24 = .ok (.bipush 8, 2) := by decide +kernel
theorem dX7_takeTape_26 : decode cX7_takeTape 26 = .ok (.idiv, 1) := by decide +kernel
theorem dX7_takeTape_27 : decode cX7_takeTape 27 = .ok (.putfield 21, 3) := by decide +kernel
theorem dX7_takeTape_30 : decode cX7_takeTape 30 = .ok (.iconst 0, 1) := by decide +kernel
theorem dX7_takeTape_31 : decode cX7_takeTape 31 = .ok (.istore_n 2, 1) := by decide +kernel
theorem dX7_takeTape_32 : decode cX7_takeTape 32 = .ok (.iload_n 2, 1) := by decide +kernel
theorem dX7_takeTape_33 : decode cX7_takeTape 33 = .ok (.aload_n 0, 1) := by decide +kernel
theorem dX7_takeTape_34 : decode cX7_takeTape 34 = .ok (.getfield 21, 3) := by decide +kernel
theorem dX7_takeTape_37 : decode cX7_takeTape 37 = .ok (.if_icmp .ge 25, 3) := by decide +kernel
theorem dX7_takeTape_40 : decode cX7_takeTape 40 = .ok (.aload_n 0, 1) := by decide +kernel
theorem dX7_takeTape_41 : decode cX7_takeTape 41 = .ok (.getfield 11, 3) := by decide +kernel
theorem dX7_takeTape_44 : decode cX7_takeTape 44 = .ok (.iload_n 2, 1) := by decide +kernel
theorem dX7_takeTape_45 : decode cX7_takeTape 45 = .ok (.aload_n 1, 1) := by decide +kernel
theorem dX7_takeTape_46 : decode cX7_takeTape 46 = .ok (.bipush 8, 2) := by decide +kernel
theorem dX7_takeTape_48 : decode cX7_takeTape 48 = .ok (.iload_n 2, 1) := by decide +kernel
theorem dX7_takeTape_49 : decode cX7_takeTape 49 = .ok (.imul, 1) := by decide +kernel
theorem dX7_takeTape_50 : decode cX7_takeTape 50 = .ok (.bipush 8, 2) := by decide +kernel
theorem dX7_takeTape_52 : decode cX7_takeTape 52 = .ok (.invokevirtual 22, 3) := by decide +kernel
theorem dX7_takeTape_55 : decode cX7_takeTape 55 = .ok (.lastore, 1) := by decide +kernel
theorem dX7_takeTape_56 : decode cX7_takeTape 56 = .ok (.iinc 2 1, 3) := by decide +kernel
theorem dX7_takeTape_59 : decode cX7_takeTape 59 = .ok (.goto (-27), 3) := by decide +kernel
theorem dX7_takeTape_62 : decode cX7_takeTape 62 = .ok (.aload_n 0, 1) := by decide +kernel
theorem dX7_takeTape_63 : decode cX7_takeTape 63 = .ok (.getfield 21, 3) := by decide +kernel
theorem dX7_takeTape_66 : decode cX7_takeTape 66 = .ok (.ireturn, 1) := by decide +kernel
theorem dX7_at_0 : decode cX7_at 0 = .ok (.iload_n 1, 1) := by decide +kernel
theorem dX7_at_1 : decode cX7_at 1 = .ok (.ifCond .lt 11, 3) := by decide +kernel
theorem dX7_at_4 : decode cX7_at 4 = .ok (.iload_n 1, 1) := by decide +kernel
theorem dX7_at_5 : decode cX7_at 5 = .ok (.aload_n 0, 1) := by decide +kernel
theorem dX7_at_6 : decode cX7_at 6 = .ok (.getfield 21, 3) := by decide +kernel
theorem dX7_at_9 : decode cX7_at 9 = .ok (.if_icmp .lt 7, 3) := by decide +kernel
theorem dX7_at_12 : decode cX7_at 12 = .ok (.lconst 0, 1) := by decide +kernel
theorem dX7_at_13 : decode cX7_at 13 = .ok (.goto 9, 3) := by decide +kernel
theorem dX7_at_16 : decode cX7_at 16 = .ok (.aload_n 0, 1) := by decide +kernel
theorem dX7_at_17 : decode cX7_at 17 = .ok (.getfield 11, 3) := by decide +kernel
theorem dX7_at_20 : decode cX7_at 20 = .ok (.iload_n 1, 1) := by decide +kernel
theorem dX7_at_21 : decode cX7_at 21 = .ok (.laload, 1) := by decide +kernel
theorem dX7_at_22 : decode cX7_at 22 = .ok (.lreturn, 1) := by decide +kernel
theorem dX8_init_0 : decode cX8_init 0 = .ok (.aload_n 0, 1) := by decide +kernel
theorem dX8_init_1 : decode cX8_init 1 = .ok (.invokespecial 3, 3) := by decide +kernel
theorem dX8_init_4 : decode cX8_init 4 = .ok (.aload_n 0, 1) := by decide +kernel
theorem dX8_init_5 : decode cX8_init 5 = .ok (.aload_n 1, 1) := by decide +kernel
theorem dX8_init_6 : decode cX8_init 6 = .ok (.putfield 9, 3) := by decide +kernel
theorem dX8_init_9 : decode cX8_init 9 = .ok (.aload_n 0, 1) := by decide +kernel
theorem dX8_init_10 : decode cX8_init 10 = .ok (.aload_n 2, 1) := by decide +kernel
theorem dX8_init_11 : decode cX8_init 11 = .ok (.putfield 15, 3) := by decide +kernel
theorem dX8_init_14 : decode cX8_init 14 = .ok (.return_, 1) := by decide +kernel
theorem dX8_begin_0 : decode cX8_begin 0 = .ok (.aload_n 0, 1) := by decide +kernel
theorem dX8_begin_1 : decode cX8_begin 1 = .ok (.aload_n 1, 1) := by decide +kernel
theorem dX8_begin_2 : decode cX8_begin 2 = .ok (.putfield 15, 3) := by decide +kernel
theorem dX8_begin_5 : decode cX8_begin 5 = .ok (.aload_n 0, 1) := by decide +kernel
theorem dX8_begin_6 : decode cX8_begin 6 = .ok (.getfield 15, 3) := by decide +kernel
theorem dX8_begin_9 : decode cX8_begin 9 = .ok (.invokevirtual 19, 3) := by decide +kernel
theorem dX8_begin_12 : decode cX8_begin 12 = .ok (.aload_n 0, 1) := by decide +kernel
theorem dX8_begin_13 : decode cX8_begin 13 = .ok (.iconst 0, 1) := by decide +kernel
theorem dX8_begin_14 : decode cX8_begin 14 = .ok (.putfield 24, 3) := by decide +kernel
theorem dX8_begin_17 : decode cX8_begin 17 = .ok (.aload_n 0, 1) := by decide +kernel
theorem dX8_begin_18 : decode cX8_begin 18 = .ok (.iconst (-1), 1) := by decide +kernel
theorem dX8_begin_19 : decode cX8_begin 19 = .ok (.putfield 28, 3) := by decide +kernel
theorem dX8_begin_22 : decode cX8_begin 22 = .ok (.aload_n 0, 1) := by decide +kernel
theorem dX8_begin_23 : decode cX8_begin 23 = .ok (.iconst 1, 1) := by decide +kernel
theorem dX8_begin_24 : decode cX8_begin 24 = .ok (.putfield 31, 3) := by decide +kernel
theorem dX8_begin_27 : decode cX8_begin 27 = .ok (.aload_n 0, 1) := by decide +kernel
theorem dX8_begin_28 : decode cX8_begin 28 = .ok (.invokevirtual 34, 3) := by decide +kernel
theorem dX8_begin_31 : decode cX8_begin 31 = .ok (.return_, 1) := by decide +kernel
theorem dX8_wrongPlace_0 : decode cX8_wrongPlace 0 = .ok (.aload_n 0, 1) := by decide +kernel
theorem dX8_wrongPlace_1 : decode cX8_wrongPlace 1 = .ok (.getfield 31, 3) := by decide +kernel
theorem dX8_wrongPlace_4 : decode cX8_wrongPlace 4 = .ok (.iconst 1, 1) := by decide +kernel
theorem dX8_wrongPlace_5 : decode cX8_wrongPlace 5 = .ok (.if_icmp .eq 7, 3) := by decide +kernel
theorem dX8_wrongPlace_8 : decode cX8_wrongPlace 8 = .ok (.aload_n 0, 1) := by decide +kernel
theorem dX8_wrongPlace_9 : decode cX8_wrongPlace 9 = .ok (.invokevirtual 37, 3) := by decide +kernel
theorem dX8_wrongPlace_12 : decode cX8_wrongPlace 12 = .ok (.aload_n 0, 1) := by decide +kernel
theorem dX8_wrongPlace_13 : decode cX8_wrongPlace 13 = .ok (.getfield 28, 3) := by decide +kernel
theorem dX8_wrongPlace_16 : decode cX8_wrongPlace 16 = .ok (.ireturn, 1) := by decide +kernel
theorem dX8_fail_0 : decode cX8_fail 0 = .ok (.aload_n 0, 1) := by decide +kernel
theorem dX8_fail_1 : decode cX8_fail 1 = .ok (.getfield 28, 3) := by decide +kernel
theorem dX8_fail_4 : decode cX8_fail 4 = .ok (.ifCond .ge 11, 3) := by decide +kernel
theorem dX8_fail_7 : decode cX8_fail 7 = .ok (.aload_n 0, 1) := by decide +kernel
theorem dX8_fail_8 : decode cX8_fail 8 = .ok (.aload_n 0, 1) := by decide +kernel
theorem dX8_fail_9 : decode cX8_fail 9 = .ok (.getfield 40, 3) := by decide +kernel
theorem dX8_fail_12 : decode cX8_fail 12 = .ok (.putfield 28, 3) := by decide +kernel
theorem dX8_fail_15 : decode cX8_fail 15 = .ok (.aload_n 0, 1) := by decide +kernel
theorem dX8_fail_16 : decode cX8_fail 16 = .ok (.iconst 3, 1) := by decide +kernel
theorem dX8_fail_17 : decode cX8_fail 17 = .ok (.putfield 31, 3) := by decide +kernel
theorem dX8_fail_20 : decode cX8_fail 20 = .ok (.return_, 1) := by decide +kernel
theorem dX8_next_0 : decode cX8_next 0 = .ok (.aload_n 0, 1) := by decide +kernel
theorem dX8_next_1 : decode cX8_next 1 = .ok (.getfield 28, 3) := by decide +kernel
theorem dX8_next_4 : decode cX8_next 4 = .ok (.ifCond .lt 4, 3) := by decide +kernel
theorem dX8_next_7 : decode cX8_next 7 = .ok (.return_, 1) := by decide +kernel
theorem dX8_next_8 : decode cX8_next 8 = .ok (.aload_n 0, 1) := by decide +kernel
theorem dX8_next_9 : decode cX8_next 9 = .ok (.aload_n 0, 1) := by decide +kernel
theorem dX8_next_10 : decode cX8_next 10 = .ok (.aload_n 0, 1) := by decide +kernel
theorem dX8_next_11 : decode cX8_next 11 = .ok (.getfield 24, 3) := by decide +kernel
theorem dX8_next_14 : decode cX8_next 14 = .ok (.invokevirtual 43, 3) := by decide +kernel
theorem dX8_next_17 : decode cX8_next 17 = .ok (.putfield 40, 3) := by decide +kernel
theorem dX8_next_20 : decode cX8_next 20 = .ok (.aload_n 0, 1) := by decide +kernel
theorem dX8_next_21 : decode cX8_next 21 = .ok (.aload_n 0, 1) := by decide +kernel
theorem dX8_next_22 : decode cX8_next 22 = .ok (.getfield 40, 3) := by decide +kernel
theorem dX8_next_25 : decode cX8_next 25 = .ok (.iconst 1, 1) := by decide +kernel
theorem dX8_next_26 : decode cX8_next 26 = .ok (.iadd, 1) := by decide +kernel
theorem dX8_next_27 : decode cX8_next 27 = .ok (.putfield 24, 3) := by decide +kernel
theorem dX8_next_30 : decode cX8_next 30 = .ok (.aload_n 0, 1) := by decide +kernel
theorem dX8_next_31 : decode cX8_next 31 = .ok (.getfield 9, 3) := by decide +kernel
theorem dX8_next_34 : decode cX8_next 34 = .ok (.aload_n 0, 1) := by decide +kernel
theorem dX8_next_35 : decode cX8_next 35 = .ok (.getfield 40, 3) := by decide +kernel
theorem dX8_next_38 : decode cX8_next 38 = .ok (.invokevirtual 47, 3) := by decide +kernel
theorem dX8_next_41 : decode cX8_next 41 = .ok (.istore_n 1, 1) := by decide +kernel
theorem dX8_next_42 : decode cX8_next 42 = .ok (.iload_n 1, 1) := by decide +kernel
theorem dX8_next_43 : decode cX8_next 43 = .ok (.ifCond .ge 11, 3) := by decide +kernel
theorem dX8_next_46 : decode cX8_next 46 = .ok (.aload_n 0, 1) := by decide +kernel
theorem dX8_next_47 : decode cX8_next 47 = .ok (.iconst 1, 1) := by decide +kernel
theorem dX8_next_48 : decode cX8_next 48 = .ok (.putfield 31, 3) := by decide +kernel
theorem dX8_next_51 : decode cX8_next 51 = .ok (.goto 71, 3) := by decide +kernel
theorem dX8_next_54 : decode cX8_next 54 = .ok (.iload_n 1, 1) := by decide +kernel
theorem dX8_next_55 : decode cX8_next 55 = .ok (.invokestatic 52, 3) := by decide +kernel
theorem dX8_next_58 : decode cX8_next 58 = .ok (.ifCond .eq 23, 3) := by decide +kernel
theorem dX8_next_61 : decode cX8_next 61 = .ok (.aload_n 0, 1) := by decide +kernel
theorem dX8_next_62 : decode cX8_next 62 = .ok (.iconst 2, 1) := by decide +kernel
theorem dX8_next_63 : decode cX8_next 63 = .ok (.putfield 31, 3) := by decide +kernel
theorem dX8_next_66 : decode cX8_next 66 = .ok (.aload_n 0, 1) := by decide +kernel
theorem dX8_next_67 : decode cX8_next 67 = .ok (.aload_n 0, 1) := by decide +kernel
theorem dX8_next_68 : decode cX8_next 68 = .ok (.aload_n 0, 1) := by decide +kernel
theorem dX8_next_69 : decode cX8_next 69 = .ok (.getfield 40, 3) := by decide +kernel
theorem dX8_next_72 : decode cX8_next 72 = .ok (.invokevirtual 56, 3) := by decide +kernel
theorem dX8_next_75 : decode cX8_next 75 = .ok (.putfield 24, 3) := by decide +kernel
theorem dX8_next_78 : decode cX8_next 78 = .ok (.goto 44, 3) := by decide +kernel
theorem dX8_next_81 : decode cX8_next 81 = .ok (.aload_n 0, 1) := by decide +kernel
theorem dX8_next_82 : decode cX8_next 82 = .ok (.iload_n 1, 1) := by decide +kernel
theorem dX8_next_83 : decode cX8_next 83 = .ok (.aload_n 0, 1) := by decide +kernel
theorem dX8_next_84 : decode cX8_next 84 = .ok (.getfield 9, 3) := by decide +kernel
theorem dX8_next_87 : decode cX8_next 87 = .ok (.aload_n 0, 1) := by decide +kernel
theorem dX8_next_88 : decode cX8_next 88 = .ok (.getfield 40, 3) := by decide +kernel
theorem dX8_next_91 : decode cX8_next 91 = .ok (.iconst 1, 1) := by decide +kernel
theorem dX8_next_92 : decode cX8_next 92 = .ok (.iadd, 1) := by decide +kernel
theorem dX8_next_93 : decode cX8_next 93 = .ok (.invokevirtual 47, 3) := by decide +kernel
theorem dX8_next_96 : decode cX8_next 96 = .ok (.invokestatic 59, 3) := by decide +kernel
theorem dX8_next_99 : decode cX8_next 99 = .ok (.putfield 31, 3) := by decide +kernel
theorem dX8_next_102 : decode cX8_next 102 = .ok (.aload_n 0, 1) := by decide +kernel
theorem dX8_next_103 : decode cX8_next 103 = .ok (.getfield 31, 3) := by decide +kernel
theorem dX8_next_106 : decode cX8_next 106 = .ok (.sipush 256, 3) := by decide +kernel
theorem dX8_next_109 : decode cX8_next 109 = .ok (.if_icmp .lt 13, 3) := by decide +kernel
theorem dX8_next_112 : decode cX8_next 112 = .ok (.aload_n 0, 1) := by decide +kernel
theorem dX8_next_113 : decode cX8_next 113 = .ok (.aload_n 0, 1) := by decide +kernel
theorem dX8_next_114 : decode cX8_next 114 = .ok (.getfield 40, 3) := by decide +kernel
theorem dX8_next_117 : decode cX8_next 117 = .ok (.iconst 2, 1) := by decide +kernel
theorem dX8_next_118 : decode cX8_next 118 = .ok (.iadd, 1) := by decide +kernel
theorem dX8_next_119 : decode cX8_next 119 = .ok (.putfield 24, 3) := by decide +kernel
theorem dX8_next_122 : decode cX8_next 122 = .ok (.aload_n 0, 1) := by decide +kernel
theorem dX8_next_123 : decode cX8_next 123 = .ok (.getfield 31, 3) := by decide +kernel
theorem dX8_next_126 : decode cX8_next 126 = .ok (.iconst 3, 1) := by decide +kernel
theorem dX8_next_127 : decode cX8_next 127 = .ok (.if_icmp .ne 7, 3) := by decide +kernel
theorem dX8_next_130 : decode cX8_next 130 = .ok (.aload_n 0, 1) := by decide +kernel
theorem dX8_next_131 : decode cX8_next 131 = .ok (.invokevirtual 37, 3) := by decide +kernel
theorem dX8_next_134 : decode cX8_next 134 = .ok (.return_, 1) := by decide +kernel
theorem dX8_behindBlanks_0 : decode cX8_behindBlanks 0 = .ok (.iload_n 1, 1) := by decide +kernel
theorem dX8_behindBlanks_1 : decode cX8_behindBlanks 1 = .ok (.istore_n 2, 1) := by decide +kernel
theorem dX8_behindBlanks_2 : decode cX8_behindBlanks 2 = .ok (.iload_n 2, 1) := by decide +kernel
theorem dX8_behindBlanks_3 : decode cX8_behindBlanks 3 = .ok (.aload_n 0, 1) := by decide +kernel
theorem dX8_behindBlanks_4 : decode cX8_behindBlanks 4 = .ok (.getfield 9, 3) := by decide +kernel
theorem dX8_behindBlanks_7 : decode cX8_behindBlanks 7 = .ok (.getfield 63, 3) := by decide +kernel
theorem dX8_behindBlanks_10 : decode cX8_behindBlanks 10 = .ok (.if_icmp .ge 35, 3) := by decide +kernel
theorem dX8_behindBlanks_13 : decode cX8_behindBlanks 13 = .ok (.aload_n 0, 1) := by decide +kernel
theorem dX8_behindBlanks_14 : decode cX8_behindBlanks 14 = .ok (.getfield 9, 3) := by decide +kernel
theorem dX8_behindBlanks_17 : decode cX8_behindBlanks 17 = .ok (.iload_n 2, 1) := by decide +kernel
theorem dX8_behindBlanks_18 : decode cX8_behindBlanks 18 = .ok (.invokevirtual 47, 3) := by decide +kernel
theorem dX8_behindBlanks_21 : decode cX8_behindBlanks 21 = .ok (.bipush 32, 2) := by decide +kernel
theorem dX8_behindBlanks_23 : decode cX8_behindBlanks 23 = .ok (.if_icmp .eq 16, 3) := by decide +kernel
theorem dX8_behindBlanks_26 : decode cX8_behindBlanks 26 = .ok (.aload_n 0, 1) := by decide +kernel
theorem dX8_behindBlanks_27 : decode cX8_behindBlanks 27 = .ok (.getfield 9, 3) := by decide +kernel
theorem dX8_behindBlanks_30 : decode cX8_behindBlanks 30 = .ok (.iload_n 2, 1) := by decide +kernel
theorem dX8_behindBlanks_31 : decode cX8_behindBlanks 31 = .ok (.invokevirtual 47, 3) := by decide +kernel
theorem dX8_behindBlanks_34 : decode cX8_behindBlanks 34 = .ok (.bipush 10, 2) := by decide +kernel
theorem dX8_behindBlanks_36 : decode cX8_behindBlanks 36 = .ok (.if_icmp .ne 9, 3) := by decide +kernel
theorem dX8_behindBlanks_39 : decode cX8_behindBlanks 39 = .ok (.iinc 2 1, 3) := by decide +kernel
theorem dX8_behindBlanks_42 : decode cX8_behindBlanks 42 = .ok (.goto (-40), 3) := by decide +kernel
theorem dX8_behindBlanks_45 : decode cX8_behindBlanks 45 = .ok (.iload_n 2, 1) := by decide +kernel
theorem dX8_behindBlanks_46 : decode cX8_behindBlanks 46 = .ok (.ireturn, 1) := by decide +kernel
theorem dX8_isWord_0 : decode cX8_isWord 0 = .ok (.aload_n 0, 1) := by decide +kernel
theorem dX8_isWord_1 : decode cX8_isWord 1 = .ok (.getfield 31, 3) := by decide +kernel
theorem dX8_isWord_4 : decode cX8_isWord 4 = .ok (.iconst 2, 1) := by decide +kernel
theorem dX8_isWord_5 : decode cX8_isWord 5 = .ok (.if_icmp .ne 19, 3) := by decide +kernel
theorem dX8_isWord_8 : decode cX8_isWord 8 = .ok (.aload_n 0, 1) := by decide +kernel
theorem dX8_isWord_9 : decode cX8_isWord 9 = .ok (.getfield 24, 3) := by decide +kernel
theorem dX8_isWord_12 : decode cX8_isWord 12 = .ok (.aload_n 0, 1) := by decide +kernel
theorem dX8_isWord_13 : decode cX8_isWord 13 = .ok (.getfield 40, 3) := by decide +kernel
theorem dX8_isWord_16 : decode cX8_isWord 16 = .ok (.isub, 1) := by decide +kernel
theorem dX8_isWord_17 : decode cX8_isWord 17 = .ok (.aload_n 1, 1) := by decide +kernel
theorem dX8_isWord_18 : decode cX8_isWord 18 = .ok (.invokevirtual 66, 3) := by decide +kernel
theorem dX8_isWord_21 : decode cX8_isWord 21 = .ok (.if_icmp .eq 5, 3) := by decide +kernel
theorem dX8_isWord_24 : decode cX8_isWord 24 = .ok (.iconst 0, 1) := by decide +kernel
theorem dX8_isWord_25 : decode cX8_isWord 25 = .ok (.ireturn, 1) := by decide +kernel
theorem dX8_isWord_26 : decode cX8_isWord 26 = .ok (.iconst 0, 1) := by decide +kernel
theorem dX8_isWord_27 : decode cX8_isWord 27 = .ok (.istore_n 2, 1) := by decide +kernel
theorem dX8_isWord_28 : decode cX8_isWord 28 = .ok (.iload_n 2, 1) := by decide +kernel
theorem dX8_isWord_29 : decode cX8_isWord 29 = .ok (.aload_n 1, 1) := by decide +kernel
theorem dX8_isWord_30 : decode cX8_isWord 30 = .ok (.invokevirtual 66, 3) := by decide +kernel
theorem dX8_isWord_33 : decode cX8_isWord 33 = .ok (.if_icmp .ge 32, 3) := by decide +kernel
theorem dX8_isWord_36 : decode cX8_isWord 36 = .ok (.aload_n 0, 1) := by decide +kernel
theorem dX8_isWord_37 : decode cX8_isWord 37 = .ok (.getfield 9, 3) := by decide +kernel
theorem dX8_isWord_40 : decode cX8_isWord 40 = .ok (.aload_n 0, 1) := by decide +kernel
theorem dX8_isWord_41 : decode cX8_isWord 41 = .ok (.getfield 40, 3) := by decide +kernel
theorem dX8_isWord_44 : decode cX8_isWord 44 = .ok (.iload_n 2, 1) := by decide +kernel
theorem dX8_isWord_45 : decode cX8_isWord 45 = .ok (.iadd, 1) := by decide +kernel
theorem dX8_isWord_46 : decode cX8_isWord 46 = .ok (.invokevirtual 47, 3) := by decide +kernel
theorem dX8_isWord_49 : decode cX8_isWord 49 = .ok (.aload_n 1, 1) := by decide +kernel
theorem dX8_isWord_50 : decode cX8_isWord 50 = .ok (.iload_n 2, 1) := by decide +kernel
theorem dX8_isWord_51 : decode cX8_isWord 51 = .ok (.invokevirtual 71, 3) := by decide +kernel
theorem dX8_isWord_54 : decode cX8_isWord 54 = .ok (.if_icmp .eq 5, 3) := by decide +kernel
theorem dX8_isWord_57 : decode cX8_isWord 57 = .ok (.iconst 0, 1) := by decide +kernel
theorem dX8_isWord_58 : decode cX8_isWord 58 = .ok (.ireturn, 1) := by decide +kernel
theorem dX8_isWord_59 : decode cX8_isWord 59 = .ok (.iinc 2 1, 3) := by decide +kernel
theorem dX8_isWord_62 : decode cX8_isWord 62 = .ok (.goto (-34), 3) := by decide +kernel
theorem dX8_isWord_65 : decode cX8_isWord 65 = .ok (.iconst 1, 1) := by decide +kernel
theorem dX8_isWord_66 : decode cX8_isWord 66 = .ok (.ireturn, 1) := by decide +kernel
theorem dX8_protocol_0 : decode cX8_protocol 0 = .ok (.aload_n 0, 1) := by decide +kernel
theorem dX8_protocol_1 : decode cX8_protocol 1 = .ok (.ldc 75, 2) := by decide +kernel
theorem dX8_protocol_3 : decode cX8_protocol 3 = .ok (.invokevirtual 77, 3) := by decide +kernel
theorem dX8_protocol_6 : decode cX8_protocol 6 = .ok (.ifCond .eq 7, 3) := by decide +kernel
theorem dX8_protocol_9 : decode cX8_protocol 9 = .ok (.iconst 0, 1) := by decide +kernel
theorem dX8_protocol_10 : decode cX8_protocol 10 = .ok (.goto 83, 3) := by decide +kernel
theorem dX8_protocol_13 : decode cX8_protocol 13 = .ok (.aload_n 0, 1) := by decide +kernel
theorem dX8_protocol_14 : decode cX8_protocol 14 = .ok (.ldc 81, 2) := by decide +kernel
theorem dX8_protocol_16 : decode cX8_protocol 16 = .ok (.invokevirtual 77, 3) := by decide +kernel
theorem dX8_protocol_19 : decode cX8_protocol 19 = .ok (.ifCond .eq 7, 3) := by decide +kernel
theorem dX8_protocol_22 : decode cX8_protocol 22 = .ok (.iconst 1, 1) := by decide +kernel
theorem dX8_protocol_23 : decode cX8_protocol 23 = .ok (.goto 70, 3) := by decide +kernel
theorem dX8_protocol_26 : decode cX8_protocol 26 = .ok (.aload_n 0, 1) := by decide +kernel
theorem dX8_protocol_27 : decode cX8_protocol 27 = .ok (.ldc 83, 2) := by decide +kernel
theorem dX8_protocol_29 : decode cX8_protocol 29 = .ok (.invokevirtual 77, 3) := by decide +kernel
theorem dX8_protocol_32 : decode cX8_protocol 32 = .ok (.ifCond .eq 7, 3) := by decide +kernel
theorem dX8_protocol_35 : decode cX8_protocol 35 = .ok (.iconst 2, 1) := by decide +kernel
theorem dX8_protocol_36 : decode cX8_protocol 36 = .ok (.goto 57, 3) := by decide +kernel
theorem dX8_protocol_39 : decode cX8_protocol 39 = .ok (.aload_n 0, 1) := by decide +kernel
theorem dX8_protocol_40 : decode cX8_protocol 40 = .ok (.ldc 85, 2) := by decide +kernel
theorem dX8_protocol_42 : decode cX8_protocol 42 = .ok (.invokevirtual 77, 3) := by decide +kernel
theorem dX8_protocol_45 : decode cX8_protocol 45 = .ok (.ifCond .eq 7, 3) := by decide +kernel
theorem dX8_protocol_48 : decode cX8_protocol 48 = .ok (.iconst 3, 1) := by decide +kernel
theorem dX8_protocol_49 : decode cX8_protocol 49 = .ok (.goto 44, 3) := by decide +kernel
theorem dX8_protocol_52 : decode cX8_protocol 52 = .ok (.aload_n 0, 1) := by decide +kernel
theorem dX8_protocol_53 : decode cX8_protocol 53 = .ok (.ldc 87, 2) := by decide +kernel
theorem dX8_protocol_55 : decode cX8_protocol 55 = .ok (.invokevirtual 77, 3) := by decide +kernel
theorem dX8_protocol_58 : decode cX8_protocol 58 = .ok (.ifCond .eq 7, 3) := by decide +kernel
theorem dX8_protocol_61 : decode cX8_protocol 61 = .ok (.iconst 4, 1) := by decide +kernel
theorem dX8_protocol_62 : decode cX8_protocol 62 = .ok (.goto 31, 3) := by decide +kernel
theorem dX8_protocol_65 : decode cX8_protocol 65 = .ok (.aload_n 0, 1) := by decide +kernel
theorem dX8_protocol_66 : decode cX8_protocol 66 = .ok (.ldc 89, 2) := by decide +kernel
theorem dX8_protocol_68 : decode cX8_protocol 68 = .ok (.invokevirtual 77, 3) := by decide +kernel
theorem dX8_protocol_71 : decode cX8_protocol 71 = .ok (.ifCond .eq 7, 3) := by decide +kernel
theorem dX8_protocol_74 : decode cX8_protocol 74 = .ok (.iconst 5, 1) := by decide +kernel
theorem dX8_protocol_75 : decode cX8_protocol 75 = .ok (.goto 18, 3) := by decide +kernel
theorem dX8_protocol_78 : decode cX8_protocol 78 = .ok (.aload_n 0, 1) := by decide +kernel
theorem dX8_protocol_79 : decode cX8_protocol 79 = .ok (.ldc 91, 2) := by decide +kernel
theorem dX8_protocol_81 : decode cX8_protocol 81 = .ok (.invokevirtual 77, 3) := by decide +kernel
theorem dX8_protocol_84 : decode cX8_protocol 84 = .ok (.ifCond .eq 8, 3) := by decide +kernel
theorem dX8_protocol_87 : decode cX8_protocol 87 = .ok (.bipush 6, 2) := by decide +kernel
theorem dX8_protocol_89 : decode cX8_protocol 89 = .ok (.goto 4, 3) := by decide +kernel
theorem dX8_protocol_92 : decode cX8_protocol 92 = .ok (.iconst (-1), 1) := by decide +kernel
theorem dX8_protocol_93 : decode cX8_protocol 93 = .ok (.ireturn, 1) := by decide +kernel
theorem dX8_number_0 : decode cX8_number 0 = .ok (.aload_n 0, 1) := by decide +kernel
theorem dX8_number_1 : decode cX8_number 1 = .ok (.getfield 31, 3) := by decide +kernel
theorem dX8_number_4 : decode cX8_number 4 = .ok (.iconst 2, 1) := by decide +kernel
theorem dX8_number_5 : decode cX8_number 5 = .ok (.if_icmp .eq 7, 3) := by decide +kernel
theorem dX8_number_8 : decode cX8_number 8 = .ok (.ldc2_w 93, 3) := by decide +kernel
theorem dX8_number_11 : decode cX8_number 11 = .ok (.lreturn, 1) := by decide +kernel
theorem dX8_number_12 : decode cX8_number 12 = .ok (.aload_n 0, 1) := by decide +kernel
theorem dX8_number_13 : decode cX8_number 13 = .ok (.getfield 9, 3) := by decide +kernel
theorem dX8_number_16 : decode cX8_number 16 = .ok (.aload_n 0, 1) := by decide +kernel
theorem dX8_number_17 : decode cX8_number 17 = .ok (.getfield 40, 3) := by decide +kernel
theorem dX8_number_20 : decode cX8_number 20 = .ok (.invokevirtual 47, 3) := by decide +kernel
theorem dX8_number_23 : decode cX8_number 23 = .ok (.bipush 48, 2) := by decide +kernel
theorem dX8_number_25 : decode cX8_number 25 = .ok (.if_icmp .ne 26, 3) := by decide +kernel
theorem dX8_number_28 : decode cX8_number 28 = .ok (.aload_n 0, 1) := by decide +kernel
theorem dX8_number_29 : decode cX8_number 29 = .ok (.getfield 9, 3) := by decide +kernel
theorem dX8_number_32 : decode cX8_number 32 = .ok (.aload_n 0, 1) := by decide +kernel
theorem dX8_number_33 : decode cX8_number 33 = .ok (.getfield 40, 3) := by decide +kernel
theorem dX8_number_36 : decode cX8_number 36 = .ok (.iconst 1, 1) := by decide +kernel
theorem dX8_number_37 : decode cX8_number 37 = .ok (.iadd, 1) := by decide +kernel
theorem dX8_number_38 : decode cX8_number 38 = .ok (.invokevirtual 47, 3) := by decide +kernel
theorem dX8_number_41 : decode cX8_number 41 = .ok (.bipush 120, 2) := by decide +kernel
theorem dX8_number_43 : decode cX8_number 43 = .ok (.if_icmp .ne 8, 3) := by decide +kernel
theorem dX8_number_46 : decode cX8_number 46 = .ok (.aload_n 0, 1) := by decide +kernel
theorem dX8_number_47 : decode cX8_number 47 = .ok (.invokevirtual 95, 3) := by decide +kernel
theorem dX8_number_50 : decode cX8_number 50 = .ok (.lreturn, 1) := by decide +kernel
theorem dX8_number_51 : decode cX8_number 51 = .ok (.aload_n 0, 1) := by decide +kernel
theorem dX8_number_52 : decode cX8_number 52 = .ok (.aload_n 0, 1) := by decide +kernel
theorem dX8_number_53 : decode cX8_number 53 = .ok (.getfield 40, 3) := by decide +kernel
theorem dX8_number_56 : decode cX8_number 56 = .ok (.aload_n 0, 1) := by decide +kernel
theorem dX8_number_57 : decode cX8_number 57 = .ok (.getfield 24, 3) := by decide +kernel
theorem dX8_number_60 : decode cX8_number 60 = .ok (.ldc2_w 99, 3) := by decide +kernel
theorem dX8_number_63 : decode cX8_number 63 = .ok (.invokevirtual 101, 3) := by decide +kernel
theorem dX8_number_66 : decode cX8_number 66 = .ok (.lreturn, 1) := by decide +kernel
theorem dX8_readFilter_0 : decode cX8_readFilter 0 = .ok (.iconst 1, 1) := by decide +kernel
theorem dX8_readFilter_1 : decode cX8_readFilter 1 = .ok (.istore 4, 2) := by decide +kernel
theorem dX8_readFilter_3 : decode cX8_readFilter 3 = .ok (.iconst 0, 1) := by decide +kernel
theorem dX8_readFilter_4 : decode cX8_readFilter 4 = .ok (.istore 5, 2) := by decide +kernel
theorem dX8_readFilter_6 : decode cX8_readFilter 6 = .ok (.iload 4, 2) := by decide +kernel
theorem dX8_readFilter_8 : decode cX8_readFilter 8 = .ok (.ifCond .eq 73, 3) := by decide +kernel
theorem dX8_readFilter_11 : decode cX8_readFilter 11 = .ok (.iload 5, 2) := by decide +kernel
theorem dX8_readFilter_13 : decode cX8_readFilter 13 = .ok (.sipush 2000, 3) := by decide +kernel
theorem dX8_readFilter_16 : decode cX8_readFilter 16 = .ok (.if_icmp .ge 65, 3) := by decide +kernel
theorem dX8_readFilter_19 : decode cX8_readFilter 19 = .ok (.aload_n 0, 1) := by decide +kernel
theorem dX8_readFilter_20 : decode cX8_readFilter 20 = .ok (.getfield 15, 3) := by decide +kernel
theorem dX8_readFilter_23 : decode cX8_readFilter 23 = .ok (.invokevirtual 129, 3) := by decide +kernel
theorem dX8_readFilter_26 : decode cX8_readFilter 26 = .ok (.istore 6, 2) := by decide +kernel
theorem dX8_readFilter_28 : decode cX8_readFilter 28 = .ok (.aload_n 0, 1) := by decide +kernel
theorem dX8_readFilter_29 : decode cX8_readFilter 29 = .ok (.iload_n 1, 1) := by decide +kernel
theorem dX8_readFilter_30 : decode cX8_readFilter 30 = .ok (.iload 6, 2) := by decide +kernel
theorem dX8_readFilter_32 : decode cX8_readFilter 32 = .ok (.iload_n 3, 1) := by decide +kernel
theorem dX8_readFilter_33 : decode cX8_readFilter 33 = .ok (.invokevirtual 132, 3) := by decide +kernel
theorem dX8_readFilter_36 : decode cX8_readFilter 36 = .ok (.aload_n 0, 1) := by decide +kernel
theorem dX8_readFilter_37 : decode cX8_readFilter 37 = .ok (.ldc 136, 2) := by decide +kernel
theorem dX8_readFilter_39 : decode cX8_readFilter 39 = .ok (.invokevirtual 77, 3) := by decide +kernel
theorem dX8_readFilter_42 : decode cX8_readFilter 42 = .ok (.istore 4, 2) := by decide +kernel
theorem dX8_readFilter_44 : decode cX8_readFilter 44 = .ok (.iload 4, 2) := by decide +kernel
theorem dX8_readFilter_46 : decode cX8_readFilter 46 = .ok (.ifCond .eq 19, 3) := by decide +kernel
theorem dX8_readFilter_49 : decode cX8_readFilter 49 = .ok (.aload_n 0, 1) := by decide +kernel
theorem dX8_readFilter_50 : decode cX8_readFilter 50 = .ok (.getfield 15, 3) := by decide +kernel
theorem dX8_readFilter_53 : decode cX8_readFilter 53 = .ok (.iload 6, 2) := by decide +kernel
theorem dX8_readFilter_55 : decode cX8_readFilter 55 = .ok (.invokevirtual 138, 3) := by decide +kernel
theorem dX8_readFilter_58 : decode cX8_readFilter 58 = .ok (.aload_n 0, 1) := by decide +kernel
theorem dX8_readFilter_59 : decode cX8_readFilter 59 = .ok (.invokevirtual 34, 3) := by decide +kernel
theorem dX8_readFilter_62 : decode cX8_readFilter 62 = .ok (.goto 13, 3) := by decide +kernel
theorem dX8_readFilter_65 : decode cX8_readFilter 65 = .ok (.aload_n 0, 1) := by decide +kernel
theorem dX8_readFilter_66 : decode cX8_readFilter 66 = .ok (.getfield 15, 3) := by decide +kernel
theorem dX8_readFilter_69 : decode cX8_readFilter 69 = .ok (.iload 6, 2) := by decide +kernel
theorem dX8_readFilter_71 : decode cX8_readFilter 71 = .ok (.iload_n 2, 1) := by decide +kernel
theorem dX8_readFilter_72 : decode cX8_readFilter 72 = .ok (.invokevirtual 142, 3) := by decide +kernel
theorem dX8_readFilter_75 : decode cX8_readFilter 75 = .ok (.iinc 5 1, 3) := by decide +kernel
theorem dX8_readFilter_78 : decode cX8_readFilter 78 = .ok (.goto (-72), 3) := by decide +kernel
theorem dX8_readFilter_81 : decode cX8_readFilter 81 = .ok (.return_, 1) := by decide +kernel
theorem dX8_readRow_0 : decode cX8_readRow 0 = .ok (.iconst 1, 1) := by decide +kernel
theorem dX8_readRow_1 : decode cX8_readRow 1 = .ok (.istore 4, 2) := by decide +kernel
theorem dX8_readRow_3 : decode cX8_readRow 3 = .ok (.iconst 0, 1) := by decide +kernel
theorem dX8_readRow_4 : decode cX8_readRow 4 = .ok (.istore 5, 2) := by decide +kernel
theorem dX8_readRow_6 : decode cX8_readRow 6 = .ok (.iload 4, 2) := by decide +kernel
theorem dX8_readRow_8 : decode cX8_readRow 8 = .ok (.ifCond .eq 73, 3) := by decide +kernel
theorem dX8_readRow_11 : decode cX8_readRow 11 = .ok (.iload 5, 2) := by decide +kernel
theorem dX8_readRow_13 : decode cX8_readRow 13 = .ok (.sipush 2000, 3) := by decide +kernel
theorem dX8_readRow_16 : decode cX8_readRow 16 = .ok (.if_icmp .ge 65, 3) := by decide +kernel
theorem dX8_readRow_19 : decode cX8_readRow 19 = .ok (.aload_n 0, 1) := by decide +kernel
theorem dX8_readRow_20 : decode cX8_readRow 20 = .ok (.getfield 15, 3) := by decide +kernel
theorem dX8_readRow_23 : decode cX8_readRow 23 = .ok (.invokevirtual 129, 3) := by decide +kernel
theorem dX8_readRow_26 : decode cX8_readRow 26 = .ok (.istore 6, 2) := by decide +kernel
theorem dX8_readRow_28 : decode cX8_readRow 28 = .ok (.aload_n 0, 1) := by decide +kernel
theorem dX8_readRow_29 : decode cX8_readRow 29 = .ok (.iload 6, 2) := by decide +kernel
theorem dX8_readRow_31 : decode cX8_readRow 31 = .ok (.iload_n 2, 1) := by decide +kernel
theorem dX8_readRow_32 : decode cX8_readRow 32 = .ok (.iload_n 3, 1) := by decide +kernel
theorem dX8_readRow_33 : decode cX8_readRow 33 = .ok (.invokevirtual 146, 3) := by decide +kernel
theorem dX8_readRow_36 : decode cX8_readRow 36 = .ok (.aload_n 0, 1) := by decide +kernel
theorem dX8_readRow_37 : decode cX8_readRow 37 = .ok (.ldc 149, 2) := by decide +kernel
theorem dX8_readRow_39 : decode cX8_readRow 39 = .ok (.invokevirtual 77, 3) := by decide +kernel
theorem dX8_readRow_42 : decode cX8_readRow 42 = .ok (.istore 4, 2) := by decide +kernel
theorem dX8_readRow_44 : decode cX8_readRow 44 = .ok (.iload 4, 2) := by decide +kernel
theorem dX8_readRow_46 : decode cX8_readRow 46 = .ok (.ifCond .eq 19, 3) := by decide +kernel
theorem dX8_readRow_49 : decode cX8_readRow 49 = .ok (.aload_n 0, 1) := by decide +kernel
theorem dX8_readRow_50 : decode cX8_readRow 50 = .ok (.getfield 15, 3) := by decide +kernel
theorem dX8_readRow_53 : decode cX8_readRow 53 = .ok (.iload 6, 2) := by decide +kernel
theorem dX8_readRow_55 : decode cX8_readRow 55 = .ok (.invokevirtual 138, 3) := by decide +kernel
theorem dX8_readRow_58 : decode cX8_readRow 58 = .ok (.aload_n 0, 1) := by decide +kernel
theorem dX8_readRow_59 : decode cX8_readRow 59 = .ok (.invokevirtual 34, 3) := by decide +kernel
theorem dX8_readRow_62 : decode cX8_readRow 62 = .ok (.goto 13, 3) := by decide +kernel
theorem dX8_readRow_65 : decode cX8_readRow 65 = .ok (.aload_n 0, 1) := by decide +kernel
theorem dX8_readRow_66 : decode cX8_readRow 66 = .ok (.getfield 15, 3) := by decide +kernel
theorem dX8_readRow_69 : decode cX8_readRow 69 = .ok (.iload 6, 2) := by decide +kernel
theorem dX8_readRow_71 : decode cX8_readRow 71 = .ok (.iload_n 1, 1) := by decide +kernel
theorem dX8_readRow_72 : decode cX8_readRow 72 = .ok (.invokevirtual 142, 3) := by decide +kernel
theorem dX8_readRow_75 : decode cX8_readRow 75 = .ok (.iinc 5 1, 3) := by decide +kernel
theorem dX8_readRow_78 : decode cX8_readRow 78 = .ok (.goto (-72), 3) := by decide +kernel
theorem dX8_readRow_81 : decode cX8_readRow 81 = .ok (.return_, 1) := by decide +kernel
theorem dX8_readOne_0 : decode cX8_readOne 0 = .ok (.aload_n 0, 1) := by decide +kernel
theorem dX8_readOne_1 : decode cX8_readOne 1 = .ok (.ldc 151, 2) := by decide +kernel
theorem dX8_readOne_3 : decode cX8_readOne 3 = .ok (.invokevirtual 77, 3) := by decide +kernel
theorem dX8_readOne_6 : decode cX8_readOne 6 = .ok (.istore 4, 2) := by decide +kernel
theorem dX8_readOne_8 : decode cX8_readOne 8 = .ok (.iload 4, 2) := by decide +kernel
theorem dX8_readOne_10 : decode cX8_readOne 10 = .ok (.ifCond .ne 55, 3) := by decide +kernel
theorem dX8_readOne_13 : decode cX8_readOne 13 = .ok (.aload_n 0, 1) := by decide +kernel
theorem dX8_readOne_14 : decode cX8_readOne 14 = .ok (.getfield 31, 3) := by decide +kernel
theorem dX8_readOne_17 : decode cX8_readOne 17 = .ok (.bipush 40, 2) := by decide +kernel
theorem dX8_readOne_19 : decode cX8_readOne 19 = .ok (.if_icmp .eq 46, 3) := by decide +kernel
theorem dX8_readOne_22 : decode cX8_readOne 22 = .ok (.aload_n 0, 1) := by decide +kernel
theorem dX8_readOne_23 : decode cX8_readOne 23 = .ok (.invokevirtual 153, 3) := by decide +kernel
theorem dX8_readOne_26 : decode cX8_readOne 26 = .ok (.ifCond .eq 12, 3) := by decide +kernel
theorem dX8_readOne_29 : decode cX8_readOne 29 = .ok (.aload_n 0, 1) := by decide +kernel
theorem dX8_readOne_30 : decode cX8_readOne 30 = .ok (.iload_n 1, 1) := by decide +kernel
theorem dX8_readOne_31 : decode cX8_readOne 31 = .ok (.iload_n 2, 1) := by decide +kernel
theorem dX8_readOne_32 : decode cX8_readOne 32 = .ok (.invokevirtual 157, 3) := by decide +kernel
theorem dX8_readOne_35 : decode cX8_readOne 35 = .ok (.goto 29, 3) := by decide +kernel
theorem dX8_readOne_38 : decode cX8_readOne 38 = .ok (.aload_n 0, 1) := by decide +kernel
theorem dX8_readOne_39 : decode cX8_readOne 39 = .ok (.invokevirtual 160, 3) := by decide +kernel
theorem dX8_readOne_42 : decode cX8_readOne 42 = .ok (.ifCond .lt 16, 3) := by decide +kernel
theorem dX8_readOne_45 : decode cX8_readOne 45 = .ok (.aload_n 0, 1) := by decide +kernel
theorem dX8_readOne_46 : decode cX8_readOne 46 = .ok (.aload_n 0, 1) := by decide +kernel
theorem dX8_readOne_47 : decode cX8_readOne 47 = .ok (.invokevirtual 160, 3) := by decide +kernel
theorem dX8_readOne_50 : decode cX8_readOne 50 = .ok (.iload_n 1, 1) := by decide +kernel
theorem dX8_readOne_51 : decode cX8_readOne 51 = .ok (.iload_n 2, 1) := by decide +kernel
theorem dX8_readOne_52 : decode cX8_readOne 52 = .ok (.invokevirtual 163, 3) := by decide +kernel
theorem dX8_readOne_55 : decode cX8_readOne 55 = .ok (.goto 9, 3) := by decide +kernel
theorem dX8_readOne_58 : decode cX8_readOne 58 = .ok (.aload_n 0, 1) := by decide +kernel
theorem dX8_readOne_59 : decode cX8_readOne 59 = .ok (.iload_n 1, 1) := by decide +kernel
theorem dX8_readOne_60 : decode cX8_readOne 60 = .ok (.iload_n 2, 1) := by decide +kernel
theorem dX8_readOne_61 : decode cX8_readOne 61 = .ok (.invokevirtual 166, 3) := by decide +kernel
theorem dX8_readOne_64 : decode cX8_readOne 64 = .ok (.return_, 1) := by decide +kernel
theorem dX8_readOne_65 : decode cX8_readOne 65 = .ok (.iload_n 3, 1) := by decide +kernel
theorem dX8_readOne_66 : decode cX8_readOne 66 = .ok (.bipush 20, 2) := by decide +kernel
theorem dX8_readOne_68 : decode cX8_readOne 68 = .ok (.if_icmp .lt 8, 3) := by decide +kernel
theorem dX8_readOne_71 : decode cX8_readOne 71 = .ok (.aload_n 0, 1) := by decide +kernel
theorem dX8_readOne_72 : decode cX8_readOne 72 = .ok (.invokevirtual 37, 3) := by decide +kernel
theorem dX8_readOne_75 : decode cX8_readOne 75 = .ok (.return_, 1) := by decide +kernel
theorem dX8_readOne_76 : decode cX8_readOne 76 = .ok (.aload_n 0, 1) := by decide +kernel
theorem dX8_readOne_77 : decode cX8_readOne 77 = .ok (.invokevirtual 34, 3) := by decide +kernel
theorem dX8_readOne_80 : decode cX8_readOne 80 = .ok (.iload 4, 2) := by decide +kernel
theorem dX8_readOne_82 : decode cX8_readOne 82 = .ok (.ifCond .eq 15, 3) := by decide +kernel
theorem dX8_readOne_85 : decode cX8_readOne 85 = .ok (.aload_n 0, 1) := by decide +kernel
theorem dX8_readOne_86 : decode cX8_readOne 86 = .ok (.iload_n 2, 1) := by decide +kernel
theorem dX8_readOne_87 : decode cX8_readOne 87 = .ok (.iload_n 1, 1) := by decide +kernel
theorem dX8_readOne_88 : decode cX8_readOne 88 = .ok (.iload_n 3, 1) := by decide +kernel
theorem dX8_readOne_89 : decode cX8_readOne 89 = .ok (.iconst 1, 1) := by decide +kernel
theorem dX8_readOne_90 : decode cX8_readOne 90 = .ok (.iadd, 1) := by decide +kernel
theorem dX8_readOne_91 : decode cX8_readOne 91 = .ok (.invokevirtual 146, 3) := by decide +kernel
theorem dX8_readOne_94 : decode cX8_readOne 94 = .ok (.goto 18, 3) := by decide +kernel
theorem dX8_readOne_97 : decode cX8_readOne 97 = .ok (.aload_n 0, 1) := by decide +kernel
theorem dX8_readOne_98 : decode cX8_readOne 98 = .ok (.iload_n 1, 1) := by decide +kernel
theorem dX8_readOne_99 : decode cX8_readOne 99 = .ok (.iload_n 2, 1) := by decide +kernel
theorem dX8_readOne_100 : decode cX8_readOne 100 = .ok (.iload_n 3, 1) := by decide +kernel
theorem dX8_readOne_101 : decode cX8_readOne 101 = .ok (.iconst 1, 1) := by decide +kernel
theorem dX8_readOne_102 : decode cX8_readOne 102 = .ok (.iadd, 1) := by decide +kernel
theorem dX8_readOne_103 : decode cX8_readOne 103 = .ok (.invokevirtual 169, 3) := by decide +kernel
theorem dX8_readOne_106 : decode cX8_readOne 106 = .ok (.aload_n 0, 1) := by decide +kernel
theorem dX8_readOne_107 : decode cX8_readOne 107 = .ok (.bipush 41, 2) := by decide +kernel
theorem dX8_readOne_109 : decode cX8_readOne 109 = .ok (.invokevirtual 172, 3) := by decide +kernel
theorem dX8_readOne_112 : decode cX8_readOne 112 = .ok (.return_, 1) := by decide +kernel
theorem dX8_beginsRelation_0 : decode cX8_beginsRelation 0 = .ok (.aload_n 0, 1) := by decide +kernel
theorem dX8_beginsRelation_1 : decode cX8_beginsRelation 1 = .ok (.getfield 31, 3) := by decide +kernel
theorem dX8_beginsRelation_4 : decode cX8_beginsRelation 4 = .ok (.bipush 123, 2) := by decide +kernel
theorem dX8_beginsRelation_6 : decode cX8_beginsRelation 6 = .ok (.if_icmp .eq 30, 3) := by decide +kernel
theorem dX8_beginsRelation_9 : decode cX8_beginsRelation 9 = .ok (.aload_n 0, 1) := by decide +kernel
theorem dX8_beginsRelation_10 : decode cX8_beginsRelation 10 = .ok (.getfield 31, 3) := by decide +kernel
theorem dX8_beginsRelation_13 : decode cX8_beginsRelation 13 = .ok (.bipush 45, 2) := by decide +kernel
theorem dX8_beginsRelation_15 : decode cX8_beginsRelation 15 = .ok (.if_icmp .eq 21, 3) := by decide +kernel
theorem dX8_beginsRelation_18 : decode cX8_beginsRelation 18 = .ok (.aload_n 0, 1) := by decide +kernel
theorem dX8_beginsRelation_19 : decode cX8_beginsRelation 19 = .ok (.ldc 175, 2) := by decide +kernel
theorem dX8_beginsRelation_21 : decode cX8_beginsRelation 21 = .ok (.invokevirtual 77, 3) := by decide +kernel
theorem dX8_beginsRelation_24 : decode cX8_beginsRelation 24 = .ok (.ifCond .ne 12, 3) := by decide +kernel
theorem dX8_beginsRelation_27 : decode cX8_beginsRelation 27 = .ok (.aload_n 0, 1) := by decide +kernel
theorem dX8_beginsRelation_28 : decode cX8_beginsRelation 28 = .ok (.invokevirtual 119, 3) := by decide +kernel
theorem dX8_beginsRelation_31 : decode cX8_beginsRelation 31 = .ok (.lconst 0, 1) := by decide +kernel
theorem dX8_beginsRelation_32 : decode cX8_beginsRelation 32 = .ok (.lcmp, 1) := by decide +kernel
theorem dX8_beginsRelation_33 : decode cX8_beginsRelation 33 = .ok (.ifCond .lt 5, 3) := by decide +kernel
theorem dX8_beginsRelation_36 : decode cX8_beginsRelation 36 = .ok (.iconst 1, 1) := by decide +kernel
theorem dX8_beginsRelation_37 : decode cX8_beginsRelation 37 = .ok (.ireturn, 1) := by decide +kernel
theorem dX8_beginsRelation_38 : decode cX8_beginsRelation 38 = .ok (.aload_n 0, 1) := by decide +kernel
theorem dX8_beginsRelation_39 : decode cX8_beginsRelation 39 = .ok (.invokevirtual 160, 3) := by decide +kernel
theorem dX8_beginsRelation_42 : decode cX8_beginsRelation 42 = .ok (.ifCond .lt 27, 3) := by decide +kernel
theorem dX8_beginsRelation_45 : decode cX8_beginsRelation 45 = .ok (.aload_n 0, 1) := by decide +kernel
theorem dX8_beginsRelation_46 : decode cX8_beginsRelation 46 = .ok (.getfield 9, 3) := by decide +kernel
theorem dX8_beginsRelation_49 : decode cX8_beginsRelation 49 = .ok (.aload_n 0, 1) := by decide +kernel
theorem dX8_beginsRelation_50 : decode cX8_beginsRelation 50 = .ok (.aload_n 0, 1) := by decide +kernel
theorem dX8_beginsRelation_51 : decode cX8_beginsRelation 51 = .ok (.getfield 24, 3) := by decide +kernel
theorem dX8_beginsRelation_54 : decode cX8_beginsRelation 54 = .ok (.invokevirtual 43, 3) := by decide +kernel
theorem dX8_beginsRelation_57 : decode cX8_beginsRelation 57 = .ok (.invokevirtual 47, 3) := by decide +kernel
theorem dX8_beginsRelation_60 : decode cX8_beginsRelation 60 = .ok (.bipush 91, 2) := by decide +kernel
theorem dX8_beginsRelation_62 : decode cX8_beginsRelation 62 = .ok (.if_icmp .ne 7, 3) := by decide +kernel
theorem dX8_beginsRelation_65 : decode cX8_beginsRelation 65 = .ok (.iconst 1, 1) := by decide +kernel
theorem dX8_beginsRelation_66 : decode cX8_beginsRelation 66 = .ok (.goto 4, 3) := by decide +kernel
theorem dX8_beginsRelation_69 : decode cX8_beginsRelation 69 = .ok (.iconst 0, 1) := by decide +kernel
theorem dX8_beginsRelation_70 : decode cX8_beginsRelation 70 = .ok (.ireturn, 1) := by decide +kernel
theorem dX8_readSided_0 : decode cX8_readSided 0 = .ok (.aload_n 0, 1) := by decide +kernel
theorem dX8_readSided_1 : decode cX8_readSided 1 = .ok (.ldc 195, 2) := by decide +kernel
theorem dX8_readSided_3 : decode cX8_readSided 3 = .ok (.invokevirtual 77, 3) := by decide +kernel
theorem dX8_readSided_6 : decode cX8_readSided 6 = .ok (.istore_n 3, 1) := by decide +kernel
theorem dX8_readSided_7 : decode cX8_readSided 7 = .ok (.aload_n 0, 1) := by decide +kernel
theorem dX8_readSided_8 : decode cX8_readSided 8 = .ok (.ldc 197, 2) := by decide +kernel
theorem dX8_readSided_10 : decode cX8_readSided 10 = .ok (.invokevirtual 77, 3) := by decide +kernel
theorem dX8_readSided_13 : decode cX8_readSided 13 = .ok (.istore 4, 2) := by decide +kernel
theorem dX8_readSided_15 : decode cX8_readSided 15 = .ok (.iload_n 3, 1) := by decide +kernel
theorem dX8_readSided_16 : decode cX8_readSided 16 = .ok (.ifCond .eq 7, 3) := by decide +kernel
theorem dX8_readSided_19 : decode cX8_readSided 19 = .ok (.iconst 1, 1) := by decide +kernel
theorem dX8_readSided_20 : decode cX8_readSided 20 = .ok (.goto 13, 3) := by decide +kernel
theorem dX8_readSided_23 : decode cX8_readSided 23 = .ok (.iload 4, 2) := by decide +kernel
theorem dX8_readSided_25 : decode cX8_readSided 25 = .ok (.ifCond .eq 7, 3) := by decide +kernel
theorem dX8_readSided_28 : decode cX8_readSided 28 = .ok (.iconst 2, 1) := by decide +kernel
theorem dX8_readSided_29 : decode cX8_readSided 29 = .ok (.goto 4, 3) := by decide +kernel
theorem dX8_readSided_32 : decode cX8_readSided 32 = .ok (.iconst 0, 1) := by decide +kernel
theorem dX8_readSided_33 : decode cX8_readSided 33 = .ok (.istore 5, 2) := by decide +kernel
theorem dX8_readSided_35 : decode cX8_readSided 35 = .ok (.iload_n 3, 1) := by decide +kernel
theorem dX8_readSided_36 : decode cX8_readSided 36 = .ok (.ifCond .ne 8, 3) := by decide +kernel
theorem dX8_readSided_39 : decode cX8_readSided 39 = .ok (.iload 4, 2) := by decide +kernel
theorem dX8_readSided_41 : decode cX8_readSided 41 = .ok (.ifCond .eq 7, 3) := by decide +kernel
theorem dX8_readSided_44 : decode cX8_readSided 44 = .ok (.aload_n 0, 1) := by decide +kernel
theorem dX8_readSided_45 : decode cX8_readSided 45 = .ok (.invokevirtual 34, 3) := by decide +kernel
theorem dX8_readSided_48 : decode cX8_readSided 48 = .ok (.aload_n 0, 1) := by decide +kernel
theorem dX8_readSided_49 : decode cX8_readSided 49 = .ok (.ldc 199, 2) := by decide +kernel
theorem dX8_readSided_51 : decode cX8_readSided 51 = .ok (.invokevirtual 77, 3) := by decide +kernel
theorem dX8_readSided_54 : decode cX8_readSided 54 = .ok (.ifCond .eq 27, 3) := by decide +kernel
theorem dX8_readSided_57 : decode cX8_readSided 57 = .ok (.aload_n 0, 1) := by decide +kernel
theorem dX8_readSided_58 : decode cX8_readSided 58 = .ok (.invokevirtual 34, 3) := by decide +kernel
theorem dX8_readSided_61 : decode cX8_readSided 61 = .ok (.aload_n 0, 1) := by decide +kernel
theorem dX8_readSided_62 : decode cX8_readSided 62 = .ok (.getfield 15, 3) := by decide +kernel
theorem dX8_readSided_65 : decode cX8_readSided 65 = .ok (.iload 5, 2) := by decide +kernel
theorem dX8_readSided_67 : decode cX8_readSided 67 = .ok (.aload_n 0, 1) := by decide +kernel
theorem dX8_readSided_68 : decode cX8_readSided 68 = .ok (.invokevirtual 201, 3) := by decide +kernel
theorem dX8_readSided_71 : decode cX8_readSided 71 = .ok (.iconst 0, 1) := by decide +kernel
theorem dX8_readSided_72 : decode cX8_readSided 72 = .ok (.iconst 0, 1) := by decide +kernel
theorem dX8_readSided_73 : decode cX8_readSided 73 = .ok (.iload_n 1, 1) := by decide +kernel
theorem dX8_readSided_74 : decode cX8_readSided 74 = .ok (.iload_n 2, 1) := by decide +kernel
theorem dX8_readSided_75 : decode cX8_readSided 75 = .ok (.invokevirtual 204, 3) := by decide +kernel
theorem dX8_readSided_78 : decode cX8_readSided 78 = .ok (.goto 136, 3) := by decide +kernel
theorem dX8_readSided_81 : decode cX8_readSided 81 = .ok (.aload_n 0, 1) := by decide +kernel
theorem dX8_readSided_82 : decode cX8_readSided 82 = .ok (.ldc 208, 2) := by decide +kernel
theorem dX8_readSided_84 : decode cX8_readSided 84 = .ok (.invokevirtual 77, 3) := by decide +kernel
theorem dX8_readSided_87 : decode cX8_readSided 87 = .ok (.ifCond .eq 14, 3) := by decide +kernel
theorem dX8_readSided_90 : decode cX8_readSided 90 = .ok (.aload_n 0, 1) := by decide +kernel
theorem dX8_readSided_91 : decode cX8_readSided 91 = .ok (.iload 5, 2) := by decide +kernel
theorem dX8_readSided_93 : decode cX8_readSided 93 = .ok (.iload_n 1, 1) := by decide +kernel
theorem dX8_readSided_94 : decode cX8_readSided 94 = .ok (.iload_n 2, 1) := by decide +kernel
theorem dX8_readSided_95 : decode cX8_readSided 95 = .ok (.invokevirtual 210, 3) := by decide +kernel
theorem dX8_readSided_98 : decode cX8_readSided 98 = .ok (.goto 116, 3) := by decide +kernel
theorem dX8_readSided_101 : decode cX8_readSided 101 = .ok (.aload_n 0, 1) := by decide +kernel
theorem dX8_readSided_102 : decode cX8_readSided 102 = .ok (.ldc 213, 2) := by decide +kernel
theorem dX8_readSided_104 : decode cX8_readSided 104 = .ok (.invokevirtual 77, 3) := by decide +kernel
theorem dX8_readSided_107 : decode cX8_readSided 107 = .ok (.ifCond .eq 34, 3) := by decide +kernel
theorem dX8_readSided_110 : decode cX8_readSided 110 = .ok (.aload_n 0, 1) := by decide +kernel
theorem dX8_readSided_111 : decode cX8_readSided 111 = .ok (.invokevirtual 34, 3) := by decide +kernel
theorem dX8_readSided_114 : decode cX8_readSided 114 = .ok (.aload_n 0, 1) := by decide +kernel
theorem dX8_readSided_115 : decode cX8_readSided 115 = .ok (.lconst 0, 1) := by decide +kernel
theorem dX8_readSided_116 : decode cX8_readSided 116 = .ok (.ldc2_w 179, 3) := by decide +kernel
theorem dX8_readSided_119 : decode cX8_readSided 119 = .ok (.invokevirtual 181, 3) := by decide +kernel
theorem dX8_readSided_122 : decode cX8_readSided 122 = .ok (.istore 6, 2) := by decide +kernel
theorem dX8_readSided_124 : decode cX8_readSided 124 = .ok (.aload_n 0, 1) := by decide +kernel
theorem dX8_readSided_125 : decode cX8_readSided 125 = .ok (.getfield 15, 3) := by decide +kernel
theorem dX8_readSided_128 : decode cX8_readSided 128 = .ok (.iload 5, 2) := by decide +kernel
theorem dX8_readSided_130 : decode cX8_readSided 130 = .ok (.iload 6, 2) := by decide +kernel
theorem dX8_readSided_132 : decode cX8_readSided 132 = .ok (.iconst (-1), 1) := by decide +kernel
theorem dX8_readSided_133 : decode cX8_readSided 133 = .ok (.iload_n 1, 1) := by decide +kernel
theorem dX8_readSided_134 : decode cX8_readSided 134 = .ok (.iload_n 2, 1) := by decide +kernel
theorem dX8_readSided_135 : decode cX8_readSided 135 = .ok (.invokevirtual 215, 3) := by decide +kernel
theorem dX8_readSided_138 : decode cX8_readSided 138 = .ok (.goto 76, 3) := by decide +kernel
theorem dX8_readSided_141 : decode cX8_readSided 141 = .ok (.aload_n 0, 1) := by decide +kernel
theorem dX8_readSided_142 : decode cX8_readSided 142 = .ok (.ldc 219, 2) := by decide +kernel
theorem dX8_readSided_144 : decode cX8_readSided 144 = .ok (.invokevirtual 77, 3) := by decide +kernel
theorem dX8_readSided_147 : decode cX8_readSided 147 = .ok (.ifCond .eq 49, 3) := by decide +kernel
theorem dX8_readSided_150 : decode cX8_readSided 150 = .ok (.aload_n 0, 1) := by decide +kernel
theorem dX8_readSided_151 : decode cX8_readSided 151 = .ok (.invokevirtual 34, 3) := by decide +kernel
theorem dX8_readSided_154 : decode cX8_readSided 154 = .ok (.aload_n 0, 1) := by decide +kernel
theorem dX8_readSided_155 : decode cX8_readSided 155 = .ok (.lconst 0, 1) := by decide +kernel
theorem dX8_readSided_156 : decode cX8_readSided 156 = .ok (.ldc2_w 179, 3) := by decide +kernel
theorem dX8_readSided_159 : decode cX8_readSided 159 = .ok (.invokevirtual 181, 3) := by decide +kernel
theorem dX8_readSided_162 : decode cX8_readSided 162 = .ok (.istore 6, 2) := by decide +kernel
theorem dX8_readSided_164 : decode cX8_readSided 164 = .ok (.aload_n 0, 1) := by decide +kernel
theorem dX8_readSided_165 : decode cX8_readSided 165 = .ok (.bipush 45, 2) := by decide +kernel
theorem dX8_readSided_167 : decode cX8_readSided 167 = .ok (.invokevirtual 172, 3) := by decide +kernel
theorem dX8_readSided_170 : decode cX8_readSided 170 = .ok (.aload_n 0, 1) := by decide +kernel
theorem dX8_readSided_171 : decode cX8_readSided 171 = .ok (.getfield 15, 3) := by decide +kernel
theorem dX8_readSided_174 : decode cX8_readSided 174 = .ok (.iload 5, 2) := by decide +kernel
theorem dX8_readSided_176 : decode cX8_readSided 176 = .ok (.iload 6, 2) := by decide +kernel
theorem dX8_readSided_178 : decode cX8_readSided 178 = .ok (.aload_n 0, 1) := by decide +kernel
theorem dX8_readSided_179 : decode cX8_readSided 179 = .ok (.iload 6, 2) := by decide +kernel
theorem dX8_readSided_181 : decode cX8_readSided 181 = .ok (.i2l, 1) := by decide +kernel
theorem dX8_readSided_182 : decode cX8_readSided 182 = .ok (.ldc2_w 179, 3) := by decide +kernel
theorem dX8_readSided_185 : decode cX8_readSided 185 = .ok (.invokevirtual 181, 3) := by decide +kernel
theorem dX8_readSided_188 : decode cX8_readSided 188 = .ok (.iload_n 1, 1) := by decide +kernel
theorem dX8_readSided_189 : decode cX8_readSided 189 = .ok (.iload_n 2, 1) := by decide +kernel
theorem dX8_readSided_190 : decode cX8_readSided 190 = .ok (.invokevirtual 215, 3) := by decide +kernel
theorem dX8_readSided_193 : decode cX8_readSided 193 = .ok (.goto 21, 3) := by decide +kernel
theorem dX8_readSided_196 : decode cX8_readSided 196 = .ok (.iload 5, 2) := by decide +kernel
theorem dX8_readSided_198 : decode cX8_readSided 198 = .ok (.ifCond .ne 12, 3) := by decide +kernel
theorem dX8_readSided_201 : decode cX8_readSided 201 = .ok (.aload_n 0, 1) := by decide +kernel
theorem dX8_readSided_202 : decode cX8_readSided 202 = .ok (.iload_n 1, 1) := by decide +kernel
theorem dX8_readSided_203 : decode cX8_readSided 203 = .ok (.iload_n 2, 1) := by decide +kernel
theorem dX8_readSided_204 : decode cX8_readSided 204 = .ok (.invokevirtual 221, 3) := by decide +kernel
theorem dX8_readSided_207 : decode cX8_readSided 207 = .ok (.goto 7, 3) := by decide +kernel
theorem dX8_readSided_210 : decode cX8_readSided 210 = .ok (.aload_n 0, 1) := by decide +kernel
theorem dX8_readSided_211 : decode cX8_readSided 211 = .ok (.invokevirtual 37, 3) := by decide +kernel
theorem dX8_readSided_214 : decode cX8_readSided 214 = .ok (.return_, 1) := by decide +kernel
theorem dX8_readLength_0 : decode cX8_readLength 0 = .ok (.aload_n 0, 1) := by decide +kernel
theorem dX8_readLength_1 : decode cX8_readLength 1 = .ok (.ldc 226, 2) := by decide +kernel
theorem dX8_readLength_3 : decode cX8_readLength 3 = .ok (.invokevirtual 77, 3) := by decide +kernel
theorem dX8_readLength_6 : decode cX8_readLength 6 = .ok (.istore_n 3, 1) := by decide +kernel
theorem dX8_readLength_7 : decode cX8_readLength 7 = .ok (.iload_n 3, 1) := by decide +kernel
theorem dX8_readLength_8 : decode cX8_readLength 8 = .ok (.ifCond .ne 17, 3) := by decide +kernel
theorem dX8_readLength_11 : decode cX8_readLength 11 = .ok (.aload_n 0, 1) := by decide +kernel
theorem dX8_readLength_12 : decode cX8_readLength 12 = .ok (.ldc 228, 2) := by decide +kernel
theorem dX8_readLength_14 : decode cX8_readLength 14 = .ok (.invokevirtual 77, 3) := by decide +kernel
theorem dX8_readLength_17 : decode cX8_readLength 17 = .ok (.ifCond .ne 8, 3) := by decide +kernel
theorem dX8_readLength_20 : decode cX8_readLength 20 = .ok (.aload_n 0, 1) := by decide +kernel
theorem dX8_readLength_21 : decode cX8_readLength 21 = .ok (.invokevirtual 37, 3) := by decide +kernel
theorem dX8_readLength_24 : decode cX8_readLength 24 = .ok (.return_, 1) := by decide +kernel
theorem dX8_readLength_25 : decode cX8_readLength 25 = .ok (.aload_n 0, 1) := by decide +kernel
theorem dX8_readLength_26 : decode cX8_readLength 26 = .ok (.invokevirtual 34, 3) := by decide +kernel
theorem dX8_readLength_29 : decode cX8_readLength 29 = .ok (.aload_n 0, 1) := by decide +kernel
theorem dX8_readLength_30 : decode cX8_readLength 30 = .ok (.getfield 15, 3) := by decide +kernel
theorem dX8_readLength_33 : decode cX8_readLength 33 = .ok (.iload_n 3, 1) := by decide +kernel
theorem dX8_readLength_34 : decode cX8_readLength 34 = .ok (.ifCond .eq 8, 3) := by decide +kernel
theorem dX8_readLength_37 : decode cX8_readLength 37 = .ok (.bipush 11, 2) := by decide +kernel
theorem dX8_readLength_39 : decode cX8_readLength 39 = .ok (.goto 4, 3) := by decide +kernel
theorem dX8_readLength_42 : decode cX8_readLength 42 = .ok (.iconst 3, 1) := by decide +kernel
theorem dX8_readLength_43 : decode cX8_readLength 43 = .ok (.aload_n 0, 1) := by decide +kernel
theorem dX8_readLength_44 : decode cX8_readLength 44 = .ok (.lconst 0, 1) := by decide +kernel
theorem dX8_readLength_45 : decode cX8_readLength 45 = .ok (.ldc2_w 99, 3) := by decide +kernel
theorem dX8_readLength_48 : decode cX8_readLength 48 = .ok (.invokevirtual 181, 3) := by decide +kernel
theorem dX8_readLength_51 : decode cX8_readLength 51 = .ok (.iload_n 1, 1) := by decide +kernel
theorem dX8_readLength_52 : decode cX8_readLength 52 = .ok (.iload_n 2, 1) := by decide +kernel
theorem dX8_readLength_53 : decode cX8_readLength 53 = .ok (.invokevirtual 230, 3) := by decide +kernel
theorem dX8_readLength_56 : decode cX8_readLength 56 = .ok (.return_, 1) := by decide +kernel
theorem dX9_init_0 : decode cX9_init 0 = .ok (.aload_n 0, 1) := by decide +kernel
theorem dX9_init_1 : decode cX9_init 1 = .ok (.invokespecial 1, 3) := by decide +kernel
theorem dX9_init_4 : decode cX9_init 4 = .ok (.aload_n 0, 1) := by decide +kernel
theorem dX9_init_5 : decode cX9_init 5 = .ok (.sipush 2000, 3) := by decide +kernel
theorem dX9_init_8 : decode cX9_init 8 = .ok (.newarray .byte, 2) := by decide +kernel
theorem dX9_init_10 : decode cX9_init 10 = .ok (.putfield 9, 3) := by decide +kernel
theorem dX9_init_13 : decode cX9_init 13 = .ok (.return_, 1) := by decide +kernel
theorem dX9_hasRoom_0 : decode cX9_hasRoom 0 = .ok (.aload_n 0, 1) := by decide +kernel
theorem dX9_hasRoom_1 : decode cX9_hasRoom 1 = .ok (.getfield 13, 3) := by decide +kernel
theorem dX9_hasRoom_4 : decode cX9_hasRoom 4 = .ok (.iload_n 1, 1) := by decide +kernel
theorem dX9_hasRoom_5 : decode cX9_hasRoom 5 = .ok (.iadd, 1) := by decide +kernel
theorem dX9_hasRoom_6 : decode cX9_hasRoom 6 = .ok (.sipush 2000, 3) := by decide +kernel
theorem dX9_hasRoom_9 : decode cX9_hasRoom 9 = .ok (.if_icmp .gt 7, 3) := by decide +kernel
theorem dX9_hasRoom_12 : decode cX9_hasRoom 12 = .ok (.iconst 1, 1) := by decide +kernel
theorem dX9_hasRoom_13 : decode cX9_hasRoom 13 = .ok (.goto 4, 3) := by decide +kernel
theorem dX9_hasRoom_16 : decode cX9_hasRoom 16 = .ok (.iconst 0, 1) := by decide +kernel
theorem dX9_hasRoom_17 : decode cX9_hasRoom 17 = .ok (.ireturn, 1) := by decide +kernel
theorem dX9_put_0 : decode cX9_put 0 = .ok (.aload_n 0, 1) := by decide +kernel
theorem dX9_put_1 : decode cX9_put 1 = .ok (.iconst 4, 1) := by decide +kernel
theorem dX9_put_2 : decode cX9_put 2 = .ok (.invokevirtual 17, 3) := by decide +kernel
theorem dX9_put_5 : decode cX9_put 5 = .ok (.ifCond .ne 4, 3) := by decide +kernel
theorem dX9_put_8 : decode cX9_put 8 = .ok (.return_, 1) := by decide +kernel
theorem dX9_put_9 : decode cX9_put 9 = .ok (.bipush 24, 2) := by decide +kernel
theorem dX9_put_11 : decode cX9_put 11 = .ok (.istore_n 2, 1) := by decide +kernel
theorem dX9_put_12 : decode cX9_put 12 = .ok (.iload_n 2, 1) := by decide +kernel
theorem dX9_put_13 : decode cX9_put 13 = .ok (.ifCond .lt 32, 3) := by decide +kernel
theorem dX9_put_16 : decode cX9_put 16 = .ok (.aload_n 0, 1) := by decide +kernel
theorem dX9_put_17 : decode cX9_put 17 = .ok (.getfield 9, 3) := by decide +kernel
theorem dX9_put_20 : decode cX9_put 20 = .ok (.aload_n 0, 1) := by decide +kernel
theorem dX9_put_21 : decode cX9_put 21 = .ok (.getfield 13, 3) := by decide +kernel
theorem dX9_put_24 : decode cX9_put 24 = .ok (.iload_n 1, 1) := by decide +kernel
theorem dX9_put_25 : decode cX9_put 25 = .ok (.iload_n 2, 1) := by decide +kernel
theorem dX9_put_26 : decode cX9_put 26 = .ok (.ishr, 1) := by decide +kernel
theorem dX9_put_27 : decode cX9_put 27 = .ok (.i2b, 1) := by decide +kernel
theorem dX9_put_28 : decode cX9_put 28 = .ok (.bastore, 1) := by decide +kernel
theorem dX9_put_29 : decode cX9_put 29 = .ok (.aload_n 0, 1) := by decide +kernel
theorem dX9_put_30 : decode cX9_put 30 = .ok (.dup, 1) := by decide +kernel
theorem dX9_put_31 : decode cX9_put 31 = .ok (.getfield 13, 3) := by decide +kernel
theorem dX9_put_34 : decode cX9_put 34 = .ok (.iconst 1, 1) := by decide +kernel
theorem dX9_put_35 : decode cX9_put 35 = .ok (.iadd, 1) := by decide +kernel
theorem dX9_put_36 : decode cX9_put 36 = .ok (.putfield 13, 3) := by decide +kernel
theorem dX9_put_39 : decode cX9_put 39 = .ok (.iinc 2 (-8), 3) := by decide +kernel
theorem dX9_put_42 : decode cX9_put 42 = .ok (.goto (-30), 3) := by decide +kernel
theorem dX9_put_45 : decode cX9_put 45 = .ok (.return_, 1) := by decide +kernel
theorem dX9_at_0 : decode cX9_at 0 = .ok (.iload_n 1, 1) := by decide +kernel
theorem dX9_at_1 : decode cX9_at 1 = .ok (.ifCond .lt 18, 3) := by decide +kernel
theorem dX9_at_4 : decode cX9_at 4 = .ok (.iload_n 1, 1) := by decide +kernel
theorem dX9_at_5 : decode cX9_at 5 = .ok (.aload_n 0, 1) := by decide +kernel
theorem dX9_at_6 : decode cX9_at 6 = .ok (.getfield 13, 3) := by decide +kernel
theorem dX9_at_9 : decode cX9_at 9 = .ok (.if_icmp .ge 10, 3) := by decide +kernel
theorem dX9_at_12 : decode cX9_at 12 = .ok (.iload_n 1, 1) := by decide +kernel
theorem dX9_at_13 : decode cX9_at 13 = .ok (.sipush 2000, 3) := by decide +kernel
theorem dX9_at_16 : decode cX9_at 16 = .ok (.if_icmp .lt 7, 3) := by decide +kernel
theorem dX9_at_19 : decode cX9_at 19 = .ok (.iconst (-1), 1) := by decide +kernel
theorem dX9_at_20 : decode cX9_at 20 = .ok (.goto 13, 3) := by decide +kernel
theorem dX9_at_23 : decode cX9_at 23 = .ok (.aload_n 0, 1) := by decide +kernel
theorem dX9_at_24 : decode cX9_at 24 = .ok (.getfield 9, 3) := by decide +kernel
theorem dX9_at_27 : decode cX9_at 27 = .ok (.iload_n 1, 1) := by decide +kernel
theorem dX9_at_28 : decode cX9_at 28 = .ok (.baload, 1) := by decide +kernel
theorem dX9_at_29 : decode cX9_at 29 = .ok (.sipush 255, 3) := by decide +kernel
theorem dX9_at_32 : decode cX9_at 32 = .ok (.iand, 1) := by decide +kernel
theorem dX9_at_33 : decode cX9_at 33 = .ok (.ireturn, 1) := by decide +kernel
theorem dX10_init_0 : decode cX10_init 0 = .ok (.aload_n 0, 1) := by decide +kernel
theorem dX10_init_1 : decode cX10_init 1 = .ok (.invokespecial 3, 3) := by decide +kernel
theorem dX10_init_4 : decode cX10_init 4 = .ok (.aload_n 0, 1) := by decide +kernel
theorem dX10_init_5 : decode cX10_init 5 = .ok (.sipush 4001, 3) := by decide +kernel
theorem dX10_init_8 : decode cX10_init 8 = .ok (.newarray .int, 2) := by decide +kernel
theorem dX10_init_10 : decode cX10_init 10 = .ok (.putfield 11, 3) := by decide +kernel
theorem dX10_init_13 : decode cX10_init 13 = .ok (.aload_n 0, 1) := by decide +kernel
theorem dX10_init_14 : decode cX10_init 14 = .ok (.aload_n 1, 1) := by decide +kernel
theorem dX10_init_15 : decode cX10_init 15 = .ok (.putfield 17, 3) := by decide +kernel
theorem dX10_init_18 : decode cX10_init 18 = .ok (.aload_n 0, 1) := by decide +kernel
theorem dX10_init_19 : decode cX10_init 19 = .ok (.aload_n 2, 1) := by decide +kernel
theorem dX10_init_20 : decode cX10_init 20 = .ok (.putfield 21, 3) := by decide +kernel
theorem dX10_init_23 : decode cX10_init 23 = .ok (.return_, 1) := by decide +kernel
theorem dX11_init_0 : decode cX11_init 0 = .ok (.aload_n 0, 1) := by decide +kernel
theorem dX11_init_1 : decode cX11_init 1 = .ok (.invokespecial 1, 3) := by decide +kernel
theorem dX11_init_4 : decode cX11_init 4 = .ok (.aload_n 0, 1) := by decide +kernel
theorem dX11_init_5 : decode cX11_init 5 = .ok (.new 7, 3) := by decide +kernel
theorem dX11_init_8 : decode cX11_init 8 = .ok (.dup, 1) := by decide +kernel
theorem dX11_init_9 : decode cX11_init 9 = .ok (.invokespecial 9, 3) := by decide +kernel
theorem dX11_init_12 : decode cX11_init 12 = .ok (.putfield 10, 3) := by decide +kernel
theorem dX11_init_15 : decode cX11_init 15 = .ok (.aload_n 0, 1) := by decide +kernel
theorem dX11_init_16 : decode cX11_init 16 = .ok (.new 16, 3) := by decide +kernel
theorem dX11_init_19 : decode cX11_init 19 = .ok (.dup, 1) := by decide +kernel
theorem dX11_init_20 : decode cX11_init 20 = .ok (.invokespecial 18, 3) := by decide +kernel
theorem dX11_init_23 : decode cX11_init 23 = .ok (.putfield 19, 3) := by decide +kernel
theorem dX11_init_26 : decode cX11_init 26 = .ok (.aload_n 0, 1) := by decide +kernel
theorem dX11_init_27 : decode cX11_init 27 = .ok (.new 23, 3) := by decide +kernel
theorem dX11_init_30 : decode cX11_init 30 = .ok (.dup, 1) := by decide +kernel
theorem dX11_init_31 : decode cX11_init 31 = .ok (.aload_n 0, 1) := by decide +kernel
theorem dX11_init_32 : decode cX11_init 32 = .ok (.getfield 19, 3) := by decide +kernel
theorem dX11_init_35 : decode cX11_init 35 = .ok (.invokespecial 25, 3) := by decide +kernel
theorem dX11_init_38 : decode cX11_init 38 = .ok (.putfield 28, 3) := by decide +kernel
theorem dX11_init_41 : decode cX11_init 41 = .ok (.aload_n 0, 1) := by decide +kernel
theorem dX11_init_42 : decode cX11_init 42 = .ok (.new 32, 3) := by decide +kernel
theorem dX11_init_45 : decode cX11_init 45 = .ok (.dup, 1) := by decide +kernel
theorem dX11_init_46 : decode cX11_init 46 = .ok (.invokespecial 34, 3) := by decide +kernel
theorem dX11_init_49 : decode cX11_init 49 = .ok (.putfield 35, 3) := by decide +kernel
theorem dX11_init_52 : decode cX11_init 52 = .ok (.aload_n 0, 1) := by decide +kernel
theorem dX11_init_53 : decode cX11_init 53 = .ok (.new 39, 3) := by decide +kernel
theorem dX11_init_56 : decode cX11_init 56 = .ok (.dup, 1) := by decide +kernel
theorem dX11_init_57 : decode cX11_init 57 = .ok (.invokespecial 41, 3) := by decide +kernel
theorem dX11_init_60 : decode cX11_init 60 = .ok (.putfield 42, 3) := by decide +kernel
theorem dX11_init_63 : decode cX11_init 63 = .ok (.aload_n 0, 1) := by decide +kernel
theorem dX11_init_64 : decode cX11_init 64 = .ok (.new 39, 3) := by decide +kernel
theorem dX11_init_67 : decode cX11_init 67 = .ok (.dup, 1) := by decide +kernel
theorem dX11_init_68 : decode cX11_init 68 = .ok (.invokespecial 41, 3) := by decide +kernel
theorem dX11_init_71 : decode cX11_init 71 = .ok (.putfield 46, 3) := by decide +kernel
theorem dX11_init_74 : decode cX11_init 74 = .ok (.aload_n 0, 1) := by decide +kernel
theorem dX11_init_75 : decode cX11_init 75 = .ok (.new 49, 3) := by decide +kernel
theorem dX11_init_78 : decode cX11_init 78 = .ok (.dup, 1) := by decide +kernel
theorem dX11_init_79 : decode cX11_init 79 = .ok (.invokespecial 51, 3) := by decide +kernel
theorem dX11_init_82 : decode cX11_init 82 = .ok (.putfield 52, 3) := by decide +kernel
theorem dX11_init_85 : decode cX11_init 85 = .ok (.aload_n 0, 1) := by decide +kernel
theorem dX11_init_86 : decode cX11_init 86 = .ok (.new 49, 3) := by decide +kernel
theorem dX11_init_89 : decode cX11_init 89 = .ok (.dup, 1) := by decide +kernel
theorem dX11_init_90 : decode cX11_init 90 = .ok (.invokespecial 51, 3) := by decide +kernel
theorem dX11_init_93 : decode cX11_init 93 = .ok (.putfield 56, 3) := by decide +kernel
theorem dX11_init_96 : decode cX11_init 96 = .ok (.aload_n 0, 1) := by decide +kernel
theorem dX11_init_97 : decode cX11_init 97 = .ok (.new 59, 3) := by decide +kernel
theorem dX11_init_100 : decode cX11_init 100 = .ok (.dup, 1) := by decide +kernel
theorem dX11_init_101 : decode cX11_init 101 = .ok (.aload_n 0, 1) := by decide +kernel
theorem dX11_init_102 : decode cX11_init 102 = .ok (.getfield 10, 3) := by decide +kernel
theorem dX11_init_105 : decode cX11_init 105 = .ok (.aload_n 0, 1) := by decide +kernel
theorem dX11_init_106 : decode cX11_init 106 = .ok (.getfield 46, 3) := by decide +kernel
theorem dX11_init_109 : decode cX11_init 109 = .ok (.invokespecial 61, 3) := by decide +kernel
theorem dX11_init_112 : decode cX11_init 112 = .ok (.putfield 64, 3) := by decide +kernel
theorem dX11_init_115 : decode cX11_init 115 = .ok (.aload_n 0, 1) := by decide +kernel
theorem dX11_init_116 : decode cX11_init 116 = .ok (.new 68, 3) := by decide +kernel
theorem dX11_init_119 : decode cX11_init 119 = .ok (.dup, 1) := by decide +kernel
theorem dX11_init_120 : decode cX11_init 120 = .ok (.aload_n 0, 1) := by decide +kernel
theorem dX11_init_121 : decode cX11_init 121 = .ok (.getfield 46, 3) := by decide +kernel
theorem dX11_init_124 : decode cX11_init 124 = .ok (.aload_n 0, 1) := by decide +kernel
theorem dX11_init_125 : decode cX11_init 125 = .ok (.getfield 56, 3) := by decide +kernel
theorem dX11_init_128 : decode cX11_init 128 = .ok (.invokespecial 70, 3) := by decide +kernel
theorem dX11_init_131 : decode cX11_init 131 = .ok (.putfield 73, 3) := by decide +kernel
theorem dX11_init_134 : decode cX11_init 134 = .ok (.aload_n 0, 1) := by decide +kernel
theorem dX11_init_135 : decode cX11_init 135 = .ok (.new 77, 3) := by decide +kernel
theorem dX11_init_138 : decode cX11_init 138 = .ok (.dup, 1) := by decide +kernel
theorem dX11_init_139 : decode cX11_init 139 = .ok (.aload_n 0, 1) := by decide +kernel
theorem dX11_init_140 : decode cX11_init 140 = .ok (.getfield 52, 3) := by decide +kernel
theorem dX11_init_143 : decode cX11_init 143 = .ok (.aload_n 0, 1) := by decide +kernel
theorem dX11_init_144 : decode cX11_init 144 = .ok (.getfield 35, 3) := by decide +kernel
theorem dX11_init_147 : decode cX11_init 147 = .ok (.invokespecial 79, 3) := by decide +kernel
theorem dX11_init_150 : decode cX11_init 150 = .ok (.putfield 82, 3) := by decide +kernel
theorem dX11_init_153 : decode cX11_init 153 = .ok (.aload_n 0, 1) := by decide +kernel
theorem dX11_init_154 : decode cX11_init 154 = .ok (.new 86, 3) := by decide +kernel
theorem dX11_init_157 : decode cX11_init 157 = .ok (.dup, 1) := by decide +kernel
theorem dX11_init_158 : decode cX11_init 158 = .ok (.aload_n 0, 1) := by decide +kernel
theorem dX11_init_159 : decode cX11_init 159 = .ok (.getfield 52, 3) := by decide +kernel
theorem dX11_init_162 : decode cX11_init 162 = .ok (.invokespecial 88, 3) := by decide +kernel
theorem dX11_init_165 : decode cX11_init 165 = .ok (.putfield 91, 3) := by decide +kernel
theorem dX11_init_168 : decode cX11_init 168 = .ok (.aload_n 0, 1) := by decide +kernel
theorem dX11_init_169 : decode cX11_init 169 = .ok (.new 86, 3) := by decide +kernel
theorem dX11_init_172 : decode cX11_init 172 = .ok (.dup, 1) := by decide +kernel
theorem dX11_init_173 : decode cX11_init 173 = .ok (.aload_n 0, 1) := by decide +kernel
theorem dX11_init_174 : decode cX11_init 174 = .ok (.getfield 52, 3) := by decide +kernel
theorem dX11_init_177 : decode cX11_init 177 = .ok (.invokespecial 88, 3) := by decide +kernel
theorem dX11_init_180 : decode cX11_init 180 = .ok (.putfield 95, 3) := by decide +kernel
theorem dX11_init_183 : decode cX11_init 183 = .ok (.return_, 1) := by decide +kernel
theorem dX11_feed_0 : decode cX11_feed 0 = .ok (.aload_n 0, 1) := by decide +kernel
theorem dX11_feed_1 : decode cX11_feed 1 = .ok (.getfield 10, 3) := by decide +kernel
theorem dX11_feed_4 : decode cX11_feed 4 = .ok (.bipush 20, 2) := by decide +kernel
theorem dX11_feed_6 : decode cX11_feed 6 = .ok (.invokevirtual 98, 3) := by decide +kernel
theorem dX11_feed_9 : decode cX11_feed 9 = .ok (.ifCond .ne 5, 3) := by decide +kernel
theorem dX11_feed_12 : decode cX11_feed 12 = .ok (.iconst (-1), 1) := by decide +kernel
theorem dX11_feed_13 : decode cX11_feed 13 = .ok (.ireturn, 1) := by decide +kernel
theorem dX11_feed_14 : decode cX11_feed 14 = .ok (.aload_n 0, 1) := by decide +kernel
theorem dX11_feed_15 : decode cX11_feed 15 = .ok (.getfield 10, 3) := by decide +kernel
theorem dX11_feed_18 : decode cX11_feed 18 = .ok (.iload_n 1, 1) := by decide +kernel
theorem dX11_feed_19 : decode cX11_feed 19 = .ok (.invokevirtual 102, 3) := by decide +kernel
theorem dX11_feed_22 : decode cX11_feed 22 = .ok (.aload_n 0, 1) := by decide +kernel
theorem dX11_feed_23 : decode cX11_feed 23 = .ok (.getfield 10, 3) := by decide +kernel
theorem dX11_feed_26 : decode cX11_feed 26 = .ok (.iload_n 2, 1) := by decide +kernel
theorem dX11_feed_27 : decode cX11_feed 27 = .ok (.invokevirtual 102, 3) := by decide +kernel
theorem dX11_feed_30 : decode cX11_feed 30 = .ok (.aload_n 0, 1) := by decide +kernel
theorem dX11_feed_31 : decode cX11_feed 31 = .ok (.getfield 10, 3) := by decide +kernel
theorem dX11_feed_34 : decode cX11_feed 34 = .ok (.iload_n 3, 1) := by decide +kernel
theorem dX11_feed_35 : decode cX11_feed 35 = .ok (.invokevirtual 102, 3) := by decide +kernel
theorem dX11_feed_38 : decode cX11_feed 38 = .ok (.aload_n 0, 1) := by decide +kernel
theorem dX11_feed_39 : decode cX11_feed 39 = .ok (.getfield 10, 3) := by decide +kernel
theorem dX11_feed_42 : decode cX11_feed 42 = .ok (.iload 4, 2) := by decide +kernel
theorem dX11_feed_44 : decode cX11_feed 44 = .ok (.invokevirtual 102, 3) := by decide +kernel
theorem dX11_feed_47 : decode cX11_feed 47 = .ok (.aload_n 0, 1) := by decide +kernel
theorem dX11_feed_48 : decode cX11_feed 48 = .ok (.getfield 10, 3) := by decide +kernel
theorem dX11_feed_51 : decode cX11_feed 51 = .ok (.iload 5, 2) := by decide +kernel
theorem dX11_feed_53 : decode cX11_feed 53 = .ok (.invokevirtual 102, 3) := by decide +kernel
theorem dX11_feed_56 : decode cX11_feed 56 = .ok (.aload_n 0, 1) := by decide +kernel
theorem dX11_feed_57 : decode cX11_feed 57 = .ok (.getfield 10, 3) := by decide +kernel
theorem dX11_feed_60 : decode cX11_feed 60 = .ok (.getfield 106, 3) := by decide +kernel
theorem dX11_feed_63 : decode cX11_feed 63 = .ok (.ireturn, 1) := by decide +kernel
theorem dX11_end_0 : decode cX11_end 0 = .ok (.iload_n 1, 1) := by decide +kernel
theorem dX11_end_1 : decode cX11_end 1 = .ok (.ifCond .lt 14, 3) := by decide +kernel
theorem dX11_end_4 : decode cX11_end 4 = .ok (.iload_n 1, 1) := by decide +kernel
theorem dX11_end_5 : decode cX11_end 5 = .ok (.aload_n 0, 1) := by decide +kernel
theorem dX11_end_6 : decode cX11_end 6 = .ok (.getfield 10, 3) := by decide +kernel
theorem dX11_end_9 : decode cX11_end 9 = .ok (.getfield 106, 3) := by decide +kernel
theorem dX11_end_12 : decode cX11_end 12 = .ok (.if_icmp .le 5, 3) := by decide +kernel
theorem dX11_end_15 : decode cX11_end 15 = .ok (.iconst (-1), 1) := by decide +kernel
theorem dX11_end_16 : decode cX11_end 16 = .ok (.ireturn, 1) := by decide +kernel
theorem dX11_end_17 : decode cX11_end 17 = .ok (.aload_n 0, 1) := by decide +kernel
theorem dX11_end_18 : decode cX11_end 18 = .ok (.getfield 10, 3) := by decide +kernel
theorem dX11_end_21 : decode cX11_end 21 = .ok (.iload_n 1, 1) := by decide +kernel
theorem dX11_end_22 : decode cX11_end 22 = .ok (.putfield 106, 3) := by decide +kernel
theorem dX11_end_25 : decode cX11_end 25 = .ok (.iload_n 1, 1) := by decide +kernel
theorem dX11_end_26 : decode cX11_end 26 = .ok (.ireturn, 1) := by decide +kernel
theorem dX11_packet_0 : decode cX11_packet 0 = .ok (.aload_n 0, 1) := by decide +kernel
theorem dX11_packet_1 : decode cX11_packet 1 = .ok (.getfield 19, 3) := by decide +kernel
theorem dX11_packet_4 : decode cX11_packet 4 = .ok (.aload_n 0, 1) := by decide +kernel
theorem dX11_packet_5 : decode cX11_packet 5 = .ok (.getfield 10, 3) := by decide +kernel
theorem dX11_packet_8 : decode cX11_packet 8 = .ok (.invokevirtual 110, 3) := by decide +kernel
theorem dX11_packet_11 : decode cX11_packet 11 = .ok (.istore_n 1, 1) := by decide +kernel
theorem dX11_packet_12 : decode cX11_packet 12 = .ok (.aload_n 0, 1) := by decide +kernel
theorem dX11_packet_13 : decode cX11_packet 13 = .ok (.getfield 10, 3) := by decide +kernel
theorem dX11_packet_16 : decode cX11_packet 16 = .ok (.iconst 0, 1) := by decide +kernel
theorem dX11_packet_17 : decode cX11_packet 17 = .ok (.putfield 106, 3) := by decide +kernel
theorem dX11_packet_20 : decode cX11_packet 20 = .ok (.iload_n 1, 1) := by decide +kernel
theorem dX11_packet_21 : decode cX11_packet 21 = .ok (.ireturn, 1) := by decide +kernel
theorem dX11_bytes_0 : decode cX11_bytes 0 = .ok (.aload_n 0, 1) := by decide +kernel
theorem dX11_bytes_1 : decode cX11_bytes 1 = .ok (.getfield 19, 3) := by decide +kernel
theorem dX11_bytes_4 : decode cX11_bytes 4 = .ok (.iload_n 1, 1) := by decide +kernel
theorem dX11_bytes_5 : decode cX11_bytes 5 = .ok (.iload_n 2, 1) := by decide +kernel
theorem dX11_bytes_6 : decode cX11_bytes 6 = .ok (.invokevirtual 114, 3) := by decide +kernel
theorem dX11_bytes_9 : decode cX11_bytes 9 = .ok (.lreturn, 1) := by decide +kernel
theorem dX11_compile_0 : decode cX11_compile 0 = .ok (.aload_n 0, 1) := by decide +kernel
theorem dX11_compile_1 : decode cX11_compile 1 = .ok (.getfield 64, 3) := by decide +kernel
theorem dX11_compile_4 : decode cX11_compile 4 = .ok (.aload_n 0, 1) := by decide +kernel
theorem dX11_compile_5 : decode cX11_compile 5 = .ok (.getfield 46, 3) := by decide +kernel
theorem dX11_compile_8 : decode cX11_compile 8 = .ok (.invokevirtual 118, 3) := by decide +kernel
theorem dX11_compile_11 : decode cX11_compile 11 = .ok (.aload_n 0, 1) := by decide +kernel
theorem dX11_compile_12 : decode cX11_compile 12 = .ok (.getfield 64, 3) := by decide +kernel
theorem dX11_compile_15 : decode cX11_compile 15 = .ok (.iconst 0, 1) := by decide +kernel
theorem dX11_compile_16 : decode cX11_compile 16 = .ok (.iconst 1, 1) := by decide +kernel
theorem dX11_compile_17 : decode cX11_compile 17 = .ok (.iconst 0, 1) := by decide +kernel
theorem dX11_compile_18 : decode cX11_compile 18 = .ok (.invokevirtual 122, 3) := by decide +kernel
theorem dX11_compile_21 : decode cX11_compile 21 = .ok (.aload_n 0, 1) := by decide +kernel
theorem dX11_compile_22 : decode cX11_compile 22 = .ok (.getfield 64, 3) := by decide +kernel
theorem dX11_compile_25 : decode cX11_compile 25 = .ok (.invokevirtual 126, 3) := by decide +kernel
theorem dX11_compile_28 : decode cX11_compile 28 = .ok (.istore_n 1, 1) := by decide +kernel
theorem dX11_compile_29 : decode cX11_compile 29 = .ok (.aload_n 0, 1) := by decide +kernel
theorem dX11_compile_30 : decode cX11_compile 30 = .ok (.getfield 10, 3) := by decide +kernel
theorem dX11_compile_33 : decode cX11_compile 33 = .ok (.iconst 0, 1) := by decide +kernel
theorem dX11_compile_34 : decode cX11_compile 34 = .ok (.putfield 106, 3) := by decide +kernel
theorem dX11_compile_37 : decode cX11_compile 37 = .ok (.iload_n 1, 1) := by decide +kernel
theorem dX11_compile_38 : decode cX11_compile 38 = .ok (.ifCond .lt 7, 3) := by decide +kernel
theorem dX11_compile_41 : decode cX11_compile 41 = .ok (.iconst (-1), 1) := by decide +kernel
theorem dX11_compile_42 : decode cX11_compile 42 = .ok (.iload_n 1, 1) := by decide +kernel
theorem dX11_compile_43 : decode cX11_compile 43 = .ok (.isub, 1) := by decide +kernel
theorem dX11_compile_44 : decode cX11_compile 44 = .ok (.ireturn, 1) := by decide +kernel
theorem dX11_compile_45 : decode cX11_compile 45 = .ok (.aload_n 0, 1) := by decide +kernel
theorem dX11_compile_46 : decode cX11_compile 46 = .ok (.getfield 46, 3) := by decide +kernel
theorem dX11_compile_49 : decode cX11_compile 49 = .ok (.invokevirtual 130, 3) := by decide +kernel
theorem dX11_compile_52 : decode cX11_compile 52 = .ok (.aload_n 0, 1) := by decide +kernel
theorem dX11_compile_53 : decode cX11_compile 53 = .ok (.getfield 73, 3) := by decide +kernel
theorem dX11_compile_56 : decode cX11_compile 56 = .ok (.aload_n 0, 1) := by decide +kernel
theorem dX11_compile_57 : decode cX11_compile 57 = .ok (.getfield 46, 3) := by decide +kernel
theorem dX11_compile_60 : decode cX11_compile 60 = .ok (.aload_n 0, 1) := by decide +kernel
theorem dX11_compile_61 : decode cX11_compile 61 = .ok (.getfield 56, 3) := by decide +kernel
theorem dX11_compile_64 : decode cX11_compile 64 = .ok (.invokevirtual 133, 3) := by decide +kernel
theorem dX11_compile_67 : decode cX11_compile 67 = .ok (.istore_n 2, 1) := by decide +kernel
theorem dX11_compile_68 : decode cX11_compile 68 = .ok (.iload_n 2, 1) := by decide +kernel
theorem dX11_compile_69 : decode cX11_compile 69 = .ok (.ifCond .ge 7, 3) := by decide +kernel
theorem dX11_compile_72 : decode cX11_compile 72 = .ok (.sipush (-3000), 3) := by decide +kernel
theorem dX11_compile_75 : decode cX11_compile 75 = .ok (.ireturn, 1) := by decide +kernel
theorem dX11_compile_76 : decode cX11_compile 76 = .ok (.aload_n 0, 1) := by decide +kernel
theorem dX11_compile_77 : decode cX11_compile 77 = .ok (.invokevirtual 137, 3) := by decide +kernel
theorem dX11_compile_80 : decode cX11_compile 80 = .ok (.aload_n 0, 1) := by decide +kernel
theorem dX11_compile_81 : decode cX11_compile 81 = .ok (.iconst 1, 1) := by decide +kernel
theorem dX11_compile_82 : decode cX11_compile 82 = .ok (.putfield 140, 3) := by decide +kernel
theorem dX11_compile_85 : decode cX11_compile 85 = .ok (.iload_n 2, 1) := by decide +kernel
theorem dX11_compile_86 : decode cX11_compile 86 = .ok (.ireturn, 1) := by decide +kernel
theorem dX11_load_0 : decode cX11_load 0 = .ok (.aload_n 0, 1) := by decide +kernel
theorem dX11_load_1 : decode cX11_load 1 = .ok (.getfield 52, 3) := by decide +kernel
theorem dX11_load_4 : decode cX11_load 4 = .ok (.aload_n 0, 1) := by decide +kernel
theorem dX11_load_5 : decode cX11_load 5 = .ok (.getfield 10, 3) := by decide +kernel
theorem dX11_load_8 : decode cX11_load 8 = .ok (.invokevirtual 144, 3) := by decide +kernel
theorem dX11_load_11 : decode cX11_load 11 = .ok (.istore_n 1, 1) := by decide +kernel
theorem dX11_load_12 : decode cX11_load 12 = .ok (.aload_n 0, 1) := by decide +kernel
theorem dX11_load_13 : decode cX11_load 13 = .ok (.getfield 10, 3) := by decide +kernel
theorem dX11_load_16 : decode cX11_load 16 = .ok (.iconst 0, 1) := by decide +kernel
theorem dX11_load_17 : decode cX11_load 17 = .ok (.putfield 106, 3) := by decide +kernel
theorem dX11_load_20 : decode cX11_load 20 = .ok (.iload_n 1, 1) := by decide +kernel
theorem dX11_load_21 : decode cX11_load 21 = .ok (.ireturn, 1) := by decide +kernel
theorem dX11_instruction_0 : decode cX11_instruction 0 = .ok (.aload_n 0, 1) := by decide +kernel
theorem dX11_instruction_1 : decode cX11_instruction 1 = .ok (.getfield 52, 3) := by decide +kernel
theorem dX11_instruction_4 : decode cX11_instruction 4 = .ok (.iload_n 1, 1) := by decide +kernel
theorem dX11_instruction_5 : decode cX11_instruction 5 = .ok (.invokevirtual 147, 3) := by decide +kernel
theorem dX11_instruction_8 : decode cX11_instruction 8 = .ok (.lreturn, 1) := by decide +kernel
theorem dX11_verify_0 : decode cX11_verify 0 = .ok (.aload_n 0, 1) := by decide +kernel
theorem dX11_verify_1 : decode cX11_verify 1 = .ok (.getfield 91, 3) := by decide +kernel
theorem dX11_verify_4 : decode cX11_verify 4 = .ok (.aload_n 0, 1) := by decide +kernel
theorem dX11_verify_5 : decode cX11_verify 5 = .ok (.getfield 52, 3) := by decide +kernel
theorem dX11_verify_8 : decode cX11_verify 8 = .ok (.invokevirtual 151, 3) := by decide +kernel
theorem dX11_verify_11 : decode cX11_verify 11 = .ok (.ireturn, 1) := by decide +kernel
theorem dX11_known_0 : decode cX11_known 0 = .ok (.aload_n 0, 1) := by decide +kernel
theorem dX11_known_1 : decode cX11_known 1 = .ok (.getfield 91, 3) := by decide +kernel
theorem dX11_known_4 : decode cX11_known 4 = .ok (.iload_n 1, 1) := by decide +kernel
theorem dX11_known_5 : decode cX11_known 5 = .ok (.iload_n 2, 1) := by decide +kernel
theorem dX11_known_6 : decode cX11_known 6 = .ok (.iload_n 3, 1) := by decide +kernel
theorem dX11_known_7 : decode cX11_known 7 = .ok (.invokevirtual 155, 3) := by decide +kernel
theorem dX11_known_10 : decode cX11_known 10 = .ok (.lreturn, 1) := by decide +kernel
theorem dX11_run_0 : decode cX11_run 0 = .ok (.aload_n 0, 1) := by decide +kernel
theorem dX11_run_1 : decode cX11_run 1 = .ok (.getfield 52, 3) := by decide +kernel
theorem dX11_run_4 : decode cX11_run 4 = .ok (.getfield 159, 3) := by decide +kernel
theorem dX11_run_7 : decode cX11_run 7 = .ok (.ifCond .eq 14, 3) := by decide +kernel
theorem dX11_run_10 : decode cX11_run 10 = .ok (.aload_n 0, 1) := by decide +kernel
theorem dX11_run_11 : decode cX11_run 11 = .ok (.getfield 19, 3) := by decide +kernel
theorem dX11_run_14 : decode cX11_run 14 = .ok (.iload_n 1, 1) := by decide +kernel
theorem dX11_run_15 : decode cX11_run 15 = .ok (.invokevirtual 160, 3) := by decide +kernel
theorem dX11_run_18 : decode cX11_run 18 = .ok (.ifCond .ge 5, 3) := by decide +kernel
theorem dX11_run_21 : decode cX11_run 21 = .ok (.lconst 0, 1) := by decide +kernel
theorem dX11_run_22 : decode cX11_run 22 = .ok (.lreturn, 1) := by decide +kernel
theorem dX11_run_23 : decode cX11_run 23 = .ok (.aload_n 0, 1) := by decide +kernel
theorem dX11_run_24 : decode cX11_run 24 = .ok (.getfield 52, 3) := by decide +kernel
theorem dX11_run_27 : decode cX11_run 27 = .ok (.aload_n 0, 1) := by decide +kernel
theorem dX11_run_28 : decode cX11_run 28 = .ok (.getfield 28, 3) := by decide +kernel
theorem dX11_run_31 : decode cX11_run 31 = .ok (.iload_n 1, 1) := by decide +kernel
theorem dX11_run_32 : decode cX11_run 32 = .ok (.aload_n 0, 1) := by decide +kernel
theorem dX11_run_33 : decode cX11_run 33 = .ok (.getfield 19, 3) := by decide +kernel
theorem dX11_run_36 : decode cX11_run 36 = .ok (.iload_n 1, 1) := by decide +kernel
theorem dX11_run_37 : decode cX11_run 37 = .ok (.invokevirtual 160, 3) := by decide +kernel
theorem dX11_run_40 : decode cX11_run 40 = .ok (.invokevirtual 164, 3) := by decide +kernel
theorem dX11_run_43 : decode cX11_run 43 = .ok (.lreturn, 1) := by decide +kernel
theorem dX11_translate_0 : decode cX11_translate 0 = .ok (.aload_n 0, 1) := by decide +kernel
theorem dX11_translate_1 : decode cX11_translate 1 = .ok (.getfield 95, 3) := by decide +kernel
theorem dX11_translate_4 : decode cX11_translate 4 = .ok (.aload_n 0, 1) := by decide +kernel
theorem dX11_translate_5 : decode cX11_translate 5 = .ok (.getfield 52, 3) := by decide +kernel
theorem dX11_translate_8 : decode cX11_translate 8 = .ok (.invokevirtual 151, 3) := by decide +kernel
theorem dX11_translate_11 : decode cX11_translate 11 = .ok (.ifCond .eq 5, 3) := by decide +kernel
theorem dX11_translate_14 : decode cX11_translate 14 = .ok (.iconst (-1), 1) := by decide +kernel
theorem dX11_translate_15 : decode cX11_translate 15 = .ok (.ireturn, 1) := by decide +kernel
theorem dX11_translate_16 : decode cX11_translate 16 = .ok (.aload_n 0, 1) := by decide +kernel
theorem dX11_translate_17 : decode cX11_translate 17 = .ok (.getfield 82, 3) := by decide +kernel
theorem dX11_translate_20 : decode cX11_translate 20 = .ok (.aload_n 0, 1) := by decide +kernel
theorem dX11_translate_21 : decode cX11_translate 21 = .ok (.getfield 52, 3) := by decide +kernel
theorem dX11_translate_24 : decode cX11_translate 24 = .ok (.invokevirtual 168, 3) := by decide +kernel
theorem dX11_translate_27 : decode cX11_translate 27 = .ok (.ireturn, 1) := by decide +kernel
theorem dX11_raw_0 : decode cX11_raw 0 = .ok (.aload_n 0, 1) := by decide +kernel
theorem dX11_raw_1 : decode cX11_raw 1 = .ok (.getfield 35, 3) := by decide +kernel
theorem dX11_raw_4 : decode cX11_raw 4 = .ok (.aload_n 0, 1) := by decide +kernel
theorem dX11_raw_5 : decode cX11_raw 5 = .ok (.getfield 10, 3) := by decide +kernel
theorem dX11_raw_8 : decode cX11_raw 8 = .ok (.invokevirtual 171, 3) := by decide +kernel
theorem dX11_raw_11 : decode cX11_raw 11 = .ok (.istore_n 1, 1) := by decide +kernel
theorem dX11_raw_12 : decode cX11_raw 12 = .ok (.aload_n 0, 1) := by decide +kernel
theorem dX11_raw_13 : decode cX11_raw 13 = .ok (.getfield 10, 3) := by decide +kernel
theorem dX11_raw_16 : decode cX11_raw 16 = .ok (.iconst 0, 1) := by decide +kernel
theorem dX11_raw_17 : decode cX11_raw 17 = .ok (.putfield 106, 3) := by decide +kernel
theorem dX11_raw_20 : decode cX11_raw 20 = .ok (.iload_n 1, 1) := by decide +kernel
theorem dX11_raw_21 : decode cX11_raw 21 = .ok (.ireturn, 1) := by decide +kernel
theorem dX11_word_0 : decode cX11_word 0 = .ok (.aload_n 0, 1) := by decide +kernel
theorem dX11_word_1 : decode cX11_word 1 = .ok (.getfield 35, 3) := by decide +kernel
theorem dX11_word_4 : decode cX11_word 4 = .ok (.iload_n 1, 1) := by decide +kernel
theorem dX11_word_5 : decode cX11_word 5 = .ok (.invokevirtual 172, 3) := by decide +kernel
theorem dX11_word_8 : decode cX11_word 8 = .ok (.ireturn, 1) := by decide +kernel
theorem dX11_emulate_0 : decode cX11_emulate 0 = .ok (.aload_n 0, 1) := by decide +kernel
theorem dX11_emulate_1 : decode cX11_emulate 1 = .ok (.getfield 35, 3) := by decide +kernel
theorem dX11_emulate_4 : decode cX11_emulate 4 = .ok (.getfield 174, 3) := by decide +kernel
theorem dX11_emulate_7 : decode cX11_emulate 7 = .ok (.ifCond .eq 14, 3) := by decide +kernel
theorem dX11_emulate_10 : decode cX11_emulate 10 = .ok (.aload_n 0, 1) := by decide +kernel
theorem dX11_emulate_11 : decode cX11_emulate 11 = .ok (.getfield 19, 3) := by decide +kernel
theorem dX11_emulate_14 : decode cX11_emulate 14 = .ok (.iload_n 1, 1) := by decide +kernel
theorem dX11_emulate_15 : decode cX11_emulate 15 = .ok (.invokevirtual 160, 3) := by decide +kernel
theorem dX11_emulate_18 : decode cX11_emulate 18 = .ok (.ifCond .ge 5, 3) := by decide +kernel
theorem dX11_emulate_21 : decode cX11_emulate 21 = .ok (.lconst 0, 1) := by decide +kernel
theorem dX11_emulate_22 : decode cX11_emulate 22 = .ok (.lreturn, 1) := by decide +kernel
theorem dX11_emulate_23 : decode cX11_emulate 23 = .ok (.aload_n 0, 1) := by decide +kernel
theorem dX11_emulate_24 : decode cX11_emulate 24 = .ok (.getfield 35, 3) := by decide +kernel
theorem dX11_emulate_27 : decode cX11_emulate 27 = .ok (.aload_n 0, 1) := by decide +kernel
theorem dX11_emulate_28 : decode cX11_emulate 28 = .ok (.getfield 28, 3) := by decide +kernel
theorem dX11_emulate_31 : decode cX11_emulate 31 = .ok (.iload_n 1, 1) := by decide +kernel
theorem dX11_emulate_32 : decode cX11_emulate 32 = .ok (.aload_n 0, 1) := by decide +kernel
theorem dX11_emulate_33 : decode cX11_emulate 33 = .ok (.getfield 19, 3) := by decide +kernel
theorem dX11_emulate_36 : decode cX11_emulate 36 = .ok (.iload_n 1, 1) := by decide +kernel
theorem dX11_emulate_37 : decode cX11_emulate 37 = .ok (.invokevirtual 160, 3) := by decide +kernel
theorem dX11_emulate_40 : decode cX11_emulate 40 = .ok (.invokevirtual 175, 3) := by decide +kernel
theorem dX11_emulate_43 : decode cX11_emulate 43 = .ok (.lreturn, 1) := by decide +kernel
theorem dX11_ended_0 : decode cX11_ended 0 = .ok (.iload_n 1, 1) := by decide +kernel
theorem dX11_ended_1 : decode cX11_ended 1 = .ok (.tableswitch 51 0 2 #[27, 35, 43], 27) := by decide +kernel
theorem dX11_ended_28 : decode cX11_ended 28 = .ok (.aload_n 0, 1) := by decide +kernel
theorem dX11_ended_29 : decode cX11_ended 29 = .ok (.getfield 28, 3) := by decide +kernel
theorem dX11_ended_32 : decode cX11_ended 32 = .ok (.getfield 176, 3) := by decide +kernel
theorem dX11_ended_35 : decode cX11_ended 35 = .ok (.ireturn, 1) := by decide +kernel
theorem dX11_ended_36 : decode cX11_ended 36 = .ok (.aload_n 0, 1) := by decide +kernel
theorem dX11_ended_37 : decode cX11_ended 37 = .ok (.getfield 28, 3) := by decide +kernel
theorem dX11_ended_40 : decode cX11_ended 40 = .ok (.getfield 179, 3) := by decide +kernel
theorem dX11_ended_43 : decode cX11_ended 43 = .ok (.ireturn, 1) := by decide +kernel
theorem dX11_ended_44 : decode cX11_ended 44 = .ok (.aload_n 0, 1) := by decide +kernel
theorem dX11_ended_45 : decode cX11_ended 45 = .ok (.getfield 28, 3) := by decide +kernel
theorem dX11_ended_48 : decode cX11_ended 48 = .ok (.getfield 182, 3) := by decide +kernel
theorem dX11_ended_51 : decode cX11_ended 51 = .ok (.ireturn, 1) := by decide +kernel
theorem dX11_ended_52 : decode cX11_ended 52 = .ok (.iconst 0, 1) := by decide +kernel
theorem dX11_ended_53 : decode cX11_ended 53 = .ok (.ireturn, 1) := by decide +kernel
theorem dX11_register_0 : decode cX11_register 0 = .ok (.iload_n 1, 1) := by decide +kernel
theorem dX11_register_1 : decode cX11_register 1 = .ok (.ifCond .lt 14, 3) := by decide +kernel
theorem dX11_register_4 : decode cX11_register 4 = .ok (.iload_n 1, 1) := by decide +kernel
theorem dX11_register_5 : decode cX11_register 5 = .ok (.aload_n 0, 1) := by decide +kernel
theorem dX11_register_6 : decode cX11_register 6 = .ok (.getfield 28, 3) := by decide +kernel
theorem dX11_register_9 : decode cX11_register 9 = .ok (.getfield 185, 3) := by decide +kernel
theorem dX11_register_12 : decode cX11_register 12 = .ok (.if_icmp .lt 7, 3) := by decide +kernel
theorem dX11_register_15 : decode cX11_register 15 = .ok (.lconst 0, 1) := by decide +kernel
theorem dX11_register_16 : decode cX11_register 16 = .ok (.goto 11, 3) := by decide +kernel
theorem dX11_register_19 : decode cX11_register 19 = .ok (.aload_n 0, 1) := by decide +kernel
theorem dX11_register_20 : decode cX11_register 20 = .ok (.getfield 28, 3) := by decide +kernel
theorem dX11_register_23 : decode cX11_register 23 = .ok (.iload_n 1, 1) := by decide +kernel
theorem dX11_register_24 : decode cX11_register 24 = .ok (.invokevirtual 188, 3) := by decide +kernel
theorem dX11_register_27 : decode cX11_register 27 = .ok (.lreturn, 1) := by decide +kernel
theorem dX11_stack_0 : decode cX11_stack 0 = .ok (.iload_n 1, 1) := by decide +kernel
theorem dX11_stack_1 : decode cX11_stack 1 = .ok (.ifCond .lt 9, 3) := by decide +kernel
theorem dX11_stack_4 : decode cX11_stack 4 = .ok (.iload_n 1, 1) := by decide +kernel
theorem dX11_stack_5 : decode cX11_stack 5 = .ok (.bipush 64, 2) := by decide +kernel
theorem dX11_stack_7 : decode cX11_stack 7 = .ok (.if_icmp .lt 7, 3) := by decide +kernel
theorem dX11_stack_10 : decode cX11_stack 10 = .ok (.iconst (-1), 1) := by decide +kernel
theorem dX11_stack_11 : decode cX11_stack 11 = .ok (.goto 16, 3) := by decide +kernel
theorem dX11_stack_14 : decode cX11_stack 14 = .ok (.aload_n 0, 1) := by decide +kernel
theorem dX11_stack_15 : decode cX11_stack 15 = .ok (.getfield 28, 3) := by decide +kernel
theorem dX11_stack_18 : decode cX11_stack 18 = .ok (.getfield 191, 3) := by decide +kernel
theorem dX11_stack_21 : decode cX11_stack 21 = .ok (.iload_n 1, 1) := by decide +kernel
theorem dX11_stack_22 : decode cX11_stack 22 = .ok (.baload, 1) := by decide +kernel
theorem dX11_stack_23 : decode cX11_stack 23 = .ok (.sipush 255, 3) := by decide +kernel
theorem dX11_stack_26 : decode cX11_stack 26 = .ok (.iand, 1) := by decide +kernel
theorem dX11_stack_27 : decode cX11_stack 27 = .ok (.ireturn, 1) := by decide +kernel
theorem dX11_matches_0 : decode cX11_matches 0 = .ok (.aload_n 0, 1) := by decide +kernel
theorem dX11_matches_1 : decode cX11_matches 1 = .ok (.getfield 140, 3) := by decide +kernel
theorem dX11_matches_4 : decode cX11_matches 4 = .ok (.ifCond .ne 5, 3) := by decide +kernel
theorem dX11_matches_7 : decode cX11_matches 7 = .ok (.iconst (-1), 1) := by decide +kernel
theorem dX11_matches_8 : decode cX11_matches 8 = .ok (.ireturn, 1) := by decide +kernel
theorem dX11_matches_9 : decode cX11_matches 9 = .ok (.iconst 0, 1) := by decide +kernel
theorem dX11_matches_10 : decode cX11_matches 10 = .ok (.istore_n 1, 1) := by decide +kernel
theorem dX11_matches_11 : decode cX11_matches 11 = .ok (.iconst 0, 1) := by decide +kernel
theorem dX11_matches_12 : decode cX11_matches 12 = .ok (.istore_n 2, 1) := by decide +kernel
theorem dX11_matches_13 : decode cX11_matches 13 = .ok (.iload_n 2, 1) := by decide +kernel
theorem dX11_matches_14 : decode cX11_matches 14 = .ok (.aload_n 0, 1) := by decide +kernel
theorem dX11_matches_15 : decode cX11_matches 15 = .ok (.getfield 19, 3) := by decide +kernel
theorem dX11_matches_18 : decode cX11_matches 18 = .ok (.getfield 195, 3) := by decide +kernel
theorem dX11_matches_21 : decode cX11_matches 21 = .ok (.if_icmp .ge 30, 3) := by decide +kernel
theorem dX11_matches_24 : decode cX11_matches 24 = .ok (.aload_n 0, 1) := by decide +kernel
theorem dX11_matches_25 : decode cX11_matches 25 = .ok (.getfield 42, 3) := by decide +kernel
theorem dX11_matches_28 : decode cX11_matches 28 = .ok (.aload_n 0, 1) := by decide +kernel
theorem dX11_matches_29 : decode cX11_matches 29 = .ok (.getfield 19, 3) := by decide +kernel
theorem dX11_matches_32 : decode cX11_matches 32 = .ok (.iload_n 2, 1) := by decide +kernel
theorem dX11_matches_33 : decode cX11_matches 33 = .ok (.invokevirtual 198, 3) := by decide +kernel
theorem dX11_matches_36 : decode cX11_matches 36 = .ok (.ifCond .eq 9, 3) := by decide +kernel
theorem dX11_matches_39 : decode cX11_matches 39 = .ok (.iload_n 1, 1) := by decide +kernel
theorem dX11_matches_40 : decode cX11_matches 40 = .ok (.iconst 1, 1) := by decide +kernel
theorem dX11_matches_41 : decode cX11_matches 41 = .ok (.iload_n 2, 1) := by decide +kernel
theorem dX11_matches_42 : decode cX11_matches 42 = .ok (.ishl, 1) := by decide +kernel
theorem dX11_matches_43 : decode cX11_matches 43 = .ok (.ior, 1) := by decide +kernel
theorem dX11_matches_44 : decode cX11_matches 44 = .ok (.istore_n 1, 1) := by decide +kernel
theorem dX11_matches_45 : decode cX11_matches 45 = .ok (.iinc 2 1, 3) := by decide +kernel
theorem dX11_matches_48 : decode cX11_matches 48 = .ok (.goto (-35), 3) := by decide +kernel
theorem dX11_matches_51 : decode cX11_matches 51 = .ok (.iload_n 1, 1) := by decide +kernel
theorem dX11_matches_52 : decode cX11_matches 52 = .ok (.ireturn, 1) := by decide +kernel
theorem dX11_count_0 : decode cX11_count 0 = .ok (.iload_n 1, 1) := by decide +kernel
theorem dX11_count_1 : decode cX11_count 1 = .ok (.tableswitch 109 0 5 #[39, 47, 55, 63, 71, 90], 39) := by decide +kernel
theorem dX11_count_40 : decode cX11_count 40 = .ok (.aload_n 0, 1) := by decide +kernel
theorem dX11_count_41 : decode cX11_count 41 = .ok (.getfield 19, 3) := by decide +kernel
theorem dX11_count_44 : decode cX11_count 44 = .ok (.getfield 195, 3) := by decide +kernel
theorem dX11_count_47 : decode cX11_count 47 = .ok (.ireturn, 1) := by decide +kernel
theorem dX11_count_48 : decode cX11_count 48 = .ok (.aload_n 0, 1) := by decide +kernel
theorem dX11_count_49 : decode cX11_count 49 = .ok (.getfield 52, 3) := by decide +kernel
theorem dX11_count_52 : decode cX11_count 52 = .ok (.getfield 159, 3) := by decide +kernel
theorem dX11_count_55 : decode cX11_count 55 = .ok (.ireturn, 1) := by decide +kernel
theorem dX11_count_56 : decode cX11_count 56 = .ok (.aload_n 0, 1) := by decide +kernel
theorem dX11_count_57 : decode cX11_count 57 = .ok (.getfield 35, 3) := by decide +kernel
theorem dX11_count_60 : decode cX11_count 60 = .ok (.getfield 174, 3) := by decide +kernel
theorem dX11_count_63 : decode cX11_count 63 = .ok (.ireturn, 1) := by decide +kernel
theorem dX11_count_64 : decode cX11_count 64 = .ok (.aload_n 0, 1) := by decide +kernel
theorem dX11_count_65 : decode cX11_count 65 = .ok (.getfield 10, 3) := by decide +kernel
theorem dX11_count_68 : decode cX11_count 68 = .ok (.getfield 106, 3) := by decide +kernel
theorem dX11_count_71 : decode cX11_count 71 = .ok (.ireturn, 1) := by decide +kernel
theorem dX11_count_72 : decode cX11_count 72 = .ok (.aload_n 0, 1) := by decide +kernel
theorem dX11_count_73 : decode cX11_count 73 = .ok (.getfield 140, 3) := by decide +kernel
theorem dX11_count_76 : decode cX11_count 76 = .ok (.ifCond .eq 13, 3) := by decide +kernel
theorem dX11_count_79 : decode cX11_count 79 = .ok (.aload_n 0, 1) := by decide +kernel
theorem dX11_count_80 : decode cX11_count 80 = .ok (.getfield 42, 3) := by decide +kernel
theorem dX11_count_83 : decode cX11_count 83 = .ok (.getfield 202, 3) := by decide +kernel
theorem dX11_count_86 : decode cX11_count 86 = .ok (.goto 4, 3) := by decide +kernel
theorem dX11_count_89 : decode cX11_count 89 = .ok (.iconst 0, 1) := by decide +kernel
theorem dX11_count_90 : decode cX11_count 90 = .ok (.ireturn, 1) := by decide +kernel
theorem dX11_count_91 : decode cX11_count 91 = .ok (.aload_n 0, 1) := by decide +kernel
theorem dX11_count_92 : decode cX11_count 92 = .ok (.getfield 140, 3) := by decide +kernel
theorem dX11_count_95 : decode cX11_count 95 = .ok (.ifCond .eq 13, 3) := by decide +kernel
theorem dX11_count_98 : decode cX11_count 98 = .ok (.aload_n 0, 1) := by decide +kernel
theorem dX11_count_99 : decode cX11_count 99 = .ok (.getfield 42, 3) := by decide +kernel
theorem dX11_count_102 : decode cX11_count 102 = .ok (.getfield 205, 3) := by decide +kernel
theorem dX11_count_105 : decode cX11_count 105 = .ok (.goto 4, 3) := by decide +kernel
theorem dX11_count_108 : decode cX11_count 108 = .ok (.iconst 0, 1) := by decide +kernel
theorem dX11_count_109 : decode cX11_count 109 = .ok (.ireturn, 1) := by decide +kernel
theorem dX11_count_110 : decode cX11_count 110 = .ok (.iconst (-1), 1) := by decide +kernel
theorem dX11_count_111 : decode cX11_count 111 = .ok (.ireturn, 1) := by decide +kernel
theorem dX15_init_0 : decode cX15_init 0 = .ok (.aload_n 0, 1) := by decide +kernel
theorem dX15_init_1 : decode cX15_init 1 = .ok (.invokespecial 1, 3) := by decide +kernel
theorem dX15_init_4 : decode cX15_init 4 = .ok (.aload_n 0, 1) := by decide +kernel
theorem dX15_init_5 : decode cX15_init 5 = .ok (.iload_n 1, 1) := by decide +kernel
theorem dX15_init_6 : decode cX15_init 6 = .ok (.putfield 7, 3) := by decide +kernel
theorem dX15_init_9 : decode cX15_init 9 = .ok (.return_, 1) := by decide +kernel
theorem dX16_init_0 : decode cX16_init 0 = .ok (.aload_n 0, 1) := by decide +kernel
theorem dX16_init_1 : decode cX16_init 1 = .ok (.invokespecial 1, 3) := by decide +kernel
theorem dX16_init_4 : decode cX16_init 4 = .ok (.aload_n 0, 1) := by decide +kernel
theorem dX16_init_5 : decode cX16_init 5 = .ok (.sipush 2000, 3) := by decide +kernel
theorem dX16_init_8 : decode cX16_init 8 = .ok (.newarray .int, 2) := by decide +kernel
theorem dX16_init_10 : decode cX16_init 10 = .ok (.putfield 9, 3) := by decide +kernel
theorem dX16_init_13 : decode cX16_init 13 = .ok (.aload_n 0, 1) := by decide +kernel
theorem dX16_init_14 : decode cX16_init 14 = .ok (.sipush 4096, 3) := by decide +kernel
theorem dX16_init_17 : decode cX16_init 17 = .ok (.newarray .int, 2) := by decide +kernel
theorem dX16_init_19 : decode cX16_init 19 = .ok (.putfield 13, 3) := by decide +kernel
theorem dX16_init_22 : decode cX16_init 22 = .ok (.aload_n 0, 1) := by decide +kernel
theorem dX16_init_23 : decode cX16_init 23 = .ok (.bipush 16, 2) := by decide +kernel
theorem dX16_init_25 : decode cX16_init 25 = .ok (.newarray .int, 2) := by decide +kernel
theorem dX16_init_27 : decode cX16_init 27 = .ok (.putfield 16, 3) := by decide +kernel
theorem dX16_init_30 : decode cX16_init 30 = .ok (.aload_n 0, 1) := by decide +kernel
theorem dX16_init_31 : decode cX16_init 31 = .ok (.bipush 7, 2) := by decide +kernel
theorem dX16_init_33 : decode cX16_init 33 = .ok (.newarray .int, 2) := by decide +kernel
theorem dX16_init_35 : decode cX16_init 35 = .ok (.putfield 19, 3) := by decide +kernel
theorem dX16_init_38 : decode cX16_init 38 = .ok (.aload_n 0, 1) := by decide +kernel
theorem dX16_init_39 : decode cX16_init 39 = .ok (.bipush 16, 2) := by decide +kernel
theorem dX16_init_41 : decode cX16_init 41 = .ok (.anewarray 22, 3) := by decide +kernel
theorem dX16_init_44 : decode cX16_init 44 = .ok (.putfield 24, 3) := by decide +kernel
theorem dX16_init_47 : decode cX16_init 47 = .ok (.aload_n 0, 1) := by decide +kernel
theorem dX16_init_48 : decode cX16_init 48 = .ok (.bipush 16, 2) := by decide +kernel
theorem dX16_init_50 : decode cX16_init 50 = .ok (.newarray .int, 2) := by decide +kernel
theorem dX16_init_52 : decode cX16_init 52 = .ok (.putfield 28, 3) := by decide +kernel
theorem dX16_init_55 : decode cX16_init 55 = .ok (.aload_n 0, 1) := by decide +kernel
theorem dX16_init_56 : decode cX16_init 56 = .ok (.bipush 16, 2) := by decide +kernel
theorem dX16_init_58 : decode cX16_init 58 = .ok (.newarray .int, 2) := by decide +kernel
theorem dX16_init_60 : decode cX16_init 60 = .ok (.putfield 31, 3) := by decide +kernel
theorem dX16_init_63 : decode cX16_init 63 = .ok (.aload_n 0, 1) := by decide +kernel
theorem dX16_init_64 : decode cX16_init 64 = .ok (.bipush 64, 2) := by decide +kernel
theorem dX16_init_66 : decode cX16_init 66 = .ok (.anewarray 22, 3) := by decide +kernel
theorem dX16_init_69 : decode cX16_init 69 = .ok (.putfield 34, 3) := by decide +kernel
theorem dX16_init_72 : decode cX16_init 72 = .ok (.aload_n 0, 1) := by decide +kernel
theorem dX16_init_73 : decode cX16_init 73 = .ok (.bipush 64, 2) := by decide +kernel
theorem dX16_init_75 : decode cX16_init 75 = .ok (.newarray .int, 2) := by decide +kernel
theorem dX16_init_77 : decode cX16_init 77 = .ok (.putfield 37, 3) := by decide +kernel
theorem dX16_init_80 : decode cX16_init 80 = .ok (.aload_n 0, 1) := by decide +kernel
theorem dX16_init_81 : decode cX16_init 81 = .ok (.bipush 64, 2) := by decide +kernel
theorem dX16_init_83 : decode cX16_init 83 = .ok (.newarray .int, 2) := by decide +kernel
theorem dX16_init_85 : decode cX16_init 85 = .ok (.putfield 40, 3) := by decide +kernel
theorem dX16_init_88 : decode cX16_init 88 = .ok (.aload_n 0, 1) := by decide +kernel
theorem dX16_init_89 : decode cX16_init 89 = .ok (.bipush 64, 2) := by decide +kernel
theorem dX16_init_91 : decode cX16_init 91 = .ok (.anewarray 43, 3) := by decide +kernel
theorem dX16_init_94 : decode cX16_init 94 = .ok (.putfield 45, 3) := by decide +kernel
theorem dX16_init_97 : decode cX16_init 97 = .ok (.aload_n 0, 1) := by decide +kernel
theorem dX16_init_98 : decode cX16_init 98 = .ok (.iconst 0, 1) := by decide +kernel
theorem dX16_init_99 : decode cX16_init 99 = .ok (.newarray .long, 2) := by decide +kernel
theorem dX16_init_101 : decode cX16_init 101 = .ok (.putfield 49, 3) := by decide +kernel
theorem dX16_init_104 : decode cX16_init 104 = .ok (.aload_n 0, 1) := by decide +kernel
theorem dX16_init_105 : decode cX16_init 105 = .ok (.bipush 64, 2) := by decide +kernel
theorem dX16_init_107 : decode cX16_init 107 = .ok (.newarray .long, 2) := by decide +kernel
theorem dX16_init_109 : decode cX16_init 109 = .ok (.putfield 53, 3) := by decide +kernel
theorem dX16_init_112 : decode cX16_init 112 = .ok (.aload_n 0, 1) := by decide +kernel
theorem dX16_init_113 : decode cX16_init 113 = .ok (.bipush 64, 2) := by decide +kernel
theorem dX16_init_115 : decode cX16_init 115 = .ok (.newarray .int, 2) := by decide +kernel
theorem dX16_init_117 : decode cX16_init 117 = .ok (.putfield 56, 3) := by decide +kernel
theorem dX16_init_120 : decode cX16_init 120 = .ok (.aload_n 0, 1) := by decide +kernel
theorem dX16_init_121 : decode cX16_init 121 = .ok (.bipush 64, 2) := by decide +kernel
theorem dX16_init_123 : decode cX16_init 123 = .ok (.newarray .int, 2) := by decide +kernel
theorem dX16_init_125 : decode cX16_init 125 = .ok (.putfield 59, 3) := by decide +kernel
theorem dX16_init_128 : decode cX16_init 128 = .ok (.aload_n 0, 1) := by decide +kernel
theorem dX16_init_129 : decode cX16_init 129 = .ok (.bipush 32, 2) := by decide +kernel
theorem dX16_init_131 : decode cX16_init 131 = .ok (.newarray .long, 2) := by decide +kernel
theorem dX16_init_133 : decode cX16_init 133 = .ok (.putfield 62, 3) := by decide +kernel
theorem dX16_init_136 : decode cX16_init 136 = .ok (.aload_n 0, 1) := by decide +kernel
theorem dX16_init_137 : decode cX16_init 137 = .ok (.bipush 64, 2) := by decide +kernel
theorem dX16_init_139 : decode cX16_init 139 = .ok (.newarray .int, 2) := by decide +kernel
theorem dX16_init_141 : decode cX16_init 141 = .ok (.putfield 65, 3) := by decide +kernel
theorem dX16_init_144 : decode cX16_init 144 = .ok (.aload_n 0, 1) := by decide +kernel
theorem dX16_init_145 : decode cX16_init 145 = .ok (.ldc 68, 2) := by decide +kernel
theorem dX16_init_147 : decode cX16_init 147 = .ok (.newarray .int, 2) := by decide +kernel
theorem dX16_init_149 : decode cX16_init 149 = .ok (.putfield 69, 3) := by decide +kernel
theorem dX16_init_152 : decode cX16_init 152 = .ok (.aload_n 0, 1) := by decide +kernel
theorem dX16_init_153 : decode cX16_init 153 = .ok (.ldc 68, 2) := by decide +kernel
theorem dX16_init_155 : decode cX16_init 155 = .ok (.newarray .long, 2) := by decide +kernel
theorem dX16_init_157 : decode cX16_init 157 = .ok (.putfield 72, 3) := by decide +kernel
theorem dX16_init_160 : decode cX16_init 160 = .ok (.aload_n 0, 1) := by decide +kernel
theorem dX16_init_161 : decode cX16_init 161 = .ok (.ldc 68, 2) := by decide +kernel
theorem dX16_init_163 : decode cX16_init 163 = .ok (.newarray .long, 2) := by decide +kernel
theorem dX16_init_165 : decode cX16_init 165 = .ok (.putfield 75, 3) := by decide +kernel
theorem dX16_init_168 : decode cX16_init 168 = .ok (.aload_n 0, 1) := by decide +kernel
theorem dX16_init_169 : decode cX16_init 169 = .ok (.ldc 68, 2) := by decide +kernel
theorem dX16_init_171 : decode cX16_init 171 = .ok (.newarray .long, 2) := by decide +kernel
theorem dX16_init_173 : decode cX16_init 173 = .ok (.putfield 78, 3) := by decide +kernel
theorem dX16_init_176 : decode cX16_init 176 = .ok (.aload_n 0, 1) := by decide +kernel
theorem dX16_init_177 : decode cX16_init 177 = .ok (.ldc 68, 2) := by decide +kernel
theorem dX16_init_179 : decode cX16_init 179 = .ok (.newarray .long, 2) := by decide +kernel
theorem dX16_init_181 : decode cX16_init 181 = .ok (.putfield 81, 3) := by decide +kernel
theorem dX16_init_184 : decode cX16_init 184 = .ok (.aload_n 0, 1) := by decide +kernel
theorem dX16_init_185 : decode cX16_init 185 = .ok (.sipush 4000, 3) := by decide +kernel
theorem dX16_init_188 : decode cX16_init 188 = .ok (.newarray .long, 2) := by decide +kernel
theorem dX16_init_190 : decode cX16_init 190 = .ok (.putfield 84, 3) := by decide +kernel
theorem dX16_init_193 : decode cX16_init 193 = .ok (.aload_n 0, 1) := by decide +kernel
theorem dX16_init_194 : decode cX16_init 194 = .ok (.sipush 4000, 3) := by decide +kernel
theorem dX16_init_197 : decode cX16_init 197 = .ok (.newarray .boolean, 2) := by decide +kernel
theorem dX16_init_199 : decode cX16_init 199 = .ok (.putfield 87, 3) := by decide +kernel
theorem dX16_init_202 : decode cX16_init 202 = .ok (.aload_n 0, 1) := by decide +kernel
theorem dX16_init_203 : decode cX16_init 203 = .ok (.iconst (-1), 1) := by decide +kernel
theorem dX16_init_204 : decode cX16_init 204 = .ok (.putfield 91, 3) := by decide +kernel
theorem dX16_init_207 : decode cX16_init 207 = .ok (.aload_n 0, 1) := by decide +kernel
theorem dX16_init_208 : decode cX16_init 208 = .ok (.bipush 11, 2) := by decide +kernel
theorem dX16_init_210 : decode cX16_init 210 = .ok (.newarray .int, 2) := by decide +kernel
theorem dX16_init_212 : decode cX16_init 212 = .ok (.putfield 95, 3) := by decide +kernel
theorem dX16_init_215 : decode cX16_init 215 = .ok (.aload_n 0, 1) := by decide +kernel
theorem dX16_init_216 : decode cX16_init 216 = .ok (.bipush 11, 2) := by decide +kernel
theorem dX16_init_218 : decode cX16_init 218 = .ok (.newarray .long, 2) := by decide +kernel
theorem dX16_init_220 : decode cX16_init 220 = .ok (.putfield 98, 3) := by decide +kernel
theorem dX16_init_223 : decode cX16_init 223 = .ok (.aload_n 0, 1) := by decide +kernel
theorem dX16_init_224 : decode cX16_init 224 = .ok (.bipush 11, 2) := by decide +kernel
theorem dX16_init_226 : decode cX16_init 226 = .ok (.newarray .long, 2) := by decide +kernel
theorem dX16_init_228 : decode cX16_init 228 = .ok (.putfield 101, 3) := by decide +kernel
theorem dX16_init_231 : decode cX16_init 231 = .ok (.aload_n 0, 1) := by decide +kernel
theorem dX16_init_232 : decode cX16_init 232 = .ok (.bipush 11, 2) := by decide +kernel
theorem dX16_init_234 : decode cX16_init 234 = .ok (.newarray .long, 2) := by decide +kernel
theorem dX16_init_236 : decode cX16_init 236 = .ok (.putfield 104, 3) := by decide +kernel
theorem dX16_init_239 : decode cX16_init 239 = .ok (.aload_n 0, 1) := by decide +kernel
theorem dX16_init_240 : decode cX16_init 240 = .ok (.bipush 11, 2) := by decide +kernel
theorem dX16_init_242 : decode cX16_init 242 = .ok (.newarray .long, 2) := by decide +kernel
theorem dX16_init_244 : decode cX16_init 244 = .ok (.putfield 107, 3) := by decide +kernel
theorem dX16_init_247 : decode cX16_init 247 = .ok (.aload_n 0, 1) := by decide +kernel
theorem dX16_init_248 : decode cX16_init 248 = .ok (.ldc 68, 2) := by decide +kernel
theorem dX16_init_250 : decode cX16_init 250 = .ok (.newarray .int, 2) := by decide +kernel
theorem dX16_init_252 : decode cX16_init 252 = .ok (.putfield 110, 3) := by decide +kernel
theorem dX16_init_255 : decode cX16_init 255 = .ok (.aload_n 0, 1) := by decide +kernel
theorem dX16_init_256 : decode cX16_init 256 = .ok (.ldc 68, 2) := by decide +kernel
theorem dX16_init_258 : decode cX16_init 258 = .ok (.newarray .long, 2) := by decide +kernel
theorem dX16_init_260 : decode cX16_init 260 = .ok (.putfield 113, 3) := by decide +kernel
theorem dX16_init_263 : decode cX16_init 263 = .ok (.aload_n 0, 1) := by decide +kernel
theorem dX16_init_264 : decode cX16_init 264 = .ok (.ldc 68, 2) := by decide +kernel
theorem dX16_init_266 : decode cX16_init 266 = .ok (.newarray .long, 2) := by decide +kernel
theorem dX16_init_268 : decode cX16_init 268 = .ok (.putfield 116, 3) := by decide +kernel
theorem dX16_init_271 : decode cX16_init 271 = .ok (.aload_n 0, 1) := by decide +kernel
theorem dX16_init_272 : decode cX16_init 272 = .ok (.ldc 68, 2) := by decide +kernel
theorem dX16_init_274 : decode cX16_init 274 = .ok (.newarray .long, 2) := by decide +kernel
theorem dX16_init_276 : decode cX16_init 276 = .ok (.putfield 119, 3) := by decide +kernel
theorem dX16_init_279 : decode cX16_init 279 = .ok (.aload_n 0, 1) := by decide +kernel
theorem dX16_init_280 : decode cX16_init 280 = .ok (.ldc 68, 2) := by decide +kernel
theorem dX16_init_282 : decode cX16_init 282 = .ok (.newarray .long, 2) := by decide +kernel
theorem dX16_init_284 : decode cX16_init 284 = .ok (.putfield 122, 3) := by decide +kernel
theorem dX16_init_287 : decode cX16_init 287 = .ok (.aload_n 0, 1) := by decide +kernel
theorem dX16_init_288 : decode cX16_init 288 = .ok (.sipush 4000, 3) := by decide +kernel
theorem dX16_init_291 : decode cX16_init 291 = .ok (.newarray .long, 2) := by decide +kernel
theorem dX16_init_293 : decode cX16_init 293 = .ok (.putfield 125, 3) := by decide +kernel
theorem dX16_init_296 : decode cX16_init 296 = .ok (.aload_n 0, 1) := by decide +kernel
theorem dX16_init_297 : decode cX16_init 297 = .ok (.sipush 4000, 3) := by decide +kernel
theorem dX16_init_300 : decode cX16_init 300 = .ok (.newarray .boolean, 2) := by decide +kernel
theorem dX16_init_302 : decode cX16_init 302 = .ok (.putfield 128, 3) := by decide +kernel
theorem dX16_init_305 : decode cX16_init 305 = .ok (.aload_n 0, 1) := by decide +kernel
theorem dX16_init_306 : decode cX16_init 306 = .ok (.iconst (-1), 1) := by decide +kernel
theorem dX16_init_307 : decode cX16_init 307 = .ok (.putfield 131, 3) := by decide +kernel
theorem dX16_init_310 : decode cX16_init 310 = .ok (.aload_n 0, 1) := by decide +kernel
theorem dX16_init_311 : decode cX16_init 311 = .ok (.ldc 134, 2) := by decide +kernel
theorem dX16_init_313 : decode cX16_init 313 = .ok (.newarray .int, 2) := by decide +kernel
theorem dX16_init_315 : decode cX16_init 315 = .ok (.putfield 135, 3) := by decide +kernel
theorem dX16_init_318 : decode cX16_init 318 = .ok (.aload_n 0, 1) := by decide +kernel
theorem dX16_init_319 : decode cX16_init 319 = .ok (.ldc 134, 2) := by decide +kernel
theorem dX16_init_321 : decode cX16_init 321 = .ok (.newarray .int, 2) := by decide +kernel
theorem dX16_init_323 : decode cX16_init 323 = .ok (.putfield 138, 3) := by decide +kernel
theorem dX16_init_326 : decode cX16_init 326 = .ok (.aload_n 0, 1) := by decide +kernel
theorem dX16_init_327 : decode cX16_init 327 = .ok (.sipush 4000, 3) := by decide +kernel
theorem dX16_init_330 : decode cX16_init 330 = .ok (.newarray .int, 2) := by decide +kernel
theorem dX16_init_332 : decode cX16_init 332 = .ok (.putfield 141, 3) := by decide +kernel
theorem dX16_init_335 : decode cX16_init 335 = .ok (.return_, 1) := by decide +kernel
theorem dX16_feed_0 : decode cX16_feed 0 = .ok (.aload_n 0, 1) := by decide +kernel
theorem dX16_feed_1 : decode cX16_feed 1 = .ok (.getfield 144, 3) := by decide +kernel
theorem dX16_feed_4 : decode cX16_feed 4 = .ok (.bipush 20, 2) := by decide +kernel
theorem dX16_feed_6 : decode cX16_feed 6 = .ok (.iadd, 1) := by decide +kernel
theorem dX16_feed_7 : decode cX16_feed 7 = .ok (.sipush 2000, 3) := by decide +kernel
theorem dX16_feed_10 : decode cX16_feed 10 = .ok (.if_icmp .le 5, 3) := by decide +kernel
theorem dX16_feed_13 : decode cX16_feed 13 = .ok (.iconst (-1), 1) := by decide +kernel
theorem dX16_feed_14 : decode cX16_feed 14 = .ok (.ireturn, 1) := by decide +kernel
theorem dX16_feed_15 : decode cX16_feed 15 = .ok (.aload_n 0, 1) := by decide +kernel
theorem dX16_feed_16 : decode cX16_feed 16 = .ok (.iload_n 1, 1) := by decide +kernel
theorem dX16_feed_17 : decode cX16_feed 17 = .ok (.invokevirtual 147, 3) := by decide +kernel
theorem dX16_feed_20 : decode cX16_feed 20 = .ok (.aload_n 0, 1) := by decide +kernel
theorem dX16_feed_21 : decode cX16_feed 21 = .ok (.iload_n 2, 1) := by decide +kernel
theorem dX16_feed_22 : decode cX16_feed 22 = .ok (.invokevirtual 147, 3) := by decide +kernel
theorem dX16_feed_25 : decode cX16_feed 25 = .ok (.aload_n 0, 1) := by decide +kernel
theorem dX16_feed_26 : decode cX16_feed 26 = .ok (.iload_n 3, 1) := by decide +kernel
theorem dX16_feed_27 : decode cX16_feed 27 = .ok (.invokevirtual 147, 3) := by decide +kernel
theorem dX16_feed_30 : decode cX16_feed 30 = .ok (.aload_n 0, 1) := by decide +kernel
theorem dX16_feed_31 : decode cX16_feed 31 = .ok (.iload 4, 2) := by decide +kernel
theorem dX16_feed_33 : decode cX16_feed 33 = .ok (.invokevirtual 147, 3) := by decide +kernel
theorem dX16_feed_36 : decode cX16_feed 36 = .ok (.aload_n 0, 1) := by decide +kernel
theorem dX16_feed_37 : decode cX16_feed 37 = .ok (.iload 5, 2) := by decide +kernel
theorem dX16_feed_39 : decode cX16_feed 39 = .ok (.invokevirtual 147, 3) := by decide +kernel
theorem dX16_feed_42 : decode cX16_feed 42 = .ok (.aload_n 0, 1) := by decide +kernel
theorem dX16_feed_43 : decode cX16_feed 43 = .ok (.getfield 144, 3) := by decide +kernel
theorem dX16_feed_46 : decode cX16_feed 46 = .ok (.ireturn, 1) := by decide +kernel
theorem dX16_feedOne_0 : decode cX16_feedOne 0 = .ok (.bipush 24, 2) := by decide +kernel
theorem dX16_feedOne_2 : decode cX16_feedOne 2 = .ok (.istore_n 2, 1) := by decide +kernel
theorem dX16_feedOne_3 : decode cX16_feedOne 3 = .ok (.iload_n 2, 1) := by decide +kernel
theorem dX16_feedOne_4 : decode cX16_feedOne 4 = .ok (.ifCond .lt 35, 3) := by decide +kernel
theorem dX16_feedOne_7 : decode cX16_feedOne 7 = .ok (.aload_n 0, 1) := by decide +kernel
theorem dX16_feedOne_8 : decode cX16_feedOne 8 = .ok (.getfield 9, 3) := by decide +kernel
theorem dX16_feedOne_11 : decode cX16_feedOne 11 = .ok (.aload_n 0, 1) := by decide +kernel
theorem dX16_feedOne_12 : decode cX16_feedOne 12 = .ok (.getfield 144, 3) := by decide +kernel
theorem dX16_feedOne_15 : decode cX16_feedOne 15 = .ok (.iload_n 1, 1) := by decide +kernel
theorem dX16_feedOne_16 : decode cX16_feedOne 16 = .ok (.iload_n 2, 1) := by decide +kernel
theorem dX16_feedOne_17 : decode cX16_feedOne 17 = .ok (.ishr, 1) := by decide +kernel
theorem dX16_feedOne_18 : decode cX16_feedOne 18 = .ok (.sipush 255, 3) := by decide +kernel
theorem dX16_feedOne_21 : decode cX16_feedOne 21 = .ok (.iand, 1) := by decide +kernel
theorem dX16_feedOne_22 : decode cX16_feedOne 22 = .ok (.iastore, 1) := by decide +kernel
theorem dX16_feedOne_23 : decode cX16_feedOne 23 = .ok (.aload_n 0, 1) := by decide +kernel
theorem dX16_feedOne_24 : decode cX16_feedOne 24 = .ok (.dup, 1) := by decide +kernel
theorem dX16_feedOne_25 : decode cX16_feedOne 25 = .ok (.getfield 144, 3) := by decide +kernel
theorem dX16_feedOne_28 : decode cX16_feedOne 28 = .ok (.iconst 1, 1) := by decide +kernel
theorem dX16_feedOne_29 : decode cX16_feedOne 29 = .ok (.iadd, 1) := by decide +kernel
theorem dX16_feedOne_30 : decode cX16_feedOne 30 = .ok (.putfield 144, 3) := by decide +kernel
theorem dX16_feedOne_33 : decode cX16_feedOne 33 = .ok (.iinc 2 (-8), 3) := by decide +kernel
theorem dX16_feedOne_36 : decode cX16_feedOne 36 = .ok (.goto (-33), 3) := by decide +kernel
theorem dX16_feedOne_39 : decode cX16_feedOne 39 = .ok (.return_, 1) := by decide +kernel
theorem dX16_end_0 : decode cX16_end 0 = .ok (.iload_n 1, 1) := by decide +kernel
theorem dX16_end_1 : decode cX16_end 1 = .ok (.ifCond .lt 11, 3) := by decide +kernel
theorem dX16_end_4 : decode cX16_end 4 = .ok (.iload_n 1, 1) := by decide +kernel
theorem dX16_end_5 : decode cX16_end 5 = .ok (.aload_n 0, 1) := by decide +kernel
theorem dX16_end_6 : decode cX16_end 6 = .ok (.getfield 144, 3) := by decide +kernel
theorem dX16_end_9 : decode cX16_end 9 = .ok (.if_icmp .le 5, 3) := by decide +kernel
theorem dX16_end_12 : decode cX16_end 12 = .ok (.iconst (-1), 1) := by decide +kernel
theorem dX16_end_13 : decode cX16_end 13 = .ok (.ireturn, 1) := by decide +kernel
theorem dX16_end_14 : decode cX16_end 14 = .ok (.aload_n 0, 1) := by decide +kernel
theorem dX16_end_15 : decode cX16_end 15 = .ok (.iload_n 1, 1) := by decide +kernel
theorem dX16_end_16 : decode cX16_end 16 = .ok (.putfield 144, 3) := by decide +kernel
theorem dX16_end_19 : decode cX16_end 19 = .ok (.iload_n 1, 1) := by decide +kernel
theorem dX16_end_20 : decode cX16_end 20 = .ok (.ireturn, 1) := by decide +kernel
theorem dX16_packet_0 : decode cX16_packet 0 = .ok (.aload_n 0, 1) := by decide +kernel
theorem dX16_packet_1 : decode cX16_packet 1 = .ok (.getfield 144, 3) := by decide +kernel
theorem dX16_packet_4 : decode cX16_packet 4 = .ok (.istore_n 1, 1) := by decide +kernel
theorem dX16_packet_5 : decode cX16_packet 5 = .ok (.aload_n 0, 1) := by decide +kernel
theorem dX16_packet_6 : decode cX16_packet 6 = .ok (.iconst 0, 1) := by decide +kernel
theorem dX16_packet_7 : decode cX16_packet 7 = .ok (.putfield 144, 3) := by decide +kernel
theorem dX16_packet_10 : decode cX16_packet 10 = .ok (.aload_n 0, 1) := by decide +kernel
theorem dX16_packet_11 : decode cX16_packet 11 = .ok (.getfield 151, 3) := by decide +kernel
theorem dX16_packet_14 : decode cX16_packet 14 = .ok (.bipush 16, 2) := by decide +kernel
theorem dX16_packet_16 : decode cX16_packet 16 = .ok (.if_icmp .ne 5, 3) := by decide +kernel
theorem dX16_packet_19 : decode cX16_packet 19 = .ok (.iconst (-1), 1) := by decide +kernel
theorem dX16_packet_20 : decode cX16_packet 20 = .ok (.ireturn, 1) := by decide +kernel
theorem dX16_packet_21 : decode cX16_packet 21 = .ok (.iload_n 1, 1) := by decide +kernel
theorem dX16_packet_22 : decode cX16_packet 22 = .ok (.sipush 256, 3) := by decide +kernel
theorem dX16_packet_25 : decode cX16_packet 25 = .ok (.if_icmp .le 6, 3) := by decide +kernel
theorem dX16_packet_28 : decode cX16_packet 28 = .ok (.bipush (-2), 2) := by decide +kernel
theorem dX16_packet_30 : decode cX16_packet 30 = .ok (.ireturn, 1) := by decide +kernel
theorem dX16_packet_31 : decode cX16_packet 31 = .ok (.iconst 0, 1) := by decide +kernel
theorem dX16_packet_32 : decode cX16_packet 32 = .ok (.istore_n 2, 1) := by decide +kernel
theorem dX16_packet_33 : decode cX16_packet 33 = .ok (.iload_n 2, 1) := by decide +kernel
theorem dX16_packet_34 : decode cX16_packet 34 = .ok (.iload_n 1, 1) := by decide +kernel
theorem dX16_packet_35 : decode cX16_packet 35 = .ok (.if_icmp .ge 30, 3) := by decide +kernel
theorem dX16_packet_38 : decode cX16_packet 38 = .ok (.aload_n 0, 1) := by decide +kernel
theorem dX16_packet_39 : decode cX16_packet 39 = .ok (.getfield 13, 3) := by decide +kernel
theorem dX16_packet_42 : decode cX16_packet 42 = .ok (.sipush 256, 3) := by decide +kernel
theorem dX16_packet_45 : decode cX16_packet 45 = .ok (.aload_n 0, 1) := by decide +kernel
theorem dX16_packet_46 : decode cX16_packet 46 = .ok (.getfield 151, 3) := by decide +kernel
theorem dX16_packet_49 : decode cX16_packet 49 = .ok (.imul, 1) := by decide +kernel
theorem dX16_packet_50 : decode cX16_packet 50 = .ok (.iload_n 2, 1) := by decide +kernel
theorem dX16_packet_51 : decode cX16_packet 51 = .ok (.iadd, 1) := by decide +kernel
theorem dX16_packet_52 : decode cX16_packet 52 = .ok (.aload_n 0, 1) := by decide +kernel
theorem dX16_packet_53 : decode cX16_packet 53 = .ok (.getfield 9, 3) := by decide +kernel
theorem dX16_packet_56 : decode cX16_packet 56 = .ok (.iload_n 2, 1) := by decide +kernel
theorem dX16_packet_57 : decode cX16_packet 57 = .ok (.iaload, 1) := by decide +kernel
theorem dX16_packet_58 : decode cX16_packet 58 = .ok (.iastore, 1) := by decide +kernel
theorem dX16_packet_59 : decode cX16_packet 59 = .ok (.iinc 2 1, 3) := by decide +kernel
theorem dX16_packet_62 : decode cX16_packet 62 = .ok (.goto (-29), 3) := by decide +kernel
theorem dX16_packet_65 : decode cX16_packet 65 = .ok (.aload_n 0, 1) := by decide +kernel
theorem dX16_packet_66 : decode cX16_packet 66 = .ok (.getfield 16, 3) := by decide +kernel
theorem dX16_packet_69 : decode cX16_packet 69 = .ok (.aload_n 0, 1) := by decide +kernel
theorem dX16_packet_70 : decode cX16_packet 70 = .ok (.getfield 151, 3) := by decide +kernel
theorem dX16_packet_73 : decode cX16_packet 73 = .ok (.iload_n 1, 1) := by decide +kernel
theorem dX16_packet_74 : decode cX16_packet 74 = .ok (.iastore, 1) := by decide +kernel
theorem dX16_packet_75 : decode cX16_packet 75 = .ok (.aload_n 0, 1) := by decide +kernel
theorem dX16_packet_76 : decode cX16_packet 76 = .ok (.dup, 1) := by decide +kernel
theorem dX16_packet_77 : decode cX16_packet 77 = .ok (.getfield 151, 3) := by decide +kernel
theorem dX16_packet_80 : decode cX16_packet 80 = .ok (.iconst 1, 1) := by decide +kernel
theorem dX16_packet_81 : decode cX16_packet 81 = .ok (.iadd, 1) := by decide +kernel
theorem dX16_packet_82 : decode cX16_packet 82 = .ok (.putfield 151, 3) := by decide +kernel
theorem dX16_packet_85 : decode cX16_packet 85 = .ok (.aload_n 0, 1) := by decide +kernel
theorem dX16_packet_86 : decode cX16_packet 86 = .ok (.getfield 151, 3) := by decide +kernel
theorem dX16_packet_89 : decode cX16_packet 89 = .ok (.iconst 1, 1) := by decide +kernel
theorem dX16_packet_90 : decode cX16_packet 90 = .ok (.isub, 1) := by decide +kernel
theorem dX16_packet_91 : decode cX16_packet 91 = .ok (.ireturn, 1) := by decide +kernel
theorem dX16_isPacket_0 : decode cX16_isPacket 0 = .ok (.iload_n 1, 1) := by decide +kernel
theorem dX16_isPacket_1 : decode cX16_isPacket 1 = .ok (.ifCond .lt 15, 3) := by decide +kernel
theorem dX16_isPacket_4 : decode cX16_isPacket 4 = .ok (.iload_n 1, 1) := by decide +kernel
theorem dX16_isPacket_5 : decode cX16_isPacket 5 = .ok (.aload_n 0, 1) := by decide +kernel
theorem dX16_isPacket_6 : decode cX16_isPacket 6 = .ok (.getfield 151, 3) := by decide +kernel
theorem dX16_isPacket_9 : decode cX16_isPacket 9 = .ok (.if_icmp .ge 7, 3) := by decide +kernel
theorem dX16_isPacket_12 : decode cX16_isPacket 12 = .ok (.iconst 1, 1) := by decide +kernel
theorem dX16_isPacket_13 : decode cX16_isPacket 13 = .ok (.goto 4, 3) := by decide +kernel
theorem dX16_isPacket_16 : decode cX16_isPacket 16 = .ok (.iconst 0, 1) := by decide +kernel
theorem dX16_isPacket_17 : decode cX16_isPacket 17 = .ok (.ireturn, 1) := by decide +kernel
theorem dX16_bytes_0 : decode cX16_bytes 0 = .ok (.aload_n 0, 1) := by decide +kernel
theorem dX16_bytes_1 : decode cX16_bytes 1 = .ok (.iload_n 1, 1) := by decide +kernel
theorem dX16_bytes_2 : decode cX16_bytes 2 = .ok (.invokevirtual 154, 3) := by decide +kernel
theorem dX16_bytes_5 : decode cX16_bytes 5 = .ok (.ifCond .eq 17, 3) := by decide +kernel
theorem dX16_bytes_8 : decode cX16_bytes 8 = .ok (.iload_n 2, 1) := by decide +kernel
theorem dX16_bytes_9 : decode cX16_bytes 9 = .ok (.ifCond .lt 13, 3) := by decide +kernel
theorem dX16_bytes_12 : decode cX16_bytes 12 = .ok (.iload_n 2, 1) := by decide +kernel
theorem dX16_bytes_13 : decode cX16_bytes 13 = .ok (.aload_n 0, 1) := by decide +kernel
theorem dX16_bytes_14 : decode cX16_bytes 14 = .ok (.getfield 16, 3) := by decide +kernel
theorem dX16_bytes_17 : decode cX16_bytes 17 = .ok (.iload_n 1, 1) := by decide +kernel
theorem dX16_bytes_18 : decode cX16_bytes 18 = .ok (.iaload, 1) := by decide +kernel
theorem dX16_bytes_19 : decode cX16_bytes 19 = .ok (.if_icmp .lt 7, 3) := by decide +kernel
theorem dX16_bytes_22 : decode cX16_bytes 22 = .ok (.ldc2_w 158, 3) := by decide +kernel
theorem dX16_bytes_25 : decode cX16_bytes 25 = .ok (.lreturn, 1) := by decide +kernel
theorem dX16_bytes_26 : decode cX16_bytes 26 = .ok (.lconst 0, 1) := by decide +kernel
theorem dX16_bytes_27 : decode cX16_bytes 27 = .ok (.lstore_n 3, 1) := by decide +kernel
theorem dX16_bytes_28 : decode cX16_bytes 28 = .ok (.iload_n 2, 1) := by decide +kernel
theorem dX16_bytes_29 : decode cX16_bytes 29 = .ok (.istore 5, 2) := by decide +kernel
theorem dX16_bytes_31 : decode cX16_bytes 31 = .ok (.iload 5, 2) := by decide +kernel
theorem dX16_bytes_33 : decode cX16_bytes 33 = .ok (.iload_n 2, 1) := by decide +kernel
theorem dX16_bytes_34 : decode cX16_bytes 34 = .ok (.bipush 8, 2) := by decide +kernel
theorem dX16_bytes_36 : decode cX16_bytes 36 = .ok (.iadd, 1) := by decide +kernel
theorem dX16_bytes_37 : decode cX16_bytes 37 = .ok (.if_icmp .ge 44, 3) := by decide +kernel
theorem dX16_bytes_40 : decode cX16_bytes 40 = .ok (.lload_n 3, 1) := by decide +kernel
theorem dX16_bytes_41 : decode cX16_bytes 41 = .ok (.bipush 8, 2) := by decide +kernel
theorem dX16_bytes_43 : decode cX16_bytes 43 = .ok (.lshl, 1) := by decide +kernel
theorem dX16_bytes_44 : decode cX16_bytes 44 = .ok (.iload 5, 2) := by decide +kernel
theorem dX16_bytes_46 : decode cX16_bytes 46 = .ok (.aload_n 0, 1) := by decide +kernel
theorem dX16_bytes_47 : decode cX16_bytes 47 = .ok (.getfield 16, 3) := by decide +kernel
theorem dX16_bytes_50 : decode cX16_bytes 50 = .ok (.iload_n 1, 1) := by decide +kernel
theorem dX16_bytes_51 : decode cX16_bytes 51 = .ok (.iaload, 1) := by decide +kernel
theorem dX16_bytes_52 : decode cX16_bytes 52 = .ok (.if_icmp .ge 19, 3) := by decide +kernel
theorem dX16_bytes_55 : decode cX16_bytes 55 = .ok (.aload_n 0, 1) := by decide +kernel
theorem dX16_bytes_56 : decode cX16_bytes 56 = .ok (.getfield 13, 3) := by decide +kernel
theorem dX16_bytes_59 : decode cX16_bytes 59 = .ok (.sipush 256, 3) := by decide +kernel
theorem dX16_bytes_62 : decode cX16_bytes 62 = .ok (.iload_n 1, 1) := by decide +kernel
theorem dX16_bytes_63 : decode cX16_bytes 63 = .ok (.imul, 1) := by decide +kernel
theorem dX16_bytes_64 : decode cX16_bytes 64 = .ok (.iload 5, 2) := by decide +kernel
theorem dX16_bytes_66 : decode cX16_bytes 66 = .ok (.iadd, 1) := by decide +kernel
theorem dX16_bytes_67 : decode cX16_bytes 67 = .ok (.iaload, 1) := by decide +kernel
theorem dX16_bytes_68 : decode cX16_bytes 68 = .ok (.goto 4, 3) := by decide +kernel
theorem dX16_bytes_71 : decode cX16_bytes 71 = .ok (.iconst 0, 1) := by decide +kernel
theorem dX16_bytes_72 : decode cX16_bytes 72 = .ok (.i2l, 1) := by decide +kernel
theorem dX16_bytes_73 : decode cX16_bytes 73 = .ok (.lor, 1) := by decide +kernel
theorem dX16_bytes_74 : decode cX16_bytes 74 = .ok (.lstore_n 3, 1) := by decide +kernel
theorem dX16_bytes_75 : decode cX16_bytes 75 = .ok (.iinc 5 1, 3) := by decide +kernel
theorem dX16_bytes_78 : decode cX16_bytes 78 = .ok (.goto (-47), 3) := by decide +kernel
theorem dX16_bytes_81 : decode cX16_bytes 81 = .ok (.lload_n 3, 1) := by decide +kernel
theorem dX16_bytes_82 : decode cX16_bytes 82 = .ok (.lreturn, 1) := by decide +kernel
theorem dX16_next_0 : decode cX16_next 0 = .ok (.aload_n 0, 1) := by decide +kernel
theorem dX16_next_1 : decode cX16_next 1 = .ok (.getfield 170, 3) := by decide +kernel
theorem dX16_next_4 : decode cX16_next 4 = .ok (.istore_n 1, 1) := by decide +kernel
theorem dX16_next_5 : decode cX16_next 5 = .ok (.iload_n 1, 1) := by decide +kernel
theorem dX16_next_6 : decode cX16_next 6 = .ok (.aload_n 0, 1) := by decide +kernel
theorem dX16_next_7 : decode cX16_next 7 = .ok (.getfield 160, 3) := by decide +kernel
theorem dX16_next_10 : decode cX16_next 10 = .ok (.if_icmp .ge 31, 3) := by decide +kernel
theorem dX16_next_13 : decode cX16_next 13 = .ok (.aload_n 0, 1) := by decide +kernel
theorem dX16_next_14 : decode cX16_next 14 = .ok (.getfield 9, 3) := by decide +kernel
theorem dX16_next_17 : decode cX16_next 17 = .ok (.iload_n 1, 1) := by decide +kernel
theorem dX16_next_18 : decode cX16_next 18 = .ok (.iaload, 1) := by decide +kernel
theorem dX16_next_19 : decode cX16_next 19 = .ok (.bipush 32, 2) := by decide +kernel
theorem dX16_next_21 : decode cX16_next 21 = .ok (.if_icmp .eq 14, 3) := by decide +kernel
theorem dX16_next_24 : decode cX16_next 24 = .ok (.aload_n 0, 1) := by decide +kernel
theorem dX16_next_25 : decode cX16_next 25 = .ok (.getfield 9, 3) := by decide +kernel
theorem dX16_next_28 : decode cX16_next 28 = .ok (.iload_n 1, 1) := by decide +kernel
theorem dX16_next_29 : decode cX16_next 29 = .ok (.iaload, 1) := by decide +kernel
theorem dX16_next_30 : decode cX16_next 30 = .ok (.bipush 10, 2) := by decide +kernel
theorem dX16_next_32 : decode cX16_next 32 = .ok (.if_icmp .ne 9, 3) := by decide +kernel
theorem dX16_next_35 : decode cX16_next 35 = .ok (.iinc 1 1, 3) := by decide +kernel
theorem dX16_next_38 : decode cX16_next 38 = .ok (.goto (-33), 3) := by decide +kernel
theorem dX16_next_41 : decode cX16_next 41 = .ok (.aload_n 0, 1) := by decide +kernel
theorem dX16_next_42 : decode cX16_next 42 = .ok (.iload_n 1, 1) := by decide +kernel
theorem dX16_next_43 : decode cX16_next 43 = .ok (.putfield 173, 3) := by decide +kernel
theorem dX16_next_46 : decode cX16_next 46 = .ok (.iload_n 1, 1) := by decide +kernel
theorem dX16_next_47 : decode cX16_next 47 = .ok (.aload_n 0, 1) := by decide +kernel
theorem dX16_next_48 : decode cX16_next 48 = .ok (.getfield 160, 3) := by decide +kernel
theorem dX16_next_51 : decode cX16_next 51 = .ok (.if_icmp .ne 9, 3) := by decide +kernel
theorem dX16_next_54 : decode cX16_next 54 = .ok (.aload_n 0, 1) := by decide +kernel
theorem dX16_next_55 : decode cX16_next 55 = .ok (.iconst 0, 1) := by decide +kernel
theorem dX16_next_56 : decode cX16_next 56 = .ok (.putfield 176, 3) := by decide +kernel
theorem dX16_next_59 : decode cX16_next 59 = .ok (.return_, 1) := by decide +kernel
theorem dX16_next_60 : decode cX16_next 60 = .ok (.aload_n 0, 1) := by decide +kernel
theorem dX16_next_61 : decode cX16_next 61 = .ok (.iload_n 1, 1) := by decide +kernel
theorem dX16_next_62 : decode cX16_next 62 = .ok (.invokevirtual 179, 3) := by decide +kernel
theorem dX16_next_65 : decode cX16_next 65 = .ok (.ifCond .eq 28, 3) := by decide +kernel
theorem dX16_next_68 : decode cX16_next 68 = .ok (.aload_n 0, 1) := by decide +kernel
theorem dX16_next_69 : decode cX16_next 69 = .ok (.iload_n 1, 1) := by decide +kernel
theorem dX16_next_70 : decode cX16_next 70 = .ok (.invokevirtual 179, 3) := by decide +kernel
theorem dX16_next_73 : decode cX16_next 73 = .ok (.ifCond .eq 9, 3) := by decide +kernel
theorem dX16_next_76 : decode cX16_next 76 = .ok (.iinc 1 1, 3) := by decide +kernel
theorem dX16_next_79 : decode cX16_next 79 = .ok (.goto (-11), 3) := by decide +kernel
theorem dX16_next_82 : decode cX16_next 82 = .ok (.aload_n 0, 1) := by decide +kernel
theorem dX16_next_83 : decode cX16_next 83 = .ok (.iconst 1, 1) := by decide +kernel
theorem dX16_next_84 : decode cX16_next 84 = .ok (.putfield 176, 3) := by decide +kernel
theorem dX16_next_87 : decode cX16_next 87 = .ok (.aload_n 0, 1) := by decide +kernel
theorem dX16_next_88 : decode cX16_next 88 = .ok (.iload_n 1, 1) := by decide +kernel
theorem dX16_next_89 : decode cX16_next 89 = .ok (.putfield 170, 3) := by decide +kernel
theorem dX16_next_92 : decode cX16_next 92 = .ok (.return_, 1) := by decide +kernel
theorem dX16_next_93 : decode cX16_next 93 = .ok (.aload_n 0, 1) := by decide +kernel
theorem dX16_next_94 : decode cX16_next 94 = .ok (.iload_n 1, 1) := by decide +kernel
theorem dX16_next_95 : decode cX16_next 95 = .ok (.invokevirtual 163, 3) := by decide +kernel
theorem dX16_next_98 : decode cX16_next 98 = .ok (.istore_n 2, 1) := by decide +kernel
theorem dX16_next_99 : decode cX16_next 99 = .ok (.aload_n 0, 1) := by decide +kernel
theorem dX16_next_100 : decode cX16_next 100 = .ok (.iload_n 1, 1) := by decide +kernel
theorem dX16_next_101 : decode cX16_next 101 = .ok (.iconst 1, 1) := by decide +kernel
theorem dX16_next_102 : decode cX16_next 102 = .ok (.iadd, 1) := by decide +kernel
theorem dX16_next_103 : decode cX16_next 103 = .ok (.invokevirtual 163, 3) := by decide +kernel
theorem dX16_next_106 : decode cX16_next 106 = .ok (.istore_n 3, 1) := by decide +kernel
theorem dX16_next_107 : decode cX16_next 107 = .ok (.iload_n 2, 1) := by decide +kernel
theorem dX16_next_108 : decode cX16_next 108 = .ok (.bipush 60, 2) := by decide +kernel
theorem dX16_next_110 : decode cX16_next 110 = .ok (.if_icmp .ne 15, 3) := by decide +kernel
theorem dX16_next_113 : decode cX16_next 113 = .ok (.iload_n 3, 1) := by decide +kernel
theorem dX16_next_114 : decode cX16_next 114 = .ok (.bipush 60, 2) := by decide +kernel
theorem dX16_next_116 : decode cX16_next 116 = .ok (.if_icmp .eq 39, 3) := by decide +kernel
theorem dX16_next_119 : decode cX16_next 119 = .ok (.iload_n 3, 1) := by decide +kernel
theorem dX16_next_120 : decode cX16_next 120 = .ok (.bipush 61, 2) := by decide +kernel
theorem dX16_next_122 : decode cX16_next 122 = .ok (.if_icmp .eq 33, 3) := by decide +kernel
theorem dX16_next_125 : decode cX16_next 125 = .ok (.iload_n 2, 1) := by decide +kernel
theorem dX16_next_126 : decode cX16_next 126 = .ok (.bipush 62, 2) := by decide +kernel
theorem dX16_next_128 : decode cX16_next 128 = .ok (.if_icmp .ne 15, 3) := by decide +kernel
theorem dX16_next_131 : decode cX16_next 131 = .ok (.iload_n 3, 1) := by decide +kernel
theorem dX16_next_132 : decode cX16_next 132 = .ok (.bipush 62, 2) := by decide +kernel
theorem dX16_next_134 : decode cX16_next 134 = .ok (.if_icmp .eq 21, 3) := by decide +kernel
theorem dX16_next_137 : decode cX16_next 137 = .ok (.iload_n 3, 1) := by decide +kernel
theorem dX16_next_138 : decode cX16_next 138 = .ok (.bipush 61, 2) := by decide +kernel
theorem dX16_next_140 : decode cX16_next 140 = .ok (.if_icmp .eq 15, 3) := by decide +kernel
theorem dX16_next_143 : decode cX16_next 143 = .ok (.iload_n 2, 1) := by decide +kernel
theorem dX16_next_144 : decode cX16_next 144 = .ok (.bipush 33, 2) := by decide +kernel
theorem dX16_next_146 : decode cX16_next 146 = .ok (.if_icmp .ne 13, 3) := by decide +kernel
theorem dX16_next_149 : decode cX16_next 149 = .ok (.iload_n 3, 1) := by decide +kernel
theorem dX16_next_150 : decode cX16_next 150 = .ok (.bipush 61, 2) := by decide +kernel
theorem dX16_next_152 : decode cX16_next 152 = .ok (.if_icmp .ne 7, 3) := by decide +kernel
theorem dX16_next_155 : decode cX16_next 155 = .ok (.iconst 1, 1) := by decide +kernel
theorem dX16_next_156 : decode cX16_next 156 = .ok (.goto 4, 3) := by decide +kernel
theorem dX16_next_159 : decode cX16_next 159 = .ok (.iconst 0, 1) := by decide +kernel
theorem dX16_next_160 : decode cX16_next 160 = .ok (.istore 4, 2) := by decide +kernel
theorem dX16_next_162 : decode cX16_next 162 = .ok (.iload_n 2, 1) := by decide +kernel
theorem dX16_next_163 : decode cX16_next 163 = .ok (.bipush 40, 2) := by decide +kernel
theorem dX16_next_165 : decode cX16_next 165 = .ok (.if_icmp .eq 105, 3) := by decide +kernel
theorem dX16_next_168 : decode cX16_next 168 = .ok (.iload_n 2, 1) := by decide +kernel
theorem dX16_next_169 : decode cX16_next 169 = .ok (.bipush 41, 2) := by decide +kernel
theorem dX16_next_171 : decode cX16_next 171 = .ok (.if_icmp .eq 99, 3) := by decide +kernel
theorem dX16_next_174 : decode cX16_next 174 = .ok (.iload_n 2, 1) := by decide +kernel
theorem dX16_next_175 : decode cX16_next 175 = .ok (.bipush 123, 2) := by decide +kernel
theorem dX16_next_177 : decode cX16_next 177 = .ok (.if_icmp .eq 93, 3) := by decide +kernel
theorem dX16_next_180 : decode cX16_next 180 = .ok (.iload_n 2, 1) := by decide +kernel
theorem dX16_next_181 : decode cX16_next 181 = .ok (.bipush 125, 2) := by decide +kernel
theorem dX16_next_183 : decode cX16_next 183 = .ok (.if_icmp .eq 87, 3) := by decide +kernel
theorem dX16_next_186 : decode cX16_next 186 = .ok (.iload_n 2, 1) := by decide +kernel
theorem dX16_next_187 : decode cX16_next 187 = .ok (.bipush 91, 2) := by decide +kernel
theorem dX16_next_189 : decode cX16_next 189 = .ok (.if_icmp .eq 81, 3) := by decide +kernel
theorem dX16_next_192 : decode cX16_next 192 = .ok (.iload_n 2, 1) := by decide +kernel
theorem dX16_next_193 : decode cX16_next 193 = .ok (.bipush 93, 2) := by decide +kernel
theorem dX16_next_195 : decode cX16_next 195 = .ok (.if_icmp .eq 75, 3) := by decide +kernel
theorem dX16_next_198 : decode cX16_next 198 = .ok (.iload_n 2, 1) := by decide +kernel
theorem dX16_next_199 : decode cX16_next 199 = .ok (.bipush 58, 2) := by decide +kernel
theorem dX16_next_201 : decode cX16_next 201 = .ok (.if_icmp .eq 69, 3) := by decide +kernel
theorem dX16_next_204 : decode cX16_next 204 = .ok (.iload_n 2, 1) := by decide +kernel
theorem dX16_next_205 : decode cX16_next 205 = .ok (.bipush 47, 2) := by decide +kernel
theorem dX16_next_207 : decode cX16_next 207 = .ok (.if_icmp .eq 63, 3) := by decide +kernel
theorem dX16_next_210 : decode cX16_next 210 = .ok (.iload_n 2, 1) := by decide +kernel
theorem dX16_next_211 : decode cX16_next 211 = .ok (.bipush 45, 2) := by decide +kernel
theorem dX16_next_213 : decode cX16_next 213 = .ok (.if_icmp .eq 57, 3) := by decide +kernel
theorem dX16_next_216 : decode cX16_next 216 = .ok (.iload_n 2, 1) := by decide +kernel
theorem dX16_next_217 : decode cX16_next 217 = .ok (.bipush 43, 2) := by decide +kernel
theorem dX16_next_219 : decode cX16_next 219 = .ok (.if_icmp .eq 51, 3) := by decide +kernel
theorem dX16_next_222 : decode cX16_next 222 = .ok (.iload_n 2, 1) := by decide +kernel
theorem dX16_next_223 : decode cX16_next 223 = .ok (.bipush 42, 2) := by decide +kernel
theorem dX16_next_225 : decode cX16_next 225 = .ok (.if_icmp .eq 45, 3) := by decide +kernel
theorem dX16_next_228 : decode cX16_next 228 = .ok (.iload_n 2, 1) := by decide +kernel
theorem dX16_next_229 : decode cX16_next 229 = .ok (.bipush 37, 2) := by decide +kernel
theorem dX16_next_231 : decode cX16_next 231 = .ok (.if_icmp .eq 39, 3) := by decide +kernel
theorem dX16_next_234 : decode cX16_next 234 = .ok (.iload_n 2, 1) := by decide +kernel
theorem dX16_next_235 : decode cX16_next 235 = .ok (.bipush 38, 2) := by decide +kernel
theorem dX16_next_237 : decode cX16_next 237 = .ok (.if_icmp .eq 33, 3) := by decide +kernel
theorem dX16_next_240 : decode cX16_next 240 = .ok (.iload_n 2, 1) := by decide +kernel
theorem dX16_next_241 : decode cX16_next 241 = .ok (.bipush 124, 2) := by decide +kernel
theorem dX16_next_243 : decode cX16_next 243 = .ok (.if_icmp .eq 27, 3) := by decide +kernel
theorem dX16_next_246 : decode cX16_next 246 = .ok (.iload_n 2, 1) := by decide +kernel
theorem dX16_next_247 : decode cX16_next 247 = .ok (.bipush 94, 2) := by decide +kernel
theorem dX16_next_249 : decode cX16_next 249 = .ok (.if_icmp .eq 21, 3) := by decide +kernel
theorem dX16_next_252 : decode cX16_next 252 = .ok (.iload_n 2, 1) := by decide +kernel
theorem dX16_next_253 : decode cX16_next 253 = .ok (.bipush 61, 2) := by decide +kernel
theorem dX16_next_255 : decode cX16_next 255 = .ok (.if_icmp .eq 15, 3) := by decide +kernel
theorem dX16_next_258 : decode cX16_next 258 = .ok (.iload_n 2, 1) := by decide +kernel
theorem dX16_next_259 : decode cX16_next 259 = .ok (.bipush 60, 2) := by decide +kernel
theorem dX16_next_261 : decode cX16_next 261 = .ok (.if_icmp .eq 9, 3) := by decide +kernel
theorem dX16_next_264 : decode cX16_next 264 = .ok (.iload_n 2, 1) := by decide +kernel
theorem dX16_next_265 : decode cX16_next 265 = .ok (.bipush 62, 2) := by decide +kernel
theorem dX16_next_267 : decode cX16_next 267 = .ok (.if_icmp .ne 7, 3) := by decide +kernel
theorem dX16_next_270 : decode cX16_next 270 = .ok (.iconst 1, 1) := by decide +kernel
theorem dX16_next_271 : decode cX16_next 271 = .ok (.goto 4, 3) := by decide +kernel
theorem dX16_next_274 : decode cX16_next 274 = .ok (.iconst 0, 1) := by decide +kernel
theorem dX16_next_275 : decode cX16_next 275 = .ok (.istore 5, 2) := by decide +kernel
theorem dX16_next_277 : decode cX16_next 277 = .ok (.aload_n 0, 1) := by decide +kernel
theorem dX16_next_278 : decode cX16_next 278 = .ok (.iload 4, 2) := by decide +kernel
theorem dX16_next_280 : decode cX16_next 280 = .ok (.ifCond .ne 8, 3) := by decide +kernel
theorem dX16_next_283 : decode cX16_next 283 = .ok (.iload 5, 2) := by decide +kernel
theorem dX16_next_285 : decode cX16_next 285 = .ok (.ifCond .eq 7, 3) := by decide +kernel
theorem dX16_next_288 : decode cX16_next 288 = .ok (.iconst 1, 1) := by decide +kernel
theorem dX16_next_289 : decode cX16_next 289 = .ok (.goto 4, 3) := by decide +kernel
theorem dX16_next_292 : decode cX16_next 292 = .ok (.iconst 0, 1) := by decide +kernel
theorem dX16_next_293 : decode cX16_next 293 = .ok (.invokevirtual 182, 3) := by decide +kernel
theorem dX16_next_296 : decode cX16_next 296 = .ok (.aload_n 0, 1) := by decide +kernel
theorem dX16_next_297 : decode cX16_next 297 = .ok (.iconst 2, 1) := by decide +kernel
theorem dX16_next_298 : decode cX16_next 298 = .ok (.putfield 176, 3) := by decide +kernel
theorem dX16_next_301 : decode cX16_next 301 = .ok (.aload_n 0, 1) := by decide +kernel
theorem dX16_next_302 : decode cX16_next 302 = .ok (.iload_n 1, 1) := by decide +kernel
theorem dX16_next_303 : decode cX16_next 303 = .ok (.iload 4, 2) := by decide +kernel
theorem dX16_next_305 : decode cX16_next 305 = .ok (.ifCond .eq 7, 3) := by decide +kernel
theorem dX16_next_308 : decode cX16_next 308 = .ok (.iconst 2, 1) := by decide +kernel
theorem dX16_next_309 : decode cX16_next 309 = .ok (.goto 4, 3) := by decide +kernel
theorem dX16_next_312 : decode cX16_next 312 = .ok (.iconst 1, 1) := by decide +kernel
theorem dX16_next_313 : decode cX16_next 313 = .ok (.iadd, 1) := by decide +kernel
theorem dX16_next_314 : decode cX16_next 314 = .ok (.putfield 170, 3) := by decide +kernel
theorem dX16_next_317 : decode cX16_next 317 = .ok (.return_, 1) := by decide +kernel
theorem dX16_must_0 : decode cX16_must 0 = .ok (.iload_n 1, 1) := by decide +kernel
theorem dX16_must_1 : decode cX16_must 1 = .ok (.ifCond .ne 15, 3) := by decide +kernel
theorem dX16_must_4 : decode cX16_must 4 = .ok (.new 186, 3) := by decide +kernel
theorem dX16_must_7 : decode cX16_must 7 = .ok (.dup, 1) := by decide +kernel
theorem dX16_must_8 : decode cX16_must 8 = .ok (.aload_n 0, 1) := by decide +kernel
theorem dX16_must_9 : decode cX16_must 9 = .ok (.getfield 173, 3) := by decide +kernel
theorem dX16_must_12 : decode cX16_must 12 = .ok (.invokespecial 188, 3) := by decide +kernel
theorem dX16_must_15 : decode cX16_must 15 = .ok (.athrow, 1) := by decide +kernel
theorem dX16_must_16 : decode cX16_must 16 = .ok (.return_, 1) := by decide +kernel
theorem dX16_is_0 : decode cX16_is 0 = .ok (.aload_n 0, 1) := by decide +kernel
theorem dX16_is_1 : decode cX16_is 1 = .ok (.getfield 176, 3) := by decide +kernel
theorem dX16_is_4 : decode cX16_is 4 = .ok (.ifCond .eq 23, 3) := by decide +kernel
theorem dX16_is_7 : decode cX16_is 7 = .ok (.aload_n 0, 1) := by decide +kernel
theorem dX16_is_8 : decode cX16_is 8 = .ok (.getfield 170, 3) := by decide +kernel
theorem dX16_is_11 : decode cX16_is 11 = .ok (.aload_n 0, 1) := by decide +kernel
theorem dX16_is_12 : decode cX16_is 12 = .ok (.getfield 173, 3) := by decide +kernel
theorem dX16_is_15 : decode cX16_is 15 = .ok (.isub, 1) := by decide +kernel
theorem dX16_is_16 : decode cX16_is 16 = .ok (.aload_n 1, 1) := by decide +kernel
theorem dX16_is_17 : decode cX16_is 17 = .ok (.invokevirtual 190, 3) := by decide +kernel
theorem dX16_is_20 : decode cX16_is 20 = .ok (.if_icmp .ne 7, 3) := by decide +kernel
theorem dX16_is_23 : decode cX16_is 23 = .ok (.iconst 1, 1) := by decide +kernel
theorem dX16_is_24 : decode cX16_is 24 = .ok (.goto 4, 3) := by decide +kernel
theorem dX16_is_27 : decode cX16_is 27 = .ok (.iconst 0, 1) := by decide +kernel
theorem dX16_is_28 : decode cX16_is 28 = .ok (.istore_n 2, 1) := by decide +kernel
theorem dX16_is_29 : decode cX16_is 29 = .ok (.iconst 0, 1) := by decide +kernel
theorem dX16_is_30 : decode cX16_is 30 = .ok (.istore_n 3, 1) := by decide +kernel
theorem dX16_is_31 : decode cX16_is 31 = .ok (.iload_n 2, 1) := by decide +kernel
theorem dX16_is_32 : decode cX16_is 32 = .ok (.ifCond .eq 42, 3) := by decide +kernel
theorem dX16_is_35 : decode cX16_is 35 = .ok (.iload_n 3, 1) := by decide +kernel
theorem dX16_is_36 : decode cX16_is 36 = .ok (.aload_n 1, 1) := by decide +kernel
theorem dX16_is_37 : decode cX16_is 37 = .ok (.invokevirtual 190, 3) := by decide +kernel
theorem dX16_is_40 : decode cX16_is 40 = .ok (.if_icmp .ge 34, 3) := by decide +kernel
theorem dX16_is_43 : decode cX16_is 43 = .ok (.aload_n 0, 1) := by decide +kernel
theorem dX16_is_44 : decode cX16_is 44 = .ok (.getfield 9, 3) := by decide +kernel
theorem dX16_is_47 : decode cX16_is 47 = .ok (.aload_n 0, 1) := by decide +kernel
theorem dX16_is_48 : decode cX16_is 48 = .ok (.getfield 173, 3) := by decide +kernel
theorem dX16_is_51 : decode cX16_is 51 = .ok (.iload_n 3, 1) := by decide +kernel
theorem dX16_is_52 : decode cX16_is 52 = .ok (.iadd, 1) := by decide +kernel
theorem dX16_is_53 : decode cX16_is 53 = .ok (.iaload, 1) := by decide +kernel
theorem dX16_is_54 : decode cX16_is 54 = .ok (.aload_n 1, 1) := by decide +kernel
theorem dX16_is_55 : decode cX16_is 55 = .ok (.iload_n 3, 1) := by decide +kernel
theorem dX16_is_56 : decode cX16_is 56 = .ok (.invokevirtual 196, 3) := by decide +kernel
theorem dX16_is_59 : decode cX16_is 59 = .ok (.if_icmp .ne 7, 3) := by decide +kernel
theorem dX16_is_62 : decode cX16_is 62 = .ok (.iconst 1, 1) := by decide +kernel
theorem dX16_is_63 : decode cX16_is 63 = .ok (.goto 4, 3) := by decide +kernel
theorem dX16_is_66 : decode cX16_is 66 = .ok (.iconst 0, 1) := by decide +kernel
theorem dX16_is_67 : decode cX16_is 67 = .ok (.istore_n 2, 1) := by decide +kernel
theorem dX16_is_68 : decode cX16_is 68 = .ok (.iinc 3 1, 3) := by decide +kernel
theorem dX16_is_71 : decode cX16_is 71 = .ok (.goto (-40), 3) := by decide +kernel
theorem dX16_is_74 : decode cX16_is 74 = .ok (.iload_n 2, 1) := by decide +kernel
theorem dX16_is_75 : decode cX16_is 75 = .ok (.ireturn, 1) := by decide +kernel
theorem dX16_number_0 : decode cX16_number 0 = .ok (.aload_n 0, 1) := by decide +kernel
theorem dX16_number_1 : decode cX16_number 1 = .ok (.getfield 176, 3) := by decide +kernel
theorem dX16_number_4 : decode cX16_number 4 = .ok (.iconst 1, 1) := by decide +kernel
theorem dX16_number_5 : decode cX16_number 5 = .ok (.if_icmp .eq 7, 3) := by decide +kernel
theorem dX16_number_8 : decode cX16_number 8 = .ok (.ldc2_w 158, 3) := by decide +kernel
theorem dX16_number_11 : decode cX16_number 11 = .ok (.lreturn, 1) := by decide +kernel
theorem dX16_number_12 : decode cX16_number 12 = .ok (.aload_n 0, 1) := by decide +kernel
theorem dX16_number_13 : decode cX16_number 13 = .ok (.getfield 170, 3) := by decide +kernel
theorem dX16_number_16 : decode cX16_number 16 = .ok (.aload_n 0, 1) := by decide +kernel
theorem dX16_number_17 : decode cX16_number 17 = .ok (.getfield 173, 3) := by decide +kernel
theorem dX16_number_20 : decode cX16_number 20 = .ok (.isub, 1) := by decide +kernel
theorem dX16_number_21 : decode cX16_number 21 = .ok (.iconst 2, 1) := by decide +kernel
theorem dX16_number_22 : decode cX16_number 22 = .ok (.if_icmp .le 35, 3) := by decide +kernel
theorem dX16_number_25 : decode cX16_number 25 = .ok (.aload_n 0, 1) := by decide +kernel
theorem dX16_number_26 : decode cX16_number 26 = .ok (.aload_n 0, 1) := by decide +kernel
theorem dX16_number_27 : decode cX16_number 27 = .ok (.getfield 173, 3) := by decide +kernel
theorem dX16_number_30 : decode cX16_number 30 = .ok (.invokevirtual 163, 3) := by decide +kernel
theorem dX16_number_33 : decode cX16_number 33 = .ok (.bipush 48, 2) := by decide +kernel
theorem dX16_number_35 : decode cX16_number 35 = .ok (.if_icmp .ne 22, 3) := by decide +kernel
theorem dX16_number_38 : decode cX16_number 38 = .ok (.aload_n 0, 1) := by decide +kernel
theorem dX16_number_39 : decode cX16_number 39 = .ok (.aload_n 0, 1) := by decide +kernel
theorem dX16_number_40 : decode cX16_number 40 = .ok (.getfield 173, 3) := by decide +kernel
theorem dX16_number_43 : decode cX16_number 43 = .ok (.iconst 1, 1) := by decide +kernel
theorem dX16_number_44 : decode cX16_number 44 = .ok (.iadd, 1) := by decide +kernel
theorem dX16_number_45 : decode cX16_number 45 = .ok (.invokevirtual 163, 3) := by decide +kernel
theorem dX16_number_48 : decode cX16_number 48 = .ok (.bipush 120, 2) := by decide +kernel
theorem dX16_number_50 : decode cX16_number 50 = .ok (.if_icmp .ne 7, 3) := by decide +kernel
theorem dX16_number_53 : decode cX16_number 53 = .ok (.iconst 1, 1) := by decide +kernel
theorem dX16_number_54 : decode cX16_number 54 = .ok (.goto 4, 3) := by decide +kernel
theorem dX16_number_57 : decode cX16_number 57 = .ok (.iconst 0, 1) := by decide +kernel
theorem dX16_number_58 : decode cX16_number 58 = .ok (.istore_n 1, 1) := by decide +kernel
theorem dX16_number_59 : decode cX16_number 59 = .ok (.iload_n 1, 1) := by decide +kernel
theorem dX16_number_60 : decode cX16_number 60 = .ok (.ifCond .eq 12, 3) := by decide +kernel
theorem dX16_number_63 : decode cX16_number 63 = .ok (.aload_n 0, 1) := by decide +kernel
theorem dX16_number_64 : decode cX16_number 64 = .ok (.getfield 173, 3) := by decide +kernel
theorem dX16_number_67 : decode cX16_number 67 = .ok (.iconst 2, 1) := by decide +kernel
theorem dX16_number_68 : decode cX16_number 68 = .ok (.iadd, 1) := by decide +kernel
theorem dX16_number_69 : decode cX16_number 69 = .ok (.goto 7, 3) := by decide +kernel
theorem dX16_number_72 : decode cX16_number 72 = .ok (.aload_n 0, 1) := by decide +kernel
theorem dX16_number_73 : decode cX16_number 73 = .ok (.getfield 173, 3) := by decide +kernel
theorem dX16_number_76 : decode cX16_number 76 = .ok (.istore_n 2, 1) := by decide +kernel
theorem dX16_number_77 : decode cX16_number 77 = .ok (.iload_n 1, 1) := by decide +kernel
theorem dX16_number_78 : decode cX16_number 78 = .ok (.ifCond .eq 18, 3) := by decide +kernel
theorem dX16_number_81 : decode cX16_number 81 = .ok (.aload_n 0, 1) := by decide +kernel
theorem dX16_number_82 : decode cX16_number 82 = .ok (.getfield 170, 3) := by decide +kernel
theorem dX16_number_85 : decode cX16_number 85 = .ok (.iload_n 2, 1) := by decide +kernel
theorem dX16_number_86 : decode cX16_number 86 = .ok (.isub, 1) := by decide +kernel
theorem dX16_number_87 : decode cX16_number 87 = .ok (.bipush 8, 2) := by decide +kernel
theorem dX16_number_89 : decode cX16_number 89 = .ok (.if_icmp .le 7, 3) := by decide +kernel
theorem dX16_number_92 : decode cX16_number 92 = .ok (.ldc2_w 158, 3) := by decide +kernel
theorem dX16_number_95 : decode cX16_number 95 = .ok (.lreturn, 1) := by decide +kernel
theorem dX16_number_96 : decode cX16_number 96 = .ok (.lconst 0, 1) := by decide +kernel
theorem dX16_number_97 : decode cX16_number 97 = .ok (.lstore_n 3, 1) := by decide +kernel
theorem dX16_number_98 : decode cX16_number 98 = .ok (.iload_n 2, 1) := by decide +kernel
theorem dX16_number_99 : decode cX16_number 99 = .ok (.istore 5, 2) := by decide +kernel
theorem dX16_number_101 : decode cX16_number 101 = .ok (.iload 5, 2) := by decide +kernel
theorem dX16_number_103 : decode cX16_number 103 = .ok (.aload_n 0, 1) := by decide +kernel
theorem dX16_number_104 : decode cX16_number 104 = .ok (.getfield 170, 3) := by decide +kernel
theorem dX16_number_107 : decode cX16_number 107 = .ok (.if_icmp .ge 101, 3) := by decide +kernel
theorem dX16_number_110 : decode cX16_number 110 = .ok (.aload_n 0, 1) := by decide +kernel
theorem dX16_number_111 : decode cX16_number 111 = .ok (.getfield 9, 3) := by decide +kernel
theorem dX16_number_114 : decode cX16_number 114 = .ok (.iload 5, 2) := by decide +kernel
theorem dX16_number_116 : decode cX16_number 116 = .ok (.iaload, 1) := by decide +kernel
theorem dX16_number_117 : decode cX16_number 117 = .ok (.istore 6, 2) := by decide +kernel
theorem dX16_number_119 : decode cX16_number 119 = .ok (.iload 6, 2) := by decide +kernel
theorem dX16_number_121 : decode cX16_number 121 = .ok (.invokestatic 167, 3) := by decide +kernel
theorem dX16_number_124 : decode cX16_number 124 = .ok (.ifCond .eq 11, 3) := by decide +kernel
theorem dX16_number_127 : decode cX16_number 127 = .ok (.iload 6, 2) := by decide +kernel
theorem dX16_number_129 : decode cX16_number 129 = .ok (.bipush 48, 2) := by decide +kernel
theorem dX16_number_131 : decode cX16_number 131 = .ok (.isub, 1) := by decide +kernel
theorem dX16_number_132 : decode cX16_number 132 = .ok (.goto 33, 3) := by decide +kernel
theorem dX16_number_135 : decode cX16_number 135 = .ok (.iload_n 1, 1) := by decide +kernel
theorem dX16_number_136 : decode cX16_number 136 = .ok (.ifCond .eq 28, 3) := by decide +kernel
theorem dX16_number_139 : decode cX16_number 139 = .ok (.iload 6, 2) := by decide +kernel
theorem dX16_number_141 : decode cX16_number 141 = .ok (.bipush 97, 2) := by decide +kernel
theorem dX16_number_143 : decode cX16_number 143 = .ok (.if_icmp .lt 21, 3) := by decide +kernel
theorem dX16_number_146 : decode cX16_number 146 = .ok (.iload 6, 2) := by decide +kernel
theorem dX16_number_148 : decode cX16_number 148 = .ok (.bipush 102, 2) := by decide +kernel
theorem dX16_number_150 : decode cX16_number 150 = .ok (.if_icmp .gt 14, 3) := by decide +kernel
theorem dX16_number_153 : decode cX16_number 153 = .ok (.iload 6, 2) := by decide +kernel
theorem dX16_number_155 : decode cX16_number 155 = .ok (.bipush 97, 2) := by decide +kernel
theorem dX16_number_157 : decode cX16_number 157 = .ok (.isub, 1) := by decide +kernel
theorem dX16_number_158 : decode cX16_number 158 = .ok (.bipush 10, 2) := by decide +kernel
theorem dX16_number_160 : decode cX16_number 160 = .ok (.iadd, 1) := by decide +kernel
theorem dX16_number_161 : decode cX16_number 161 = .ok (.goto 4, 3) := by decide +kernel
theorem dX16_number_164 : decode cX16_number 164 = .ok (.iconst (-1), 1) := by decide +kernel
theorem dX16_number_165 : decode cX16_number 165 = .ok (.istore 7, 2) := by decide +kernel
theorem dX16_number_167 : decode cX16_number 167 = .ok (.iload 7, 2) := by decide +kernel
theorem dX16_number_169 : decode cX16_number 169 = .ok (.ifCond .ge 7, 3) := by decide +kernel
theorem dX16_number_172 : decode cX16_number 172 = .ok (.ldc2_w 158, 3) := by decide +kernel
theorem dX16_number_175 : decode cX16_number 175 = .ok (.lreturn, 1) := by decide +kernel
theorem dX16_number_176 : decode cX16_number 176 = .ok (.ldc2_w 207, 3) := by decide +kernel
theorem dX16_number_179 : decode cX16_number 179 = .ok (.lload_n 3, 1) := by decide +kernel
theorem dX16_number_180 : decode cX16_number 180 = .ok (.iload_n 1, 1) := by decide +kernel
theorem dX16_number_181 : decode cX16_number 181 = .ok (.ifCond .eq 9, 3) := by decide +kernel
theorem dX16_number_184 : decode cX16_number 184 = .ok (.ldc2_w 209, 3) := by decide +kernel
theorem dX16_number_187 : decode cX16_number 187 = .ok (.goto 6, 3) := by decide +kernel
theorem dX16_number_190 : decode cX16_number 190 = .ok (.ldc2_w 211, 3) := by decide +kernel
theorem dX16_number_193 : decode cX16_number 193 = .ok (.lmul, 1) := by decide +kernel
theorem dX16_number_194 : decode cX16_number 194 = .ok (.iload 7, 2) := by decide +kernel
theorem dX16_number_196 : decode cX16_number 196 = .ok (.i2l, 1) := by decide +kernel
theorem dX16_number_197 : decode cX16_number 197 = .ok (.ladd, 1) := by decide +kernel
theorem dX16_number_198 : decode cX16_number 198 = .ok (.invokestatic 213, 3) := by decide +kernel
theorem dX16_number_201 : decode cX16_number 201 = .ok (.lstore_n 3, 1) := by decide +kernel
theorem dX16_number_202 : decode cX16_number 202 = .ok (.iinc 5 1, 3) := by decide +kernel
theorem dX16_number_205 : decode cX16_number 205 = .ok (.goto (-104), 3) := by decide +kernel
theorem dX16_number_208 : decode cX16_number 208 = .ok (.lload_n 3, 1) := by decide +kernel
theorem dX16_number_209 : decode cX16_number 209 = .ok (.ldc2_w 219, 3) := by decide +kernel
theorem dX16_number_212 : decode cX16_number 212 = .ok (.lcmp, 1) := by decide +kernel
theorem dX16_number_213 : decode cX16_number 213 = .ok (.ifCond .le 9, 3) := by decide +kernel
theorem dX16_number_216 : decode cX16_number 216 = .ok (.ldc2_w 158, 3) := by decide +kernel
theorem dX16_number_219 : decode cX16_number 219 = .ok (.goto 4, 3) := by decide +kernel
theorem dX16_number_222 : decode cX16_number 222 = .ok (.lload_n 3, 1) := by decide +kernel
theorem dX16_number_223 : decode cX16_number 223 = .ok (.lreturn, 1) := by decide +kernel
theorem dX16_wantNumber_0 : decode cX16_wantNumber 0 = .ok (.aload_n 0, 1) := by decide +kernel
theorem dX16_wantNumber_1 : decode cX16_wantNumber 1 = .ok (.invokevirtual 221, 3) := by decide +kernel
theorem dX16_wantNumber_4 : decode cX16_wantNumber 4 = .ok (.lstore 5, 2) := by decide +kernel
theorem dX16_wantNumber_6 : decode cX16_wantNumber 6 = .ok (.aload_n 0, 1) := by decide +kernel
theorem dX16_wantNumber_7 : decode cX16_wantNumber 7 = .ok (.lload 5, 2) := by decide +kernel
theorem dX16_wantNumber_9 : decode cX16_wantNumber 9 = .ok (.lload_n 1, 1) := by decide +kernel
theorem dX16_wantNumber_10 : decode cX16_wantNumber 10 = .ok (.lcmp, 1) := by decide +kernel
theorem dX16_wantNumber_11 : decode cX16_wantNumber 11 = .ok (.ifCond .lt 14, 3) := by decide +kernel
theorem dX16_wantNumber_14 : decode cX16_wantNumber 14 = .ok (.lload 5, 2) := by decide +kernel
theorem dX16_wantNumber_16 : decode cX16_wantNumber 16 = .ok (.lload_n 3, 1) := by decide +kernel
theorem dX16_wantNumber_17 : decode cX16_wantNumber 17 = .ok (.lcmp, 1) := by decide +kernel
theorem dX16_wantNumber_18 : decode cX16_wantNumber 18 = .ok (.ifCond .gt 7, 3) := by decide +kernel
theorem dX16_wantNumber_21 : decode cX16_wantNumber 21 = .ok (.iconst 1, 1) := by decide +kernel
theorem dX16_wantNumber_22 : decode cX16_wantNumber 22 = .ok (.goto 4, 3) := by decide +kernel
theorem dX16_wantNumber_25 : decode cX16_wantNumber 25 = .ok (.iconst 0, 1) := by decide +kernel
theorem dX16_wantNumber_26 : decode cX16_wantNumber 26 = .ok (.invokevirtual 182, 3) := by decide +kernel
theorem dX16_wantNumber_29 : decode cX16_wantNumber 29 = .ok (.aload_n 0, 1) := by decide +kernel
theorem dX16_wantNumber_30 : decode cX16_wantNumber 30 = .ok (.invokevirtual 204, 3) := by decide +kernel
theorem dX16_wantNumber_33 : decode cX16_wantNumber 33 = .ok (.lload 5, 2) := by decide +kernel
theorem dX16_wantNumber_35 : decode cX16_wantNumber 35 = .ok (.lreturn, 1) := by decide +kernel
theorem dX16_readFilter_0 : decode cX16_readFilter 0 = .ok (.aload_n 0, 1) := by decide +kernel
theorem dX16_readFilter_1 : decode cX16_readFilter 1 = .ok (.invokevirtual 317, 3) := by decide +kernel
theorem dX16_readFilter_4 : decode cX16_readFilter 4 = .ok (.astore_n 1, 1) := by decide +kernel
theorem dX16_readFilter_5 : decode cX16_readFilter 5 = .ok (.aload_n 0, 1) := by decide +kernel
theorem dX16_readFilter_6 : decode cX16_readFilter 6 = .ok (.ldc_w 320, 3) := by decide +kernel
theorem dX16_readFilter_9 : decode cX16_readFilter 9 = .ok (.invokevirtual 200, 3) := by decide +kernel
theorem dX16_readFilter_12 : decode cX16_readFilter 12 = .ok (.ifCond .eq 19, 3) := by decide +kernel
theorem dX16_readFilter_15 : decode cX16_readFilter 15 = .ok (.aload_n 0, 1) := by decide +kernel
theorem dX16_readFilter_16 : decode cX16_readFilter 16 = .ok (.invokevirtual 204, 3) := by decide +kernel
theorem dX16_readFilter_19 : decode cX16_readFilter 19 = .ok (.aload_n 1, 1) := by decide +kernel
theorem dX16_readFilter_20 : decode cX16_readFilter 20 = .ok (.aload_n 0, 1) := by decide +kernel
theorem dX16_readFilter_21 : decode cX16_readFilter 21 = .ok (.invokevirtual 317, 3) := by decide +kernel
theorem dX16_readFilter_24 : decode cX16_readFilter 24 = .ok (.invokestatic 280, 3) := by decide +kernel
theorem dX16_readFilter_27 : decode cX16_readFilter 27 = .ok (.astore_n 1, 1) := by decide +kernel
theorem dX16_readFilter_28 : decode cX16_readFilter 28 = .ok (.goto (-23), 3) := by decide +kernel
theorem dX16_readFilter_31 : decode cX16_readFilter 31 = .ok (.aload_n 1, 1) := by decide +kernel
theorem dX16_readFilter_32 : decode cX16_readFilter 32 = .ok (.areturn, 1) := by decide +kernel
theorem dX16_readAll_0 : decode cX16_readAll 0 = .ok (.aload_n 0, 1) := by decide +kernel
theorem dX16_readAll_1 : decode cX16_readAll 1 = .ok (.invokevirtual 321, 3) := by decide +kernel
theorem dX16_readAll_4 : decode cX16_readAll 4 = .ok (.astore_n 1, 1) := by decide +kernel
theorem dX16_readAll_5 : decode cX16_readAll 5 = .ok (.aload_n 0, 1) := by decide +kernel
theorem dX16_readAll_6 : decode cX16_readAll 6 = .ok (.ldc_w 324, 3) := by decide +kernel
theorem dX16_readAll_9 : decode cX16_readAll 9 = .ok (.invokevirtual 200, 3) := by decide +kernel
theorem dX16_readAll_12 : decode cX16_readAll 12 = .ok (.ifCond .eq 19, 3) := by decide +kernel
theorem dX16_readAll_15 : decode cX16_readAll 15 = .ok (.aload_n 0, 1) := by decide +kernel
theorem dX16_readAll_16 : decode cX16_readAll 16 = .ok (.invokevirtual 204, 3) := by decide +kernel
theorem dX16_readAll_19 : decode cX16_readAll 19 = .ok (.aload_n 1, 1) := by decide +kernel
theorem dX16_readAll_20 : decode cX16_readAll 20 = .ok (.aload_n 0, 1) := by decide +kernel
theorem dX16_readAll_21 : decode cX16_readAll 21 = .ok (.invokevirtual 321, 3) := by decide +kernel
theorem dX16_readAll_24 : decode cX16_readAll 24 = .ok (.invokestatic 274, 3) := by decide +kernel
theorem dX16_readAll_27 : decode cX16_readAll 27 = .ok (.astore_n 1, 1) := by decide +kernel
theorem dX16_readAll_28 : decode cX16_readAll 28 = .ok (.goto (-23), 3) := by decide +kernel
theorem dX16_readAll_31 : decode cX16_readAll 31 = .ok (.aload_n 1, 1) := by decide +kernel
theorem dX16_readAll_32 : decode cX16_readAll 32 = .ok (.areturn, 1) := by decide +kernel
theorem dX16_readOne_0 : decode cX16_readOne 0 = .ok (.aload_n 0, 1) := by decide +kernel
theorem dX16_readOne_1 : decode cX16_readOne 1 = .ok (.ldc_w 328, 3) := by decide +kernel
theorem dX16_readOne_4 : decode cX16_readOne 4 = .ok (.invokevirtual 200, 3) := by decide +kernel
theorem dX16_readOne_7 : decode cX16_readOne 7 = .ok (.ifCond .eq 33, 3) := by decide +kernel
theorem dX16_readOne_10 : decode cX16_readOne 10 = .ok (.aload_n 0, 1) := by decide +kernel
theorem dX16_readOne_11 : decode cX16_readOne 11 = .ok (.invokevirtual 330, 3) := by decide +kernel
theorem dX16_readOne_14 : decode cX16_readOne 14 = .ok (.new 22, 3) := by decide +kernel
theorem dX16_readOne_17 : decode cX16_readOne 17 = .ok (.dup, 1) := by decide +kernel
theorem dX16_readOne_18 : decode cX16_readOne 18 = .ok (.iconst 3, 1) := by decide +kernel
theorem dX16_readOne_19 : decode cX16_readOne 19 = .ok (.aload_n 0, 1) := by decide +kernel
theorem dX16_readOne_20 : decode cX16_readOne 20 = .ok (.invokevirtual 321, 3) := by decide +kernel
theorem dX16_readOne_23 : decode cX16_readOne 23 = .ok (.aconst_null, 1) := by decide +kernel
theorem dX16_readOne_24 : decode cX16_readOne 24 = .ok (.invokespecial 240, 3) := by decide +kernel
theorem dX16_readOne_27 : decode cX16_readOne 27 = .ok (.astore_n 1, 1) := by decide +kernel
theorem dX16_readOne_28 : decode cX16_readOne 28 = .ok (.aload_n 0, 1) := by decide +kernel
theorem dX16_readOne_29 : decode cX16_readOne 29 = .ok (.dup, 1) := by decide +kernel
theorem dX16_readOne_30 : decode cX16_readOne 30 = .ok (.getfield 325, 3) := by decide +kernel
theorem dX16_readOne_33 : decode cX16_readOne 33 = .ok (.iconst 1, 1) := by decide +kernel
theorem dX16_readOne_34 : decode cX16_readOne 34 = .ok (.isub, 1) := by decide +kernel
theorem dX16_readOne_35 : decode cX16_readOne 35 = .ok (.putfield 325, 3) := by decide +kernel
theorem dX16_readOne_38 : decode cX16_readOne 38 = .ok (.aload_n 1, 1) := by decide +kernel
theorem dX16_readOne_39 : decode cX16_readOne 39 = .ok (.areturn, 1) := by decide +kernel
theorem dX16_readOne_40 : decode cX16_readOne 40 = .ok (.aload_n 0, 1) := by decide +kernel
theorem dX16_readOne_41 : decode cX16_readOne 41 = .ok (.ldc_w 333, 3) := by decide +kernel
theorem dX16_readOne_44 : decode cX16_readOne 44 = .ok (.invokevirtual 200, 3) := by decide +kernel
theorem dX16_readOne_47 : decode cX16_readOne 47 = .ok (.ifCond .eq 31, 3) := by decide +kernel
theorem dX16_readOne_50 : decode cX16_readOne 50 = .ok (.aload_n 0, 1) := by decide +kernel
theorem dX16_readOne_51 : decode cX16_readOne 51 = .ok (.invokevirtual 330, 3) := by decide +kernel
theorem dX16_readOne_54 : decode cX16_readOne 54 = .ok (.aload_n 0, 1) := by decide +kernel
theorem dX16_readOne_55 : decode cX16_readOne 55 = .ok (.invokevirtual 335, 3) := by decide +kernel
theorem dX16_readOne_58 : decode cX16_readOne 58 = .ok (.astore_n 1, 1) := by decide +kernel
theorem dX16_readOne_59 : decode cX16_readOne 59 = .ok (.aload_n 0, 1) := by decide +kernel
theorem dX16_readOne_60 : decode cX16_readOne 60 = .ok (.ldc_w 338, 3) := by decide +kernel
theorem dX16_readOne_63 : decode cX16_readOne 63 = .ok (.invokevirtual 340, 3) := by decide +kernel
theorem dX16_readOne_66 : decode cX16_readOne 66 = .ok (.aload_n 0, 1) := by decide +kernel
theorem dX16_readOne_67 : decode cX16_readOne 67 = .ok (.dup, 1) := by decide +kernel
theorem dX16_readOne_68 : decode cX16_readOne 68 = .ok (.getfield 325, 3) := by decide +kernel
theorem dX16_readOne_71 : decode cX16_readOne 71 = .ok (.iconst 1, 1) := by decide +kernel
theorem dX16_readOne_72 : decode cX16_readOne 72 = .ok (.isub, 1) := by decide +kernel
theorem dX16_readOne_73 : decode cX16_readOne 73 = .ok (.putfield 325, 3) := by decide +kernel
theorem dX16_readOne_76 : decode cX16_readOne 76 = .ok (.aload_n 1, 1) := by decide +kernel
theorem dX16_readOne_77 : decode cX16_readOne 77 = .ok (.areturn, 1) := by decide +kernel
theorem dX16_readOne_78 : decode cX16_readOne 78 = .ok (.aload_n 0, 1) := by decide +kernel
theorem dX16_readOne_79 : decode cX16_readOne 79 = .ok (.invokevirtual 344, 3) := by decide +kernel
theorem dX16_readOne_82 : decode cX16_readOne 82 = .ok (.istore_n 1, 1) := by decide +kernel
theorem dX16_readOne_83 : decode cX16_readOne 83 = .ok (.iload_n 1, 1) := by decide +kernel
theorem dX16_readOne_84 : decode cX16_readOne 84 = .ok (.ifCond .lt 13, 3) := by decide +kernel
theorem dX16_readOne_87 : decode cX16_readOne 87 = .ok (.aload_n 0, 1) := by decide +kernel
theorem dX16_readOne_88 : decode cX16_readOne 88 = .ok (.invokevirtual 204, 3) := by decide +kernel
theorem dX16_readOne_91 : decode cX16_readOne 91 = .ok (.aload_n 0, 1) := by decide +kernel
theorem dX16_readOne_92 : decode cX16_readOne 92 = .ok (.iload_n 1, 1) := by decide +kernel
theorem dX16_readOne_93 : decode cX16_readOne 93 = .ok (.invokevirtual 347, 3) := by decide +kernel
theorem dX16_readOne_96 : decode cX16_readOne 96 = .ok (.areturn, 1) := by decide +kernel
theorem dX16_readOne_97 : decode cX16_readOne 97 = .ok (.aload_n 0, 1) := by decide +kernel
theorem dX16_readOne_98 : decode cX16_readOne 98 = .ok (.ldc_w 351, 3) := by decide +kernel
theorem dX16_readOne_101 : decode cX16_readOne 101 = .ok (.invokevirtual 200, 3) := by decide +kernel
theorem dX16_readOne_104 : decode cX16_readOne 104 = .ok (.ifCond .ne 13, 3) := by decide +kernel
theorem dX16_readOne_107 : decode cX16_readOne 107 = .ok (.aload_n 0, 1) := by decide +kernel
theorem dX16_readOne_108 : decode cX16_readOne 108 = .ok (.ldc_w 353, 3) := by decide +kernel
theorem dX16_readOne_111 : decode cX16_readOne 111 = .ok (.invokevirtual 200, 3) := by decide +kernel
theorem dX16_readOne_114 : decode cX16_readOne 114 = .ok (.ifCond .eq 56, 3) := by decide +kernel
theorem dX16_readOne_117 : decode cX16_readOne 117 = .ok (.aload_n 0, 1) := by decide +kernel
theorem dX16_readOne_118 : decode cX16_readOne 118 = .ok (.ldc_w 351, 3) := by decide +kernel
theorem dX16_readOne_121 : decode cX16_readOne 121 = .ok (.invokevirtual 200, 3) := by decide +kernel
theorem dX16_readOne_124 : decode cX16_readOne 124 = .ok (.istore_n 2, 1) := by decide +kernel
theorem dX16_readOne_125 : decode cX16_readOne 125 = .ok (.aload_n 0, 1) := by decide +kernel
theorem dX16_readOne_126 : decode cX16_readOne 126 = .ok (.invokevirtual 204, 3) := by decide +kernel
theorem dX16_readOne_129 : decode cX16_readOne 129 = .ok (.new 22, 3) := by decide +kernel
theorem dX16_readOne_132 : decode cX16_readOne 132 = .ok (.dup, 1) := by decide +kernel
theorem dX16_readOne_133 : decode cX16_readOne 133 = .ok (.new 43, 3) := by decide +kernel
theorem dX16_readOne_136 : decode cX16_readOne 136 = .ok (.dup, 1) := by decide +kernel
theorem dX16_readOne_137 : decode cX16_readOne 137 = .ok (.iconst 1, 1) := by decide +kernel
theorem dX16_readOne_138 : decode cX16_readOne 138 = .ok (.lconst 0, 1) := by decide +kernel
theorem dX16_readOne_139 : decode cX16_readOne 139 = .ok (.aconst_null, 1) := by decide +kernel
theorem dX16_readOne_140 : decode cX16_readOne 140 = .ok (.aconst_null, 1) := by decide +kernel
theorem dX16_readOne_141 : decode cX16_readOne 141 = .ok (.iconst 0, 1) := by decide +kernel
theorem dX16_readOne_142 : decode cX16_readOne 142 = .ok (.invokespecial 231, 3) := by decide +kernel
theorem dX16_readOne_145 : decode cX16_readOne 145 = .ok (.iload_n 2, 1) := by decide +kernel
theorem dX16_readOne_146 : decode cX16_readOne 146 = .ok (.ifCond .eq 8, 3) := by decide +kernel
theorem dX16_readOne_149 : decode cX16_readOne 149 = .ok (.bipush 11, 2) := by decide +kernel
theorem dX16_readOne_151 : decode cX16_readOne 151 = .ok (.goto 4, 3) := by decide +kernel
theorem dX16_readOne_154 : decode cX16_readOne 154 = .ok (.iconst 3, 1) := by decide +kernel
theorem dX16_readOne_155 : decode cX16_readOne 155 = .ok (.aload_n 0, 1) := by decide +kernel
theorem dX16_readOne_156 : decode cX16_readOne 156 = .ok (.lconst 0, 1) := by decide +kernel
theorem dX16_readOne_157 : decode cX16_readOne 157 = .ok (.ldc2_w 219, 3) := by decide +kernel
theorem dX16_readOne_160 : decode cX16_readOne 160 = .ok (.invokevirtual 355, 3) := by decide +kernel
theorem dX16_readOne_163 : decode cX16_readOne 163 = .ok (.invokestatic 234, 3) := by decide +kernel
theorem dX16_readOne_166 : decode cX16_readOne 166 = .ok (.invokespecial 243, 3) := by decide +kernel
theorem dX16_readOne_169 : decode cX16_readOne 169 = .ok (.areturn, 1) := by decide +kernel
theorem dX16_readOne_170 : decode cX16_readOne 170 = .ok (.aload_n 0, 1) := by decide +kernel
theorem dX16_readOne_171 : decode cX16_readOne 171 = .ok (.ldc_w 358, 3) := by decide +kernel
theorem dX16_readOne_174 : decode cX16_readOne 174 = .ok (.invokevirtual 200, 3) := by decide +kernel
theorem dX16_readOne_177 : decode cX16_readOne 177 = .ok (.ifCond .eq 7, 3) := by decide +kernel
theorem dX16_readOne_180 : decode cX16_readOne 180 = .ok (.iconst 1, 1) := by decide +kernel
theorem dX16_readOne_181 : decode cX16_readOne 181 = .ok (.goto 18, 3) := by decide +kernel
theorem dX16_readOne_184 : decode cX16_readOne 184 = .ok (.aload_n 0, 1) := by decide +kernel
theorem dX16_readOne_185 : decode cX16_readOne 185 = .ok (.ldc_w 360, 3) := by decide +kernel
theorem dX16_readOne_188 : decode cX16_readOne 188 = .ok (.invokevirtual 200, 3) := by decide +kernel
theorem dX16_readOne_191 : decode cX16_readOne 191 = .ok (.ifCond .eq 7, 3) := by decide +kernel
theorem dX16_readOne_194 : decode cX16_readOne 194 = .ok (.iconst 2, 1) := by decide +kernel
theorem dX16_readOne_195 : decode cX16_readOne 195 = .ok (.goto 4, 3) := by decide +kernel
theorem dX16_readOne_198 : decode cX16_readOne 198 = .ok (.iconst 0, 1) := by decide +kernel
theorem dX16_readOne_199 : decode cX16_readOne 199 = .ok (.istore_n 2, 1) := by decide +kernel
theorem dX16_readOne_200 : decode cX16_readOne 200 = .ok (.iload_n 2, 1) := by decide +kernel
theorem dX16_readOne_201 : decode cX16_readOne 201 = .ok (.ifCond .le 7, 3) := by decide +kernel
theorem dX16_readOne_204 : decode cX16_readOne 204 = .ok (.aload_n 0, 1) := by decide +kernel
theorem dX16_readOne_205 : decode cX16_readOne 205 = .ok (.invokevirtual 204, 3) := by decide +kernel
theorem dX16_readOne_208 : decode cX16_readOne 208 = .ok (.aload_n 0, 1) := by decide +kernel
theorem dX16_readOne_209 : decode cX16_readOne 209 = .ok (.ldc_w 362, 3) := by decide +kernel
theorem dX16_readOne_212 : decode cX16_readOne 212 = .ok (.invokevirtual 200, 3) := by decide +kernel
theorem dX16_readOne_215 : decode cX16_readOne 215 = .ok (.ifCond .ne 33, 3) := by decide +kernel
theorem dX16_readOne_218 : decode cX16_readOne 218 = .ok (.aload_n 0, 1) := by decide +kernel
theorem dX16_readOne_219 : decode cX16_readOne 219 = .ok (.ldc_w 363, 3) := by decide +kernel
theorem dX16_readOne_222 : decode cX16_readOne 222 = .ok (.invokevirtual 200, 3) := by decide +kernel
theorem dX16_readOne_225 : decode cX16_readOne 225 = .ok (.ifCond .ne 23, 3) := by decide +kernel
theorem dX16_readOne_228 : decode cX16_readOne 228 = .ok (.aload_n 0, 1) := by decide +kernel
theorem dX16_readOne_229 : decode cX16_readOne 229 = .ok (.ldc_w 365, 3) := by decide +kernel
theorem dX16_readOne_232 : decode cX16_readOne 232 = .ok (.invokevirtual 200, 3) := by decide +kernel
theorem dX16_readOne_235 : decode cX16_readOne 235 = .ok (.ifCond .ne 13, 3) := by decide +kernel
theorem dX16_readOne_238 : decode cX16_readOne 238 = .ok (.aload_n 0, 1) := by decide +kernel
theorem dX16_readOne_239 : decode cX16_readOne 239 = .ok (.ldc_w 367, 3) := by decide +kernel
theorem dX16_readOne_242 : decode cX16_readOne 242 = .ok (.invokevirtual 200, 3) := by decide +kernel
theorem dX16_readOne_245 : decode cX16_readOne 245 = .ok (.ifCond .eq 9, 3) := by decide +kernel
theorem dX16_readOne_248 : decode cX16_readOne 248 = .ok (.aload_n 0, 1) := by decide +kernel
theorem dX16_readOne_249 : decode cX16_readOne 249 = .ok (.iload_n 2, 1) := by decide +kernel
theorem dX16_readOne_250 : decode cX16_readOne 250 = .ok (.invokevirtual 369, 3) := by decide +kernel
theorem dX16_readOne_253 : decode cX16_readOne 253 = .ok (.areturn, 1) := by decide +kernel
theorem dX16_readOne_254 : decode cX16_readOne 254 = .ok (.aload_n 0, 1) := by decide +kernel
theorem dX16_readOne_255 : decode cX16_readOne 255 = .ok (.iload_n 2, 1) := by decide +kernel
theorem dX16_readOne_256 : decode cX16_readOne 256 = .ok (.ifCond .ne 7, 3) := by decide +kernel
theorem dX16_readOne_259 : decode cX16_readOne 259 = .ok (.iconst 1, 1) := by decide +kernel
theorem dX16_readOne_260 : decode cX16_readOne 260 = .ok (.goto 4, 3) := by decide +kernel
theorem dX16_readOne_263 : decode cX16_readOne 263 = .ok (.iconst 0, 1) := by decide +kernel
theorem dX16_readOne_264 : decode cX16_readOne 264 = .ok (.invokevirtual 182, 3) := by decide +kernel
theorem dX16_readOne_267 : decode cX16_readOne 267 = .ok (.aload_n 0, 1) := by decide +kernel
theorem dX16_readOne_268 : decode cX16_readOne 268 = .ok (.iconst (-1), 1) := by decide +kernel
theorem dX16_readOne_269 : decode cX16_readOne 269 = .ok (.putfield 372, 3) := by decide +kernel
theorem dX16_readOne_272 : decode cX16_readOne 272 = .ok (.aload_n 0, 1) := by decide +kernel
theorem dX16_readOne_273 : decode cX16_readOne 273 = .ok (.invokevirtual 375, 3) := by decide +kernel
theorem dX16_readOne_276 : decode cX16_readOne 276 = .ok (.areturn, 1) := by decide +kernel
theorem dX16_accessOf_0 : decode cX16_accessOf 0 = .ok (.aload_n 0, 1) := by decide +kernel
theorem dX16_accessOf_1 : decode cX16_accessOf 1 = .ok (.ldc_w 378, 3) := by decide +kernel
theorem dX16_accessOf_4 : decode cX16_accessOf 4 = .ok (.invokevirtual 200, 3) := by decide +kernel
theorem dX16_accessOf_7 : decode cX16_accessOf 7 = .ok (.ifCond .eq 7, 3) := by decide +kernel
theorem dX16_accessOf_10 : decode cX16_accessOf 10 = .ok (.iconst 0, 1) := by decide +kernel
theorem dX16_accessOf_11 : decode cX16_accessOf 11 = .ok (.goto 89, 3) := by decide +kernel
theorem dX16_accessOf_14 : decode cX16_accessOf 14 = .ok (.aload_n 0, 1) := by decide +kernel
theorem dX16_accessOf_15 : decode cX16_accessOf 15 = .ok (.ldc_w 379, 3) := by decide +kernel
theorem dX16_accessOf_18 : decode cX16_accessOf 18 = .ok (.invokevirtual 200, 3) := by decide +kernel
theorem dX16_accessOf_21 : decode cX16_accessOf 21 = .ok (.ifCond .eq 7, 3) := by decide +kernel
theorem dX16_accessOf_24 : decode cX16_accessOf 24 = .ok (.iconst 1, 1) := by decide +kernel
theorem dX16_accessOf_25 : decode cX16_accessOf 25 = .ok (.goto 75, 3) := by decide +kernel
theorem dX16_accessOf_28 : decode cX16_accessOf 28 = .ok (.aload_n 0, 1) := by decide +kernel
theorem dX16_accessOf_29 : decode cX16_accessOf 29 = .ok (.ldc_w 381, 3) := by decide +kernel
theorem dX16_accessOf_32 : decode cX16_accessOf 32 = .ok (.invokevirtual 200, 3) := by decide +kernel
theorem dX16_accessOf_35 : decode cX16_accessOf 35 = .ok (.ifCond .eq 7, 3) := by decide +kernel
theorem dX16_accessOf_38 : decode cX16_accessOf 38 = .ok (.iconst 2, 1) := by decide +kernel
theorem dX16_accessOf_39 : decode cX16_accessOf 39 = .ok (.goto 61, 3) := by decide +kernel
theorem dX16_accessOf_42 : decode cX16_accessOf 42 = .ok (.aload_n 0, 1) := by decide +kernel
theorem dX16_accessOf_43 : decode cX16_accessOf 43 = .ok (.ldc_w 383, 3) := by decide +kernel
theorem dX16_accessOf_46 : decode cX16_accessOf 46 = .ok (.invokevirtual 200, 3) := by decide +kernel
theorem dX16_accessOf_49 : decode cX16_accessOf 49 = .ok (.ifCond .eq 7, 3) := by decide +kernel
theorem dX16_accessOf_52 : decode cX16_accessOf 52 = .ok (.iconst 3, 1) := by decide +kernel
theorem dX16_accessOf_53 : decode cX16_accessOf 53 = .ok (.goto 47, 3) := by decide +kernel
theorem dX16_accessOf_56 : decode cX16_accessOf 56 = .ok (.aload_n 0, 1) := by decide +kernel
theorem dX16_accessOf_57 : decode cX16_accessOf 57 = .ok (.ldc_w 385, 3) := by decide +kernel
theorem dX16_accessOf_60 : decode cX16_accessOf 60 = .ok (.invokevirtual 200, 3) := by decide +kernel
theorem dX16_accessOf_63 : decode cX16_accessOf 63 = .ok (.ifCond .eq 7, 3) := by decide +kernel
theorem dX16_accessOf_66 : decode cX16_accessOf 66 = .ok (.iconst 4, 1) := by decide +kernel
theorem dX16_accessOf_67 : decode cX16_accessOf 67 = .ok (.goto 33, 3) := by decide +kernel
theorem dX16_accessOf_70 : decode cX16_accessOf 70 = .ok (.aload_n 0, 1) := by decide +kernel
theorem dX16_accessOf_71 : decode cX16_accessOf 71 = .ok (.ldc_w 387, 3) := by decide +kernel
theorem dX16_accessOf_74 : decode cX16_accessOf 74 = .ok (.invokevirtual 200, 3) := by decide +kernel
theorem dX16_accessOf_77 : decode cX16_accessOf 77 = .ok (.ifCond .eq 7, 3) := by decide +kernel
theorem dX16_accessOf_80 : decode cX16_accessOf 80 = .ok (.iconst 5, 1) := by decide +kernel
theorem dX16_accessOf_81 : decode cX16_accessOf 81 = .ok (.goto 19, 3) := by decide +kernel
theorem dX16_accessOf_84 : decode cX16_accessOf 84 = .ok (.aload_n 0, 1) := by decide +kernel
theorem dX16_accessOf_85 : decode cX16_accessOf 85 = .ok (.ldc_w 389, 3) := by decide +kernel
theorem dX16_accessOf_88 : decode cX16_accessOf 88 = .ok (.invokevirtual 200, 3) := by decide +kernel
theorem dX16_accessOf_91 : decode cX16_accessOf 91 = .ok (.ifCond .eq 8, 3) := by decide +kernel
theorem dX16_accessOf_94 : decode cX16_accessOf 94 = .ok (.bipush 6, 2) := by decide +kernel
theorem dX16_accessOf_96 : decode cX16_accessOf 96 = .ok (.goto 4, 3) := by decide +kernel
theorem dX16_accessOf_99 : decode cX16_accessOf 99 = .ok (.iconst (-1), 1) := by decide +kernel
theorem dX16_accessOf_100 : decode cX16_accessOf 100 = .ok (.ireturn, 1) := by decide +kernel
theorem dX16_readRelation_0 : decode cX16_readRelation 0 = .ok (.aload_n 0, 1) := by decide +kernel
theorem dX16_readRelation_1 : decode cX16_readRelation 1 = .ok (.iconst 0, 1) := by decide +kernel
theorem dX16_readRelation_2 : decode cX16_readRelation 2 = .ok (.putfield 419, 3) := by decide +kernel
theorem dX16_readRelation_5 : decode cX16_readRelation 5 = .ok (.aload_n 0, 1) := by decide +kernel
theorem dX16_readRelation_6 : decode cX16_readRelation 6 = .ok (.invokevirtual 422, 3) := by decide +kernel
theorem dX16_readRelation_9 : decode cX16_readRelation 9 = .ok (.astore_n 1, 1) := by decide +kernel
theorem dX16_readRelation_10 : decode cX16_readRelation 10 = .ok (.aload_n 0, 1) := by decide +kernel
theorem dX16_readRelation_11 : decode cX16_readRelation 11 = .ok (.ldc_w 426, 3) := by decide +kernel
theorem dX16_readRelation_14 : decode cX16_readRelation 14 = .ok (.invokevirtual 200, 3) := by decide +kernel
theorem dX16_readRelation_17 : decode cX16_readRelation 17 = .ok (.ifCond .eq 7, 3) := by decide +kernel
theorem dX16_readRelation_20 : decode cX16_readRelation 20 = .ok (.iconst 1, 1) := by decide +kernel
theorem dX16_readRelation_21 : decode cX16_readRelation 21 = .ok (.goto 76, 3) := by decide +kernel
theorem dX16_readRelation_24 : decode cX16_readRelation 24 = .ok (.aload_n 0, 1) := by decide +kernel
theorem dX16_readRelation_25 : decode cX16_readRelation 25 = .ok (.ldc_w 428, 3) := by decide +kernel
theorem dX16_readRelation_28 : decode cX16_readRelation 28 = .ok (.invokevirtual 200, 3) := by decide +kernel
theorem dX16_readRelation_31 : decode cX16_readRelation 31 = .ok (.ifCond .eq 7, 3) := by decide +kernel
theorem dX16_readRelation_34 : decode cX16_readRelation 34 = .ok (.iconst 5, 1) := by decide +kernel
theorem dX16_readRelation_35 : decode cX16_readRelation 35 = .ok (.goto 62, 3) := by decide +kernel
theorem dX16_readRelation_38 : decode cX16_readRelation 38 = .ok (.aload_n 0, 1) := by decide +kernel
theorem dX16_readRelation_39 : decode cX16_readRelation 39 = .ok (.ldc_w 430, 3) := by decide +kernel
theorem dX16_readRelation_42 : decode cX16_readRelation 42 = .ok (.invokevirtual 200, 3) := by decide +kernel
theorem dX16_readRelation_45 : decode cX16_readRelation 45 = .ok (.ifCond .eq 8, 3) := by decide +kernel
theorem dX16_readRelation_48 : decode cX16_readRelation 48 = .ok (.bipush 10, 2) := by decide +kernel
theorem dX16_readRelation_50 : decode cX16_readRelation 50 = .ok (.goto 47, 3) := by decide +kernel
theorem dX16_readRelation_53 : decode cX16_readRelation 53 = .ok (.aload_n 0, 1) := by decide +kernel
theorem dX16_readRelation_54 : decode cX16_readRelation 54 = .ok (.ldc_w 432, 3) := by decide +kernel
theorem dX16_readRelation_57 : decode cX16_readRelation 57 = .ok (.invokevirtual 200, 3) := by decide +kernel
theorem dX16_readRelation_60 : decode cX16_readRelation 60 = .ok (.ifCond .eq 8, 3) := by decide +kernel
theorem dX16_readRelation_63 : decode cX16_readRelation 63 = .ok (.bipush 11, 2) := by decide +kernel
theorem dX16_readRelation_65 : decode cX16_readRelation 65 = .ok (.goto 32, 3) := by decide +kernel
theorem dX16_readRelation_68 : decode cX16_readRelation 68 = .ok (.aload_n 0, 1) := by decide +kernel
theorem dX16_readRelation_69 : decode cX16_readRelation 69 = .ok (.ldc_w 434, 3) := by decide +kernel
theorem dX16_readRelation_72 : decode cX16_readRelation 72 = .ok (.invokevirtual 200, 3) := by decide +kernel
theorem dX16_readRelation_75 : decode cX16_readRelation 75 = .ok (.ifCond .eq 7, 3) := by decide +kernel
theorem dX16_readRelation_78 : decode cX16_readRelation 78 = .ok (.iconst 2, 1) := by decide +kernel
theorem dX16_readRelation_79 : decode cX16_readRelation 79 = .ok (.goto 18, 3) := by decide +kernel
theorem dX16_readRelation_82 : decode cX16_readRelation 82 = .ok (.aload_n 0, 1) := by decide +kernel
theorem dX16_readRelation_83 : decode cX16_readRelation 83 = .ok (.ldc_w 436, 3) := by decide +kernel
theorem dX16_readRelation_86 : decode cX16_readRelation 86 = .ok (.invokevirtual 200, 3) := by decide +kernel
theorem dX16_readRelation_89 : decode cX16_readRelation 89 = .ok (.ifCond .eq 7, 3) := by decide +kernel
theorem dX16_readRelation_92 : decode cX16_readRelation 92 = .ok (.iconst 3, 1) := by decide +kernel
theorem dX16_readRelation_93 : decode cX16_readRelation 93 = .ok (.goto 4, 3) := by decide +kernel
theorem dX16_readRelation_96 : decode cX16_readRelation 96 = .ok (.iconst (-1), 1) := by decide +kernel
theorem dX16_readRelation_97 : decode cX16_readRelation 97 = .ok (.istore_n 2, 1) := by decide +kernel
theorem dX16_readRelation_98 : decode cX16_readRelation 98 = .ok (.aload_n 0, 1) := by decide +kernel
theorem dX16_readRelation_99 : decode cX16_readRelation 99 = .ok (.iload_n 2, 1) := by decide +kernel
theorem dX16_readRelation_100 : decode cX16_readRelation 100 = .ok (.ifCond .lt 7, 3) := by decide +kernel
theorem dX16_readRelation_103 : decode cX16_readRelation 103 = .ok (.iconst 1, 1) := by decide +kernel
theorem dX16_readRelation_104 : decode cX16_readRelation 104 = .ok (.goto 4, 3) := by decide +kernel
theorem dX16_readRelation_107 : decode cX16_readRelation 107 = .ok (.iconst 0, 1) := by decide +kernel
theorem dX16_readRelation_108 : decode cX16_readRelation 108 = .ok (.invokevirtual 182, 3) := by decide +kernel
theorem dX16_readRelation_111 : decode cX16_readRelation 111 = .ok (.aload_n 0, 1) := by decide +kernel
theorem dX16_readRelation_112 : decode cX16_readRelation 112 = .ok (.invokevirtual 204, 3) := by decide +kernel
theorem dX16_readRelation_115 : decode cX16_readRelation 115 = .ok (.new 22, 3) := by decide +kernel
theorem dX16_readRelation_118 : decode cX16_readRelation 118 = .ok (.dup, 1) := by decide +kernel
theorem dX16_readRelation_119 : decode cX16_readRelation 119 = .ok (.aload_n 1, 1) := by decide +kernel
theorem dX16_readRelation_120 : decode cX16_readRelation 120 = .ok (.iload_n 2, 1) := by decide +kernel
theorem dX16_readRelation_121 : decode cX16_readRelation 121 = .ok (.aload_n 0, 1) := by decide +kernel
theorem dX16_readRelation_122 : decode cX16_readRelation 122 = .ok (.invokevirtual 422, 3) := by decide +kernel
theorem dX16_readRelation_125 : decode cX16_readRelation 125 = .ok (.invokespecial 243, 3) := by decide +kernel
theorem dX16_readRelation_128 : decode cX16_readRelation 128 = .ok (.astore_n 3, 1) := by decide +kernel
theorem dX16_readRelation_129 : decode cX16_readRelation 129 = .ok (.aload_n 0, 1) := by decide +kernel
theorem dX16_readRelation_130 : decode cX16_readRelation 130 = .ok (.getfield 419, 3) := by decide +kernel
theorem dX16_readRelation_133 : decode cX16_readRelation 133 = .ok (.iconst 1, 1) := by decide +kernel
theorem dX16_readRelation_134 : decode cX16_readRelation 134 = .ok (.isub, 1) := by decide +kernel
theorem dX16_readRelation_135 : decode cX16_readRelation 135 = .ok (.istore 4, 2) := by decide +kernel
theorem dX16_readRelation_137 : decode cX16_readRelation 137 = .ok (.iload 4, 2) := by decide +kernel
theorem dX16_readRelation_139 : decode cX16_readRelation 139 = .ok (.ifCond .lt 24, 3) := by decide +kernel
theorem dX16_readRelation_142 : decode cX16_readRelation 142 = .ok (.aload_n 0, 1) := by decide +kernel
theorem dX16_readRelation_143 : decode cX16_readRelation 143 = .ok (.getfield 19, 3) := by decide +kernel
theorem dX16_readRelation_146 : decode cX16_readRelation 146 = .ok (.iload 4, 2) := by decide +kernel
theorem dX16_readRelation_148 : decode cX16_readRelation 148 = .ok (.iaload, 1) := by decide +kernel
theorem dX16_readRelation_149 : decode cX16_readRelation 149 = .ok (.invokestatic 400, 3) := by decide +kernel
theorem dX16_readRelation_152 : decode cX16_readRelation 152 = .ok (.aload_n 3, 1) := by decide +kernel
theorem dX16_readRelation_153 : decode cX16_readRelation 153 = .ok (.invokestatic 274, 3) := by decide +kernel
theorem dX16_readRelation_156 : decode cX16_readRelation 156 = .ok (.astore_n 3, 1) := by decide +kernel
theorem dX16_readRelation_157 : decode cX16_readRelation 157 = .ok (.iinc 4 (-1), 3) := by decide +kernel
theorem dX16_readRelation_160 : decode cX16_readRelation 160 = .ok (.goto (-23), 3) := by decide +kernel
theorem dX16_readRelation_163 : decode cX16_readRelation 163 = .ok (.aload_n 3, 1) := by decide +kernel
theorem dX16_readRelation_164 : decode cX16_readRelation 164 = .ok (.areturn, 1) := by decide +kernel
theorem dX16_readSum_0 : decode cX16_readSum 0 = .ok (.aload_n 0, 1) := by decide +kernel
theorem dX16_readSum_1 : decode cX16_readSum 1 = .ok (.invokevirtual 438, 3) := by decide +kernel
theorem dX16_readSum_4 : decode cX16_readSum 4 = .ok (.astore_n 1, 1) := by decide +kernel
theorem dX16_readSum_5 : decode cX16_readSum 5 = .ok (.aload_n 0, 1) := by decide +kernel
theorem dX16_readSum_6 : decode cX16_readSum 6 = .ok (.invokevirtual 441, 3) := by decide +kernel
theorem dX16_readSum_9 : decode cX16_readSum 9 = .ok (.istore_n 2, 1) := by decide +kernel
theorem dX16_readSum_10 : decode cX16_readSum 10 = .ok (.iload_n 2, 1) := by decide +kernel
theorem dX16_readSum_11 : decode cX16_readSum 11 = .ok (.ifCond .lt 32, 3) := by decide +kernel
theorem dX16_readSum_14 : decode cX16_readSum 14 = .ok (.aload_n 0, 1) := by decide +kernel
theorem dX16_readSum_15 : decode cX16_readSum 15 = .ok (.invokevirtual 204, 3) := by decide +kernel
theorem dX16_readSum_18 : decode cX16_readSum 18 = .ok (.new 43, 3) := by decide +kernel
theorem dX16_readSum_21 : decode cX16_readSum 21 = .ok (.dup, 1) := by decide +kernel
theorem dX16_readSum_22 : decode cX16_readSum 22 = .ok (.iconst 2, 1) := by decide +kernel
theorem dX16_readSum_23 : decode cX16_readSum 23 = .ok (.iload_n 2, 1) := by decide +kernel
theorem dX16_readSum_24 : decode cX16_readSum 24 = .ok (.i2l, 1) := by decide +kernel
theorem dX16_readSum_25 : decode cX16_readSum 25 = .ok (.aload_n 1, 1) := by decide +kernel
theorem dX16_readSum_26 : decode cX16_readSum 26 = .ok (.aload_n 0, 1) := by decide +kernel
theorem dX16_readSum_27 : decode cX16_readSum 27 = .ok (.invokevirtual 438, 3) := by decide +kernel
theorem dX16_readSum_30 : decode cX16_readSum 30 = .ok (.iconst 0, 1) := by decide +kernel
theorem dX16_readSum_31 : decode cX16_readSum 31 = .ok (.invokespecial 231, 3) := by decide +kernel
theorem dX16_readSum_34 : decode cX16_readSum 34 = .ok (.astore_n 1, 1) := by decide +kernel
theorem dX16_readSum_35 : decode cX16_readSum 35 = .ok (.aload_n 0, 1) := by decide +kernel
theorem dX16_readSum_36 : decode cX16_readSum 36 = .ok (.invokevirtual 441, 3) := by decide +kernel
theorem dX16_readSum_39 : decode cX16_readSum 39 = .ok (.istore_n 2, 1) := by decide +kernel
theorem dX16_readSum_40 : decode cX16_readSum 40 = .ok (.goto (-30), 3) := by decide +kernel
theorem dX16_readSum_43 : decode cX16_readSum 43 = .ok (.aload_n 1, 1) := by decide +kernel
theorem dX16_readSum_44 : decode cX16_readSum 44 = .ok (.areturn, 1) := by decide +kernel
theorem dX16_readProduct_0 : decode cX16_readProduct 0 = .ok (.aload_n 0, 1) := by decide +kernel
theorem dX16_readProduct_1 : decode cX16_readProduct 1 = .ok (.iconst 0, 1) := by decide +kernel
theorem dX16_readProduct_2 : decode cX16_readProduct 2 = .ok (.invokevirtual 450, 3) := by decide +kernel
theorem dX16_readProduct_5 : decode cX16_readProduct 5 = .ok (.astore_n 1, 1) := by decide +kernel
theorem dX16_readProduct_6 : decode cX16_readProduct 6 = .ok (.aload_n 0, 1) := by decide +kernel
theorem dX16_readProduct_7 : decode cX16_readProduct 7 = .ok (.invokevirtual 454, 3) := by decide +kernel
theorem dX16_readProduct_10 : decode cX16_readProduct 10 = .ok (.istore_n 2, 1) := by decide +kernel
theorem dX16_readProduct_11 : decode cX16_readProduct 11 = .ok (.iload_n 2, 1) := by decide +kernel
theorem dX16_readProduct_12 : decode cX16_readProduct 12 = .ok (.ifCond .lt 33, 3) := by decide +kernel
theorem dX16_readProduct_15 : decode cX16_readProduct 15 = .ok (.aload_n 0, 1) := by decide +kernel
theorem dX16_readProduct_16 : decode cX16_readProduct 16 = .ok (.invokevirtual 204, 3) := by decide +kernel
theorem dX16_readProduct_19 : decode cX16_readProduct 19 = .ok (.new 43, 3) := by decide +kernel
theorem dX16_readProduct_22 : decode cX16_readProduct 22 = .ok (.dup, 1) := by decide +kernel
theorem dX16_readProduct_23 : decode cX16_readProduct 23 = .ok (.iconst 2, 1) := by decide +kernel
theorem dX16_readProduct_24 : decode cX16_readProduct 24 = .ok (.iload_n 2, 1) := by decide +kernel
theorem dX16_readProduct_25 : decode cX16_readProduct 25 = .ok (.i2l, 1) := by decide +kernel
theorem dX16_readProduct_26 : decode cX16_readProduct 26 = .ok (.aload_n 1, 1) := by decide +kernel
theorem dX16_readProduct_27 : decode cX16_readProduct 27 = .ok (.aload_n 0, 1) := by decide +kernel
theorem dX16_readProduct_28 : decode cX16_readProduct 28 = .ok (.iconst 0, 1) := by decide +kernel
theorem dX16_readProduct_29 : decode cX16_readProduct 29 = .ok (.invokevirtual 450, 3) := by decide +kernel
theorem dX16_readProduct_32 : decode cX16_readProduct 32 = .ok (.iconst 0, 1) := by decide +kernel
theorem dX16_readProduct_33 : decode cX16_readProduct 33 = .ok (.invokespecial 231, 3) := by decide +kernel
theorem dX16_readProduct_36 : decode cX16_readProduct 36 = .ok (.astore_n 1, 1) := by decide +kernel
theorem dX16_readProduct_37 : decode cX16_readProduct 37 = .ok (.aload_n 0, 1) := by decide +kernel
theorem dX16_readProduct_38 : decode cX16_readProduct 38 = .ok (.invokevirtual 454, 3) := by decide +kernel
theorem dX16_readProduct_41 : decode cX16_readProduct 41 = .ok (.istore_n 2, 1) := by decide +kernel
theorem dX16_readProduct_42 : decode cX16_readProduct 42 = .ok (.goto (-31), 3) := by decide +kernel
theorem dX16_readProduct_45 : decode cX16_readProduct 45 = .ok (.aload_n 1, 1) := by decide +kernel
theorem dX16_readProduct_46 : decode cX16_readProduct 46 = .ok (.areturn, 1) := by decide +kernel
theorem dX16_readAtom_0 : decode cX16_readAtom 0 = .ok (.aload_n 0, 1) := by decide +kernel
theorem dX16_readAtom_1 : decode cX16_readAtom 1 = .ok (.getfield 372, 3) := by decide +kernel
theorem dX16_readAtom_4 : decode cX16_readAtom 4 = .ok (.ifCond .ge 51, 3) := by decide +kernel
theorem dX16_readAtom_7 : decode cX16_readAtom 7 = .ok (.aload_n 0, 1) := by decide +kernel
theorem dX16_readAtom_8 : decode cX16_readAtom 8 = .ok (.ldc_w 414, 3) := by decide +kernel
theorem dX16_readAtom_11 : decode cX16_readAtom 11 = .ok (.invokevirtual 200, 3) := by decide +kernel
theorem dX16_readAtom_14 : decode cX16_readAtom 14 = .ok (.ifCond .eq 41, 3) := by decide +kernel
theorem dX16_readAtom_17 : decode cX16_readAtom 17 = .ok (.aload_n 0, 1) := by decide +kernel
theorem dX16_readAtom_18 : decode cX16_readAtom 18 = .ok (.iload_n 1, 1) := by decide +kernel
theorem dX16_readAtom_19 : decode cX16_readAtom 19 = .ok (.bipush 8, 2) := by decide +kernel
theorem dX16_readAtom_21 : decode cX16_readAtom 21 = .ok (.if_icmp .ge 7, 3) := by decide +kernel
theorem dX16_readAtom_24 : decode cX16_readAtom 24 = .ok (.iconst 1, 1) := by decide +kernel
theorem dX16_readAtom_25 : decode cX16_readAtom 25 = .ok (.goto 4, 3) := by decide +kernel
theorem dX16_readAtom_28 : decode cX16_readAtom 28 = .ok (.iconst 0, 1) := by decide +kernel
theorem dX16_readAtom_29 : decode cX16_readAtom 29 = .ok (.invokevirtual 182, 3) := by decide +kernel
theorem dX16_readAtom_32 : decode cX16_readAtom 32 = .ok (.aload_n 0, 1) := by decide +kernel
theorem dX16_readAtom_33 : decode cX16_readAtom 33 = .ok (.invokevirtual 204, 3) := by decide +kernel
theorem dX16_readAtom_36 : decode cX16_readAtom 36 = .ok (.new 43, 3) := by decide +kernel
theorem dX16_readAtom_39 : decode cX16_readAtom 39 = .ok (.dup, 1) := by decide +kernel
theorem dX16_readAtom_40 : decode cX16_readAtom 40 = .ok (.iconst 3, 1) := by decide +kernel
theorem dX16_readAtom_41 : decode cX16_readAtom 41 = .ok (.lconst 0, 1) := by decide +kernel
theorem dX16_readAtom_42 : decode cX16_readAtom 42 = .ok (.aload_n 0, 1) := by decide +kernel
theorem dX16_readAtom_43 : decode cX16_readAtom 43 = .ok (.iload_n 1, 1) := by decide +kernel
theorem dX16_readAtom_44 : decode cX16_readAtom 44 = .ok (.iconst 1, 1) := by decide +kernel
theorem dX16_readAtom_45 : decode cX16_readAtom 45 = .ok (.iadd, 1) := by decide +kernel
theorem dX16_readAtom_46 : decode cX16_readAtom 46 = .ok (.invokevirtual 450, 3) := by decide +kernel
theorem dX16_readAtom_49 : decode cX16_readAtom 49 = .ok (.aconst_null, 1) := by decide +kernel
theorem dX16_readAtom_50 : decode cX16_readAtom 50 = .ok (.iconst 0, 1) := by decide +kernel
theorem dX16_readAtom_51 : decode cX16_readAtom 51 = .ok (.invokespecial 231, 3) := by decide +kernel
theorem dX16_readAtom_54 : decode cX16_readAtom 54 = .ok (.areturn, 1) := by decide +kernel
theorem dX16_readAtom_55 : decode cX16_readAtom 55 = .ok (.aload_n 0, 1) := by decide +kernel
theorem dX16_readAtom_56 : decode cX16_readAtom 56 = .ok (.getfield 372, 3) := by decide +kernel
theorem dX16_readAtom_59 : decode cX16_readAtom 59 = .ok (.ifCond .ge 52, 3) := by decide +kernel
theorem dX16_readAtom_62 : decode cX16_readAtom 62 = .ok (.aload_n 0, 1) := by decide +kernel
theorem dX16_readAtom_63 : decode cX16_readAtom 63 = .ok (.ldc_w 470, 3) := by decide +kernel
theorem dX16_readAtom_66 : decode cX16_readAtom 66 = .ok (.invokevirtual 200, 3) := by decide +kernel
theorem dX16_readAtom_69 : decode cX16_readAtom 69 = .ok (.ifCond .eq 42, 3) := by decide +kernel
theorem dX16_readAtom_72 : decode cX16_readAtom 72 = .ok (.aload_n 0, 1) := by decide +kernel
theorem dX16_readAtom_73 : decode cX16_readAtom 73 = .ok (.invokevirtual 472, 3) := by decide +kernel
theorem dX16_readAtom_76 : decode cX16_readAtom 76 = .ok (.aload_n 0, 1) := by decide +kernel
theorem dX16_readAtom_77 : decode cX16_readAtom 77 = .ok (.invokevirtual 422, 3) := by decide +kernel
theorem dX16_readAtom_80 : decode cX16_readAtom 80 = .ok (.astore_n 2, 1) := by decide +kernel
theorem dX16_readAtom_81 : decode cX16_readAtom 81 = .ok (.aload_n 0, 1) := by decide +kernel
theorem dX16_readAtom_82 : decode cX16_readAtom 82 = .ok (.ldc_w 475, 3) := by decide +kernel
theorem dX16_readAtom_85 : decode cX16_readAtom 85 = .ok (.invokevirtual 340, 3) := by decide +kernel
theorem dX16_readAtom_88 : decode cX16_readAtom 88 = .ok (.aload_n 0, 1) := by decide +kernel
theorem dX16_readAtom_89 : decode cX16_readAtom 89 = .ok (.dup, 1) := by decide +kernel
theorem dX16_readAtom_90 : decode cX16_readAtom 90 = .ok (.getfield 467, 3) := by decide +kernel
theorem dX16_readAtom_93 : decode cX16_readAtom 93 = .ok (.iconst 1, 1) := by decide +kernel
theorem dX16_readAtom_94 : decode cX16_readAtom 94 = .ok (.isub, 1) := by decide +kernel
theorem dX16_readAtom_95 : decode cX16_readAtom 95 = .ok (.putfield 467, 3) := by decide +kernel
theorem dX16_readAtom_98 : decode cX16_readAtom 98 = .ok (.new 43, 3) := by decide +kernel
theorem dX16_readAtom_101 : decode cX16_readAtom 101 = .ok (.dup, 1) := by decide +kernel
theorem dX16_readAtom_102 : decode cX16_readAtom 102 = .ok (.iconst 5, 1) := by decide +kernel
theorem dX16_readAtom_103 : decode cX16_readAtom 103 = .ok (.lconst 0, 1) := by decide +kernel
theorem dX16_readAtom_104 : decode cX16_readAtom 104 = .ok (.aload_n 2, 1) := by decide +kernel
theorem dX16_readAtom_105 : decode cX16_readAtom 105 = .ok (.aconst_null, 1) := by decide +kernel
theorem dX16_readAtom_106 : decode cX16_readAtom 106 = .ok (.iconst 0, 1) := by decide +kernel
theorem dX16_readAtom_107 : decode cX16_readAtom 107 = .ok (.invokespecial 231, 3) := by decide +kernel
theorem dX16_readAtom_110 : decode cX16_readAtom 110 = .ok (.areturn, 1) := by decide +kernel
theorem dX16_readAtom_111 : decode cX16_readAtom 111 = .ok (.aload_n 0, 1) := by decide +kernel
theorem dX16_readAtom_112 : decode cX16_readAtom 112 = .ok (.getfield 372, 3) := by decide +kernel
theorem dX16_readAtom_115 : decode cX16_readAtom 115 = .ok (.ifCond .ge 30, 3) := by decide +kernel
theorem dX16_readAtom_118 : decode cX16_readAtom 118 = .ok (.aload_n 0, 1) := by decide +kernel
theorem dX16_readAtom_119 : decode cX16_readAtom 119 = .ok (.ldc_w 477, 3) := by decide +kernel
theorem dX16_readAtom_122 : decode cX16_readAtom 122 = .ok (.invokevirtual 200, 3) := by decide +kernel
theorem dX16_readAtom_125 : decode cX16_readAtom 125 = .ok (.ifCond .eq 20, 3) := by decide +kernel
theorem dX16_readAtom_128 : decode cX16_readAtom 128 = .ok (.aload_n 0, 1) := by decide +kernel
theorem dX16_readAtom_129 : decode cX16_readAtom 129 = .ok (.invokevirtual 204, 3) := by decide +kernel
theorem dX16_readAtom_132 : decode cX16_readAtom 132 = .ok (.new 43, 3) := by decide +kernel
theorem dX16_readAtom_135 : decode cX16_readAtom 135 = .ok (.dup, 1) := by decide +kernel
theorem dX16_readAtom_136 : decode cX16_readAtom 136 = .ok (.iconst 1, 1) := by decide +kernel
theorem dX16_readAtom_137 : decode cX16_readAtom 137 = .ok (.lconst 0, 1) := by decide +kernel
theorem dX16_readAtom_138 : decode cX16_readAtom 138 = .ok (.aconst_null, 1) := by decide +kernel
theorem dX16_readAtom_139 : decode cX16_readAtom 139 = .ok (.aconst_null, 1) := by decide +kernel
theorem dX16_readAtom_140 : decode cX16_readAtom 140 = .ok (.iconst 0, 1) := by decide +kernel
theorem dX16_readAtom_141 : decode cX16_readAtom 141 = .ok (.invokespecial 231, 3) := by decide +kernel
theorem dX16_readAtom_144 : decode cX16_readAtom 144 = .ok (.areturn, 1) := by decide +kernel
theorem dX16_readAtom_145 : decode cX16_readAtom 145 = .ok (.aload_n 0, 1) := by decide +kernel
theorem dX16_readAtom_146 : decode cX16_readAtom 146 = .ok (.getfield 372, 3) := by decide +kernel
theorem dX16_readAtom_149 : decode cX16_readAtom 149 = .ok (.ifCond .lt 10, 3) := by decide +kernel
theorem dX16_readAtom_152 : decode cX16_readAtom 152 = .ok (.aload_n 0, 1) := by decide +kernel
theorem dX16_readAtom_153 : decode cX16_readAtom 153 = .ok (.getfield 372, 3) := by decide +kernel
theorem dX16_readAtom_156 : decode cX16_readAtom 156 = .ok (.goto 7, 3) := by decide +kernel
theorem dX16_readAtom_159 : decode cX16_readAtom 159 = .ok (.aload_n 0, 1) := by decide +kernel
theorem dX16_readAtom_160 : decode cX16_readAtom 160 = .ok (.invokevirtual 344, 3) := by decide +kernel
theorem dX16_readAtom_163 : decode cX16_readAtom 163 = .ok (.istore_n 2, 1) := by decide +kernel
theorem dX16_readAtom_164 : decode cX16_readAtom 164 = .ok (.iload_n 2, 1) := by decide +kernel
theorem dX16_readAtom_165 : decode cX16_readAtom 165 = .ok (.ifCond .ge 15, 3) := by decide +kernel
theorem dX16_readAtom_168 : decode cX16_readAtom 168 = .ok (.aload_n 0, 1) := by decide +kernel
theorem dX16_readAtom_169 : decode cX16_readAtom 169 = .ok (.lconst 0, 1) := by decide +kernel
theorem dX16_readAtom_170 : decode cX16_readAtom 170 = .ok (.ldc2_w 219, 3) := by decide +kernel
theorem dX16_readAtom_173 : decode cX16_readAtom 173 = .ok (.invokevirtual 355, 3) := by decide +kernel
theorem dX16_readAtom_176 : decode cX16_readAtom 176 = .ok (.invokestatic 234, 3) := by decide +kernel
theorem dX16_readAtom_179 : decode cX16_readAtom 179 = .ok (.areturn, 1) := by decide +kernel
theorem dX16_readAtom_180 : decode cX16_readAtom 180 = .ok (.aload_n 0, 1) := by decide +kernel
theorem dX16_readAtom_181 : decode cX16_readAtom 181 = .ok (.getfield 372, 3) := by decide +kernel
theorem dX16_readAtom_184 : decode cX16_readAtom 184 = .ok (.ifCond .ge 7, 3) := by decide +kernel
theorem dX16_readAtom_187 : decode cX16_readAtom 187 = .ok (.aload_n 0, 1) := by decide +kernel
theorem dX16_readAtom_188 : decode cX16_readAtom 188 = .ok (.invokevirtual 204, 3) := by decide +kernel
theorem dX16_readAtom_191 : decode cX16_readAtom 191 = .ok (.aload_n 0, 1) := by decide +kernel
theorem dX16_readAtom_192 : decode cX16_readAtom 192 = .ok (.iconst (-1), 1) := by decide +kernel
theorem dX16_readAtom_193 : decode cX16_readAtom 193 = .ok (.putfield 372, 3) := by decide +kernel
theorem dX16_readAtom_196 : decode cX16_readAtom 196 = .ok (.aload_n 0, 1) := by decide +kernel
theorem dX16_readAtom_197 : decode cX16_readAtom 197 = .ok (.iload_n 2, 1) := by decide +kernel
theorem dX16_readAtom_198 : decode cX16_readAtom 198 = .ok (.invokevirtual 479, 3) := by decide +kernel
theorem dX16_readAtom_201 : decode cX16_readAtom 201 = .ok (.areturn, 1) := by decide +kernel
theorem dX16_matches_0 : decode cX16_matches 0 = .ok (.aload_n 0, 1) := by decide +kernel
theorem dX16_matches_1 : decode cX16_matches 1 = .ok (.getfield 578, 3) := by decide +kernel
theorem dX16_matches_4 : decode cX16_matches 4 = .ok (.ifCond .ne 5, 3) := by decide +kernel
theorem dX16_matches_7 : decode cX16_matches 7 = .ok (.iconst (-1), 1) := by decide +kernel
theorem dX16_matches_8 : decode cX16_matches 8 = .ok (.ireturn, 1) := by decide +kernel
theorem dX16_matches_9 : decode cX16_matches 9 = .ok (.iconst 0, 1) := by decide +kernel
theorem dX16_matches_10 : decode cX16_matches 10 = .ok (.istore_n 1, 1) := by decide +kernel
theorem dX16_matches_11 : decode cX16_matches 11 = .ok (.iconst 0, 1) := by decide +kernel
theorem dX16_matches_12 : decode cX16_matches 12 = .ok (.istore_n 2, 1) := by decide +kernel
theorem dX16_matches_13 : decode cX16_matches 13 = .ok (.iload_n 2, 1) := by decide +kernel
theorem dX16_matches_14 : decode cX16_matches 14 = .ok (.aload_n 0, 1) := by decide +kernel
theorem dX16_matches_15 : decode cX16_matches 15 = .ok (.getfield 151, 3) := by decide +kernel
theorem dX16_matches_18 : decode cX16_matches 18 = .ok (.if_icmp .ge 27, 3) := by decide +kernel
theorem dX16_matches_21 : decode cX16_matches 21 = .ok (.iload_n 1, 1) := by decide +kernel
theorem dX16_matches_22 : decode cX16_matches 22 = .ok (.aload_n 0, 1) := by decide +kernel
theorem dX16_matches_23 : decode cX16_matches 23 = .ok (.iload_n 2, 1) := by decide +kernel
theorem dX16_matches_24 : decode cX16_matches 24 = .ok (.invokevirtual 582, 3) := by decide +kernel
theorem dX16_matches_27 : decode cX16_matches 27 = .ok (.ifCond .eq 9, 3) := by decide +kernel
theorem dX16_matches_30 : decode cX16_matches 30 = .ok (.iconst 1, 1) := by decide +kernel
theorem dX16_matches_31 : decode cX16_matches 31 = .ok (.iload_n 2, 1) := by decide +kernel
theorem dX16_matches_32 : decode cX16_matches 32 = .ok (.ishl, 1) := by decide +kernel
theorem dX16_matches_33 : decode cX16_matches 33 = .ok (.goto 4, 3) := by decide +kernel
theorem dX16_matches_36 : decode cX16_matches 36 = .ok (.iconst 0, 1) := by decide +kernel
theorem dX16_matches_37 : decode cX16_matches 37 = .ok (.ior, 1) := by decide +kernel
theorem dX16_matches_38 : decode cX16_matches 38 = .ok (.istore_n 1, 1) := by decide +kernel
theorem dX16_matches_39 : decode cX16_matches 39 = .ok (.iinc 2 1, 3) := by decide +kernel
theorem dX16_matches_42 : decode cX16_matches 42 = .ok (.goto (-29), 3) := by decide +kernel
theorem dX16_matches_45 : decode cX16_matches 45 = .ok (.iload_n 1, 1) := by decide +kernel
theorem dX16_matches_46 : decode cX16_matches 46 = .ok (.ireturn, 1) := by decide +kernel
theorem dX16_compile_0 : decode cX16_compile 0 = .ok (.aload_n 0, 1) := by decide +kernel
theorem dX16_compile_1 : decode cX16_compile 1 = .ok (.aload_n 0, 1) := by decide +kernel
theorem dX16_compile_2 : decode cX16_compile 2 = .ok (.getfield 144, 3) := by decide +kernel
theorem dX16_compile_5 : decode cX16_compile 5 = .ok (.putfield 160, 3) := by decide +kernel
theorem dX16_compile_8 : decode cX16_compile 8 = .ok (.aload_n 0, 1) := by decide +kernel
theorem dX16_compile_9 : decode cX16_compile 9 = .ok (.iconst 0, 1) := by decide +kernel
theorem dX16_compile_10 : decode cX16_compile 10 = .ok (.putfield 144, 3) := by decide +kernel
theorem dX16_compile_13 : decode cX16_compile 13 = .ok (.aload_n 0, 1) := by decide +kernel
theorem dX16_compile_14 : decode cX16_compile 14 = .ok (.iconst 0, 1) := by decide +kernel
theorem dX16_compile_15 : decode cX16_compile 15 = .ok (.putfield 170, 3) := by decide +kernel
theorem dX16_compile_18 : decode cX16_compile 18 = .ok (.aload_n 0, 1) := by decide +kernel
theorem dX16_compile_19 : decode cX16_compile 19 = .ok (.iconst 0, 1) := by decide +kernel
theorem dX16_compile_20 : decode cX16_compile 20 = .ok (.putfield 325, 3) := by decide +kernel
theorem dX16_compile_23 : decode cX16_compile 23 = .ok (.aload_n 0, 1) := by decide +kernel
theorem dX16_compile_24 : decode cX16_compile 24 = .ok (.iconst 0, 1) := by decide +kernel
theorem dX16_compile_25 : decode cX16_compile 25 = .ok (.putfield 467, 3) := by decide +kernel
theorem dX16_compile_28 : decode cX16_compile 28 = .ok (.aload_n 0, 1) := by decide +kernel
theorem dX16_compile_29 : decode cX16_compile 29 = .ok (.iconst (-1), 1) := by decide +kernel
theorem dX16_compile_30 : decode cX16_compile 30 = .ok (.putfield 372, 3) := by decide +kernel
theorem dX16_compile_33 : decode cX16_compile 33 = .ok (.aload_n 0, 1) := by decide +kernel
theorem dX16_compile_34 : decode cX16_compile 34 = .ok (.invokevirtual 204, 3) := by decide +kernel
theorem dX16_compile_37 : decode cX16_compile 37 = .ok (.aload_n 0, 1) := by decide +kernel
theorem dX16_compile_38 : decode cX16_compile 38 = .ok (.invokevirtual 335, 3) := by decide +kernel
theorem dX16_compile_41 : decode cX16_compile 41 = .ok (.astore_n 1, 1) := by decide +kernel
theorem dX16_compile_42 : decode cX16_compile 42 = .ok (.aload_n 0, 1) := by decide +kernel
theorem dX16_compile_43 : decode cX16_compile 43 = .ok (.aload_n 0, 1) := by decide +kernel
theorem dX16_compile_44 : decode cX16_compile 44 = .ok (.getfield 176, 3) := by decide +kernel
theorem dX16_compile_47 : decode cX16_compile 47 = .ok (.ifCond .ne 7, 3) := by decide +kernel
theorem dX16_compile_50 : decode cX16_compile 50 = .ok (.iconst 1, 1) := by decide +kernel
theorem dX16_compile_51 : decode cX16_compile 51 = .ok (.goto 4, 3) := by decide +kernel
theorem dX16_compile_54 : decode cX16_compile 54 = .ok (.iconst 0, 1) := by decide +kernel
theorem dX16_compile_55 : decode cX16_compile 55 = .ok (.invokevirtual 182, 3) := by decide +kernel
theorem dX16_compile_58 : decode cX16_compile 58 = .ok (.goto 11, 3) := by decide +kernel
theorem dX16_compile_61 : decode cX16_compile 61 = .ok (.astore_n 2, 1) := by decide +kernel
theorem dX16_compile_62 : decode cX16_compile 62 = .ok (.iconst (-1), 1) := by decide +kernel
theorem dX16_compile_63 : decode cX16_compile 63 = .ok (.aload_n 2, 1) := by decide +kernel
theorem dX16_compile_64 : decode cX16_compile 64 = .ok (.getfield 643, 3) := by decide +kernel
theorem dX16_compile_67 : decode cX16_compile 67 = .ok (.isub, 1) := by decide +kernel
theorem dX16_compile_68 : decode cX16_compile 68 = .ok (.ireturn, 1) := by decide +kernel
theorem dX16_compile_69 : decode cX16_compile 69 = .ok (.aload_n 0, 1) := by decide +kernel
theorem dX16_compile_70 : decode cX16_compile 70 = .ok (.getfield 24, 3) := by decide +kernel
theorem dX16_compile_73 : decode cX16_compile 73 = .ok (.astore_n 2, 1) := by decide +kernel
theorem dX16_compile_74 : decode cX16_compile 74 = .ok (.aload_n 0, 1) := by decide +kernel
theorem dX16_compile_75 : decode cX16_compile 75 = .ok (.getfield 490, 3) := by decide +kernel
theorem dX16_compile_78 : decode cX16_compile 78 = .ok (.istore_n 3, 1) := by decide +kernel
theorem dX16_compile_79 : decode cX16_compile 79 = .ok (.aload_n 0, 1) := by decide +kernel
theorem dX16_compile_80 : decode cX16_compile 80 = .ok (.getfield 28, 3) := by decide +kernel
theorem dX16_compile_83 : decode cX16_compile 83 = .ok (.astore 4, 2) := by decide +kernel
theorem dX16_compile_85 : decode cX16_compile 85 = .ok (.aload_n 0, 1) := by decide +kernel
theorem dX16_compile_86 : decode cX16_compile 86 = .ok (.getfield 31, 3) := by decide +kernel
theorem dX16_compile_89 : decode cX16_compile 89 = .ok (.astore 5, 2) := by decide +kernel
theorem dX16_compile_91 : decode cX16_compile 91 = .ok (.aload_n 0, 1) := by decide +kernel
theorem dX16_compile_92 : decode cX16_compile 92 = .ok (.getfield 646, 3) := by decide +kernel
theorem dX16_compile_95 : decode cX16_compile 95 = .ok (.istore 6, 2) := by decide +kernel
theorem dX16_compile_97 : decode cX16_compile 97 = .ok (.aload_n 0, 1) := by decide +kernel
theorem dX16_compile_98 : decode cX16_compile 98 = .ok (.bipush 16, 2) := by decide +kernel
theorem dX16_compile_100 : decode cX16_compile 100 = .ok (.anewarray 22, 3) := by decide +kernel
theorem dX16_compile_103 : decode cX16_compile 103 = .ok (.putfield 24, 3) := by decide +kernel
theorem dX16_compile_106 : decode cX16_compile 106 = .ok (.aload_n 0, 1) := by decide +kernel
theorem dX16_compile_107 : decode cX16_compile 107 = .ok (.aload_n 1, 1) := by decide +kernel
theorem dX16_compile_108 : decode cX16_compile 108 = .ok (.invokevirtual 649, 3) := by decide +kernel
theorem dX16_compile_111 : decode cX16_compile 111 = .ok (.aload_n 0, 1) := by decide +kernel
theorem dX16_compile_112 : decode cX16_compile 112 = .ok (.aload_n 1, 1) := by decide +kernel
theorem dX16_compile_113 : decode cX16_compile 113 = .ok (.invokevirtual 651, 3) := by decide +kernel
theorem dX16_compile_116 : decode cX16_compile 116 = .ok (.aload_n 0, 1) := by decide +kernel
theorem dX16_compile_117 : decode cX16_compile 117 = .ok (.invokevirtual 654, 3) := by decide +kernel
theorem dX16_compile_120 : decode cX16_compile 120 = .ok (.istore 7, 2) := by decide +kernel
theorem dX16_compile_122 : decode cX16_compile 122 = .ok (.iload 7, 2) := by decide +kernel
theorem dX16_compile_124 : decode cX16_compile 124 = .ok (.ifCond .ge 31, 3) := by decide +kernel
theorem dX16_compile_127 : decode cX16_compile 127 = .ok (.aload_n 0, 1) := by decide +kernel
theorem dX16_compile_128 : decode cX16_compile 128 = .ok (.aload_n 2, 1) := by decide +kernel
theorem dX16_compile_129 : decode cX16_compile 129 = .ok (.putfield 24, 3) := by decide +kernel
theorem dX16_compile_132 : decode cX16_compile 132 = .ok (.aload_n 0, 1) := by decide +kernel
theorem dX16_compile_133 : decode cX16_compile 133 = .ok (.iload_n 3, 1) := by decide +kernel
theorem dX16_compile_134 : decode cX16_compile 134 = .ok (.putfield 490, 3) := by decide +kernel
theorem dX16_compile_137 : decode cX16_compile 137 = .ok (.aload_n 0, 1) := by decide +kernel
theorem dX16_compile_138 : decode cX16_compile 138 = .ok (.aload 4, 2) := by decide +kernel
theorem dX16_compile_140 : decode cX16_compile 140 = .ok (.putfield 28, 3) := by decide +kernel
theorem dX16_compile_143 : decode cX16_compile 143 = .ok (.aload_n 0, 1) := by decide +kernel
theorem dX16_compile_144 : decode cX16_compile 144 = .ok (.aload 5, 2) := by decide +kernel
theorem dX16_compile_146 : decode cX16_compile 146 = .ok (.putfield 31, 3) := by decide +kernel
theorem dX16_compile_149 : decode cX16_compile 149 = .ok (.aload_n 0, 1) := by decide +kernel
theorem dX16_compile_150 : decode cX16_compile 150 = .ok (.iload 6, 2) := by decide +kernel
theorem dX16_compile_152 : decode cX16_compile 152 = .ok (.putfield 646, 3) := by decide +kernel
theorem dX16_compile_155 : decode cX16_compile 155 = .ok (.aload_n 0, 1) := by decide +kernel
theorem dX16_compile_156 : decode cX16_compile 156 = .ok (.aload_n 0, 1) := by decide +kernel
theorem dX16_compile_157 : decode cX16_compile 157 = .ok (.getfield 578, 3) := by decide +kernel
theorem dX16_compile_160 : decode cX16_compile 160 = .ok (.ifCond .ne 8, 3) := by decide +kernel
theorem dX16_compile_163 : decode cX16_compile 163 = .ok (.iload 7, 2) := by decide +kernel
theorem dX16_compile_165 : decode cX16_compile 165 = .ok (.ifCond .le 7, 3) := by decide +kernel
theorem dX16_compile_168 : decode cX16_compile 168 = .ok (.iconst 1, 1) := by decide +kernel
theorem dX16_compile_169 : decode cX16_compile 169 = .ok (.goto 4, 3) := by decide +kernel
theorem dX16_compile_172 : decode cX16_compile 172 = .ok (.iconst 0, 1) := by decide +kernel
theorem dX16_compile_173 : decode cX16_compile 173 = .ok (.putfield 578, 3) := by decide +kernel
theorem dX16_compile_176 : decode cX16_compile 176 = .ok (.iload 7, 2) := by decide +kernel
theorem dX16_compile_178 : decode cX16_compile 178 = .ok (.ireturn, 1) := by decide +kernel
theorem dX16_load_0 : decode cX16_load 0 = .ok (.aload_n 0, 1) := by decide +kernel
theorem dX16_load_1 : decode cX16_load 1 = .ok (.getfield 144, 3) := by decide +kernel
theorem dX16_load_4 : decode cX16_load 4 = .ok (.istore_n 1, 1) := by decide +kernel
theorem dX16_load_5 : decode cX16_load 5 = .ok (.aload_n 0, 1) := by decide +kernel
theorem dX16_load_6 : decode cX16_load 6 = .ok (.iconst 0, 1) := by decide +kernel
theorem dX16_load_7 : decode cX16_load 7 = .ok (.putfield 144, 3) := by decide +kernel
theorem dX16_load_10 : decode cX16_load 10 = .ok (.iload_n 1, 1) := by decide +kernel
theorem dX16_load_11 : decode cX16_load 11 = .ok (.ifCond .eq 10, 3) := by decide +kernel
theorem dX16_load_14 : decode cX16_load 14 = .ok (.iload_n 1, 1) := by decide +kernel
theorem dX16_load_15 : decode cX16_load 15 = .ok (.bipush 8, 2) := by decide +kernel
theorem dX16_load_17 : decode cX16_load 17 = .ok (.irem, 1) := by decide +kernel
theorem dX16_load_18 : decode cX16_load 18 = .ok (.ifCond .eq 5, 3) := by decide +kernel
theorem dX16_load_21 : decode cX16_load 21 = .ok (.iconst (-1), 1) := by decide +kernel
theorem dX16_load_22 : decode cX16_load 22 = .ok (.ireturn, 1) := by decide +kernel
theorem dX16_load_23 : decode cX16_load 23 = .ok (.aload_n 0, 1) := by decide +kernel
theorem dX16_load_24 : decode cX16_load 24 = .ok (.iload_n 1, 1) := by decide +kernel
theorem dX16_load_25 : decode cX16_load 25 = .ok (.bipush 8, 2) := by decide +kernel
theorem dX16_load_27 : decode cX16_load 27 = .ok (.idiv, 1) := by decide +kernel
theorem dX16_load_28 : decode cX16_load 28 = .ok (.newarray .long, 2) := by decide +kernel
theorem dX16_load_30 : decode cX16_load 30 = .ok (.putfield 49, 3) := by decide +kernel
theorem dX16_load_33 : decode cX16_load 33 = .ok (.iconst 0, 1) := by decide +kernel
theorem dX16_load_34 : decode cX16_load 34 = .ok (.istore_n 2, 1) := by decide +kernel
theorem dX16_load_35 : decode cX16_load 35 = .ok (.iload_n 2, 1) := by decide +kernel
theorem dX16_load_36 : decode cX16_load 36 = .ok (.iload_n 1, 1) := by decide +kernel
theorem dX16_load_37 : decode cX16_load 37 = .ok (.if_icmp .ge 36, 3) := by decide +kernel
theorem dX16_load_40 : decode cX16_load 40 = .ok (.aload_n 0, 1) := by decide +kernel
theorem dX16_load_41 : decode cX16_load 41 = .ok (.getfield 49, 3) := by decide +kernel
theorem dX16_load_44 : decode cX16_load 44 = .ok (.iload_n 2, 1) := by decide +kernel
theorem dX16_load_45 : decode cX16_load 45 = .ok (.bipush 8, 2) := by decide +kernel
theorem dX16_load_47 : decode cX16_load 47 = .ok (.idiv, 1) := by decide +kernel
theorem dX16_load_48 : decode cX16_load 48 = .ok (.dup2, 1) := by decide +kernel
theorem dX16_load_49 : decode cX16_load 49 = .ok (.laload, 1) := by decide +kernel
theorem dX16_load_50 : decode cX16_load 50 = .ok (.aload_n 0, 1) := by decide +kernel
theorem dX16_load_51 : decode cX16_load 51 = .ok (.getfield 9, 3) := by decide +kernel
theorem dX16_load_54 : decode cX16_load 54 = .ok (.iload_n 2, 1) := by decide +kernel
theorem dX16_load_55 : decode cX16_load 55 = .ok (.iaload, 1) := by decide +kernel
theorem dX16_load_56 : decode cX16_load 56 = .ok (.i2l, 1) := by decide +kernel
theorem dX16_load_57 : decode cX16_load 57 = .ok (.bipush 8, 2) := by decide +kernel
theorem dX16_load_59 : decode cX16_load 59 = .ok (.iload_n 2, 1) := by decide +kernel
theorem dX16_load_60 : decode cX16_load 60 = .ok (.bipush 8, 2) := by decide +kernel
theorem dX16_load_62 : decode cX16_load 62 = .ok (.irem, 1) := by decide +kernel
theorem dX16_load_63 : decode cX16_load 63 = .ok (.imul, 1) := by decide +kernel
theorem dX16_load_64 : decode cX16_load 64 = .ok (.lshl, 1) := by decide +kernel
theorem dX16_load_65 : decode cX16_load 65 = .ok (.lor, 1) := by decide +kernel
theorem dX16_load_66 : decode cX16_load 66 = .ok (.lastore, 1) := by decide +kernel
theorem dX16_load_67 : decode cX16_load 67 = .ok (.iinc 2 1, 3) := by decide +kernel
theorem dX16_load_70 : decode cX16_load 70 = .ok (.goto (-35), 3) := by decide +kernel
theorem dX16_load_73 : decode cX16_load 73 = .ok (.aload_n 0, 1) := by decide +kernel
theorem dX16_load_74 : decode cX16_load 74 = .ok (.iconst 1, 1) := by decide +kernel
theorem dX16_load_75 : decode cX16_load 75 = .ok (.putfield 672, 3) := by decide +kernel
theorem dX16_load_78 : decode cX16_load 78 = .ok (.iload_n 1, 1) := by decide +kernel
theorem dX16_load_79 : decode cX16_load 79 = .ok (.bipush 8, 2) := by decide +kernel
theorem dX16_load_81 : decode cX16_load 81 = .ok (.idiv, 1) := by decide +kernel
theorem dX16_load_82 : decode cX16_load 82 = .ok (.ireturn, 1) := by decide +kernel
theorem dX16_instruction_0 : decode cX16_instruction 0 = .ok (.iload_n 1, 1) := by decide +kernel
theorem dX16_instruction_1 : decode cX16_instruction 1 = .ok (.ifCond .lt 21, 3) := by decide +kernel
theorem dX16_instruction_4 : decode cX16_instruction 4 = .ok (.iload_n 1, 1) := by decide +kernel
theorem dX16_instruction_5 : decode cX16_instruction 5 = .ok (.aload_n 0, 1) := by decide +kernel
theorem dX16_instruction_6 : decode cX16_instruction 6 = .ok (.getfield 49, 3) := by decide +kernel
theorem dX16_instruction_9 : decode cX16_instruction 9 = .ok (.arraylength, 1) := by decide +kernel
theorem dX16_instruction_10 : decode cX16_instruction 10 = .ok (.if_icmp .ge 12, 3) := by decide +kernel
theorem dX16_instruction_13 : decode cX16_instruction 13 = .ok (.aload_n 0, 1) := by decide +kernel
theorem dX16_instruction_14 : decode cX16_instruction 14 = .ok (.getfield 49, 3) := by decide +kernel
theorem dX16_instruction_17 : decode cX16_instruction 17 = .ok (.iload_n 1, 1) := by decide +kernel
theorem dX16_instruction_18 : decode cX16_instruction 18 = .ok (.laload, 1) := by decide +kernel
theorem dX16_instruction_19 : decode cX16_instruction 19 = .ok (.goto 4, 3) := by decide +kernel
theorem dX16_instruction_22 : decode cX16_instruction 22 = .ok (.lconst 0, 1) := by decide +kernel
theorem dX16_instruction_23 : decode cX16_instruction 23 = .ok (.lreturn, 1) := by decide +kernel
theorem dX16_run_0 : decode cX16_run 0 = .ok (.aload_n 0, 1) := by decide +kernel
theorem dX16_run_1 : decode cX16_run 1 = .ok (.getfield 672, 3) := by decide +kernel
theorem dX16_run_4 : decode cX16_run 4 = .ok (.ifCond .eq 11, 3) := by decide +kernel
theorem dX16_run_7 : decode cX16_run 7 = .ok (.aload_n 0, 1) := by decide +kernel
theorem dX16_run_8 : decode cX16_run 8 = .ok (.iload_n 1, 1) := by decide +kernel
theorem dX16_run_9 : decode cX16_run 9 = .ok (.invokevirtual 154, 3) := by decide +kernel
theorem dX16_run_12 : decode cX16_run 12 = .ok (.ifCond .ne 5, 3) := by decide +kernel
theorem dX16_run_15 : decode cX16_run 15 = .ok (.lconst 0, 1) := by decide +kernel
theorem dX16_run_16 : decode cX16_run 16 = .ok (.lreturn, 1) := by decide +kernel
theorem dX16_run_17 : decode cX16_run 17 = .ok (.aload_n 0, 1) := by decide +kernel
theorem dX16_run_18 : decode cX16_run 18 = .ok (.invokevirtual 766, 3) := by decide +kernel
theorem dX16_run_21 : decode cX16_run 21 = .ok (.aload_n 0, 1) := by decide +kernel
theorem dX16_run_22 : decode cX16_run 22 = .ok (.iconst 0, 1) := by decide +kernel
theorem dX16_run_23 : decode cX16_run 23 = .ok (.putfield 769, 3) := by decide +kernel
theorem dX16_run_26 : decode cX16_run 26 = .ok (.aload_n 0, 1) := by decide +kernel
theorem dX16_run_27 : decode cX16_run 27 = .ok (.getfield 62, 3) := by decide +kernel
theorem dX16_run_30 : decode cX16_run 30 = .ok (.iconst 1, 1) := by decide +kernel
theorem dX16_run_31 : decode cX16_run 31 = .ok (.aload_n 0, 1) := by decide +kernel
theorem dX16_run_32 : decode cX16_run 32 = .ok (.getfield 16, 3) := by decide +kernel
theorem dX16_run_35 : decode cX16_run 35 = .ok (.iload_n 1, 1) := by decide +kernel
theorem dX16_run_36 : decode cX16_run 36 = .ok (.iaload, 1) := by decide +kernel
theorem dX16_run_37 : decode cX16_run 37 = .ok (.i2l, 1) := by decide +kernel
theorem dX16_run_38 : decode cX16_run 38 = .ok (.lastore, 1) := by decide +kernel
theorem dX16_run_39 : decode cX16_run 39 = .ok (.aload_n 0, 1) := by decide +kernel
theorem dX16_run_40 : decode cX16_run 40 = .ok (.getfield 62, 3) := by decide +kernel
theorem dX16_run_43 : decode cX16_run 43 = .ok (.bipush 10, 2) := by decide +kernel
theorem dX16_run_45 : decode cX16_run 45 = .ok (.ldc2_w 731, 3) := by decide +kernel
theorem dX16_run_48 : decode cX16_run 48 = .ok (.lastore, 1) := by decide +kernel
theorem dX16_run_49 : decode cX16_run 49 = .ok (.iconst 0, 1) := by decide +kernel
theorem dX16_run_50 : decode cX16_run 50 = .ok (.istore_n 2, 1) := by decide +kernel
theorem dX16_run_51 : decode cX16_run 51 = .ok (.iconst 1, 1) := by decide +kernel
theorem dX16_run_52 : decode cX16_run 52 = .ok (.istore_n 3, 1) := by decide +kernel
theorem dX16_run_53 : decode cX16_run 53 = .ok (.iload_n 3, 1) := by decide +kernel
theorem dX16_run_54 : decode cX16_run 54 = .ok (.ifCond .eq 163, 3) := by decide +kernel
theorem dX16_run_57 : decode cX16_run 57 = .ok (.aload_n 0, 1) := by decide +kernel
theorem dX16_run_58 : decode cX16_run 58 = .ok (.iload_n 2, 1) := by decide +kernel
theorem dX16_run_59 : decode cX16_run 59 = .ok (.putfield 739, 3) := by decide +kernel
theorem dX16_run_62 : decode cX16_run 62 = .ok (.aload_n 0, 1) := by decide +kernel
theorem dX16_run_63 : decode cX16_run 63 = .ok (.getfield 736, 3) := by decide +kernel
theorem dX16_run_66 : decode cX16_run 66 = .ok (.sipush 10000, 3) := by decide +kernel
theorem dX16_run_69 : decode cX16_run 69 = .ok (.if_icmp .eq 15, 3) := by decide +kernel
theorem dX16_run_72 : decode cX16_run 72 = .ok (.aload_n 0, 1) := by decide +kernel
theorem dX16_run_73 : decode cX16_run 73 = .ok (.getfield 49, 3) := by decide +kernel
theorem dX16_run_76 : decode cX16_run 76 = .ok (.iload_n 2, 1) := by decide +kernel
theorem dX16_run_77 : decode cX16_run 77 = .ok (.laload, 1) := by decide +kernel
theorem dX16_run_78 : decode cX16_run 78 = .ok (.invokestatic 772, 3) := by decide +kernel
theorem dX16_run_81 : decode cX16_run 81 = .ok (.ifCond .ne 25, 3) := by decide +kernel
theorem dX16_run_84 : decode cX16_run 84 = .ok (.aload_n 0, 1) := by decide +kernel
theorem dX16_run_85 : decode cX16_run 85 = .ok (.aload_n 0, 1) := by decide +kernel
theorem dX16_run_86 : decode cX16_run 86 = .ok (.getfield 736, 3) := by decide +kernel
theorem dX16_run_89 : decode cX16_run 89 = .ok (.sipush 10000, 3) := by decide +kernel
theorem dX16_run_92 : decode cX16_run 92 = .ok (.if_icmp .ne 8, 3) := by decide +kernel
theorem dX16_run_95 : decode cX16_run 95 = .ok (.bipush 9, 2) := by decide +kernel
theorem dX16_run_97 : decode cX16_run 97 = .ok (.goto 4, 3) := by decide +kernel
theorem dX16_run_100 : decode cX16_run 100 = .ok (.iconst 1, 1) := by decide +kernel
theorem dX16_run_101 : decode cX16_run 101 = .ok (.putfield 733, 3) := by decide +kernel
theorem dX16_run_104 : decode cX16_run 104 = .ok (.lconst 0, 1) := by decide +kernel
theorem dX16_run_105 : decode cX16_run 105 = .ok (.lreturn, 1) := by decide +kernel
theorem dX16_run_106 : decode cX16_run 106 = .ok (.aload_n 0, 1) := by decide +kernel
theorem dX16_run_107 : decode cX16_run 107 = .ok (.aload_n 0, 1) := by decide +kernel
theorem dX16_run_108 : decode cX16_run 108 = .ok (.getfield 49, 3) := by decide +kernel
theorem dX16_run_111 : decode cX16_run 111 = .ok (.iload_n 2, 1) := by decide +kernel
theorem dX16_run_112 : decode cX16_run 112 = .ok (.laload, 1) := by decide +kernel
theorem dX16_run_113 : decode cX16_run 113 = .ok (.iload_n 1, 1) := by decide +kernel
theorem dX16_run_114 : decode cX16_run 114 = .ok (.invokevirtual 776, 3) := by decide +kernel
theorem dX16_run_117 : decode cX16_run 117 = .ok (.istore 4, 2) := by decide +kernel
theorem dX16_run_119 : decode cX16_run 119 = .ok (.iload 4, 2) := by decide +kernel
theorem dX16_run_121 : decode cX16_run 121 = .ok (.iconst 1, 1) := by decide +kernel
theorem dX16_run_122 : decode cX16_run 122 = .ok (.if_icmp .ne 19, 3) := by decide +kernel
theorem dX16_run_125 : decode cX16_run 125 = .ok (.iload_n 2, 1) := by decide +kernel
theorem dX16_run_126 : decode cX16_run 126 = .ok (.iconst 1, 1) := by decide +kernel
theorem dX16_run_127 : decode cX16_run 127 = .ok (.iadd, 1) := by decide +kernel
theorem dX16_run_128 : decode cX16_run 128 = .ok (.aload_n 0, 1) := by decide +kernel
theorem dX16_run_129 : decode cX16_run 129 = .ok (.getfield 49, 3) := by decide +kernel
theorem dX16_run_132 : decode cX16_run 132 = .ok (.iload_n 2, 1) := by decide +kernel
theorem dX16_run_133 : decode cX16_run 133 = .ok (.laload, 1) := by decide +kernel
theorem dX16_run_134 : decode cX16_run 134 = .ok (.invokestatic 697, 3) := by decide +kernel
theorem dX16_run_137 : decode cX16_run 137 = .ok (.iadd, 1) := by decide +kernel
theorem dX16_run_138 : decode cX16_run 138 = .ok (.goto 6, 3) := by decide +kernel
theorem dX16_run_141 : decode cX16_run 141 = .ok (.iload_n 2, 1) := by decide +kernel
theorem dX16_run_142 : decode cX16_run 142 = .ok (.iconst 1, 1) := by decide +kernel
theorem dX16_run_143 : decode cX16_run 143 = .ok (.iadd, 1) := by decide +kernel
theorem dX16_run_144 : decode cX16_run 144 = .ok (.istore 5, 2) := by decide +kernel
theorem dX16_run_146 : decode cX16_run 146 = .ok (.iload 4, 2) := by decide +kernel
theorem dX16_run_148 : decode cX16_run 148 = .ok (.iconst 1, 1) := by decide +kernel
theorem dX16_run_149 : decode cX16_run 149 = .ok (.if_icmp .gt 7, 3) := by decide +kernel
theorem dX16_run_152 : decode cX16_run 152 = .ok (.iconst 1, 1) := by decide +kernel
theorem dX16_run_153 : decode cX16_run 153 = .ok (.goto 4, 3) := by decide +kernel
theorem dX16_run_156 : decode cX16_run 156 = .ok (.iconst 0, 1) := by decide +kernel
theorem dX16_run_157 : decode cX16_run 157 = .ok (.istore_n 3, 1) := by decide +kernel
theorem dX16_run_158 : decode cX16_run 158 = .ok (.iload 4, 2) := by decide +kernel
theorem dX16_run_160 : decode cX16_run 160 = .ok (.iconst 3, 1) := by decide +kernel
theorem dX16_run_161 : decode cX16_run 161 = .ok (.if_icmp .eq 22, 3) := by decide +kernel
theorem dX16_run_164 : decode cX16_run 164 = .ok (.iload_n 3, 1) := by decide +kernel
theorem dX16_run_165 : decode cX16_run 165 = .ok (.ifCond .eq 36, 3) := by decide +kernel
theorem dX16_run_168 : decode cX16_run 168 = .ok (.iload 5, 2) := by decide +kernel
theorem dX16_run_170 : decode cX16_run 170 = .ok (.ifCond .lt 13, 3) := by decide +kernel
theorem dX16_run_173 : decode cX16_run 173 = .ok (.iload 5, 2) := by decide +kernel
theorem dX16_run_175 : decode cX16_run 175 = .ok (.aload_n 0, 1) := by decide +kernel
theorem dX16_run_176 : decode cX16_run 176 = .ok (.getfield 49, 3) := by decide +kernel
theorem dX16_run_179 : decode cX16_run 179 = .ok (.arraylength, 1) := by decide +kernel
theorem dX16_run_180 : decode cX16_run 180 = .ok (.if_icmp .lt 21, 3) := by decide +kernel
theorem dX16_run_183 : decode cX16_run 183 = .ok (.aload_n 0, 1) := by decide +kernel
theorem dX16_run_184 : decode cX16_run 184 = .ok (.iload 4, 2) := by decide +kernel
theorem dX16_run_186 : decode cX16_run 186 = .ok (.iconst 3, 1) := by decide +kernel
theorem dX16_run_187 : decode cX16_run 187 = .ok (.if_icmp .ne 8, 3) := by decide +kernel
theorem dX16_run_190 : decode cX16_run 190 = .ok (.bipush 7, 2) := by decide +kernel
theorem dX16_run_192 : decode cX16_run 192 = .ok (.goto 4, 3) := by decide +kernel
theorem dX16_run_195 : decode cX16_run 195 = .ok (.iconst 2, 1) := by decide +kernel
theorem dX16_run_196 : decode cX16_run 196 = .ok (.putfield 733, 3) := by decide +kernel
theorem dX16_run_199 : decode cX16_run 199 = .ok (.lconst 0, 1) := by decide +kernel
theorem dX16_run_200 : decode cX16_run 200 = .ok (.lreturn, 1) := by decide +kernel
theorem dX16_run_201 : decode cX16_run 201 = .ok (.aload_n 0, 1) := by decide +kernel
theorem dX16_run_202 : decode cX16_run 202 = .ok (.dup, 1) := by decide +kernel
theorem dX16_run_203 : decode cX16_run 203 = .ok (.getfield 736, 3) := by decide +kernel
theorem dX16_run_206 : decode cX16_run 206 = .ok (.iconst 1, 1) := by decide +kernel
theorem dX16_run_207 : decode cX16_run 207 = .ok (.iadd, 1) := by decide +kernel
theorem dX16_run_208 : decode cX16_run 208 = .ok (.putfield 736, 3) := by decide +kernel
theorem dX16_run_211 : decode cX16_run 211 = .ok (.iload 5, 2) := by decide +kernel
theorem dX16_run_213 : decode cX16_run 213 = .ok (.istore_n 2, 1) := by decide +kernel
theorem dX16_run_214 : decode cX16_run 214 = .ok (.goto (-161), 3) := by decide +kernel
theorem dX16_run_217 : decode cX16_run 217 = .ok (.aload_n 0, 1) := by decide +kernel
theorem dX16_run_218 : decode cX16_run 218 = .ok (.getfield 62, 3) := by decide +kernel
theorem dX16_run_221 : decode cX16_run 221 = .ok (.iconst 0, 1) := by decide +kernel
theorem dX16_run_222 : decode cX16_run 222 = .ok (.laload, 1) := by decide +kernel
theorem dX16_run_223 : decode cX16_run 223 = .ok (.lreturn, 1) := by decide +kernel
theorem dX16_ended_0 : decode cX16_ended 0 = .ok (.iload_n 1, 1) := by decide +kernel
theorem dX16_ended_1 : decode cX16_ended 1 = .ok (.ifCond .ne 10, 3) := by decide +kernel
theorem dX16_ended_4 : decode cX16_ended 4 = .ok (.aload_n 0, 1) := by decide +kernel
theorem dX16_ended_5 : decode cX16_ended 5 = .ok (.getfield 733, 3) := by decide +kernel
theorem dX16_ended_8 : decode cX16_ended 8 = .ok (.goto 28, 3) := by decide +kernel
theorem dX16_ended_11 : decode cX16_ended 11 = .ok (.iload_n 1, 1) := by decide +kernel
theorem dX16_ended_12 : decode cX16_ended 12 = .ok (.iconst 1, 1) := by decide +kernel
theorem dX16_ended_13 : decode cX16_ended 13 = .ok (.if_icmp .ne 10, 3) := by decide +kernel
theorem dX16_ended_16 : decode cX16_ended 16 = .ok (.aload_n 0, 1) := by decide +kernel
theorem dX16_ended_17 : decode cX16_ended 17 = .ok (.getfield 736, 3) := by decide +kernel
theorem dX16_ended_20 : decode cX16_ended 20 = .ok (.goto 16, 3) := by decide +kernel
theorem dX16_ended_23 : decode cX16_ended 23 = .ok (.iload_n 1, 1) := by decide +kernel
theorem dX16_ended_24 : decode cX16_ended 24 = .ok (.iconst 2, 1) := by decide +kernel
theorem dX16_ended_25 : decode cX16_ended 25 = .ok (.if_icmp .ne 10, 3) := by decide +kernel
theorem dX16_ended_28 : decode cX16_ended 28 = .ok (.aload_n 0, 1) := by decide +kernel
theorem dX16_ended_29 : decode cX16_ended 29 = .ok (.getfield 739, 3) := by decide +kernel
theorem dX16_ended_32 : decode cX16_ended 32 = .ok (.goto 4, 3) := by decide +kernel
theorem dX16_ended_35 : decode cX16_ended 35 = .ok (.iconst 0, 1) := by decide +kernel
theorem dX16_ended_36 : decode cX16_ended 36 = .ok (.ireturn, 1) := by decide +kernel
theorem dX16_register_0 : decode cX16_register 0 = .ok (.iload_n 1, 1) := by decide +kernel
theorem dX16_register_1 : decode cX16_register 1 = .ok (.ifCond .lt 31, 3) := by decide +kernel
theorem dX16_register_4 : decode cX16_register 4 = .ok (.iload_n 1, 1) := by decide +kernel
theorem dX16_register_5 : decode cX16_register 5 = .ok (.bipush 32, 2) := by decide +kernel
theorem dX16_register_7 : decode cX16_register 7 = .ok (.if_icmp .ge 25, 3) := by decide +kernel
theorem dX16_register_10 : decode cX16_register 10 = .ok (.iload_n 1, 1) := by decide +kernel
theorem dX16_register_11 : decode cX16_register 11 = .ok (.bipush 10, 2) := by decide +kernel
theorem dX16_register_13 : decode cX16_register 13 = .ok (.if_icmp .le 10, 3) := by decide +kernel
theorem dX16_register_16 : decode cX16_register 16 = .ok (.aload_n 0, 1) := by decide +kernel
theorem dX16_register_17 : decode cX16_register 17 = .ok (.getfield 769, 3) := by decide +kernel
theorem dX16_register_20 : decode cX16_register 20 = .ok (.ifCond .eq 12, 3) := by decide +kernel
theorem dX16_register_23 : decode cX16_register 23 = .ok (.aload_n 0, 1) := by decide +kernel
theorem dX16_register_24 : decode cX16_register 24 = .ok (.getfield 62, 3) := by decide +kernel
theorem dX16_register_27 : decode cX16_register 27 = .ok (.iload_n 1, 1) := by decide +kernel
theorem dX16_register_28 : decode cX16_register 28 = .ok (.laload, 1) := by decide +kernel
theorem dX16_register_29 : decode cX16_register 29 = .ok (.goto 4, 3) := by decide +kernel
theorem dX16_register_32 : decode cX16_register 32 = .ok (.lconst 0, 1) := by decide +kernel
theorem dX16_register_33 : decode cX16_register 33 = .ok (.lreturn, 1) := by decide +kernel
theorem dX16_stack_0 : decode cX16_stack 0 = .ok (.iload_n 1, 1) := by decide +kernel
theorem dX16_stack_1 : decode cX16_stack 1 = .ok (.ifCond .lt 18, 3) := by decide +kernel
theorem dX16_stack_4 : decode cX16_stack 4 = .ok (.iload_n 1, 1) := by decide +kernel
theorem dX16_stack_5 : decode cX16_stack 5 = .ok (.bipush 64, 2) := by decide +kernel
theorem dX16_stack_7 : decode cX16_stack 7 = .ok (.if_icmp .ge 12, 3) := by decide +kernel
theorem dX16_stack_10 : decode cX16_stack 10 = .ok (.aload_n 0, 1) := by decide +kernel
theorem dX16_stack_11 : decode cX16_stack 11 = .ok (.getfield 65, 3) := by decide +kernel
theorem dX16_stack_14 : decode cX16_stack 14 = .ok (.iload_n 1, 1) := by decide +kernel
theorem dX16_stack_15 : decode cX16_stack 15 = .ok (.iaload, 1) := by decide +kernel
theorem dX16_stack_16 : decode cX16_stack 16 = .ok (.goto 4, 3) := by decide +kernel
theorem dX16_stack_19 : decode cX16_stack 19 = .ok (.iconst (-1), 1) := by decide +kernel
theorem dX16_stack_20 : decode cX16_stack 20 = .ok (.ireturn, 1) := by decide +kernel
theorem dX16_verify_0 : decode cX16_verify 0 = .ok (.aload_n 0, 1) := by decide +kernel
theorem dX16_verify_1 : decode cX16_verify 1 = .ok (.getfield 672, 3) := by decide +kernel
theorem dX16_verify_4 : decode cX16_verify 4 = .ok (.ifCond .eq 10, 3) := by decide +kernel
theorem dX16_verify_7 : decode cX16_verify 7 = .ok (.aload_n 0, 1) := by decide +kernel
theorem dX16_verify_8 : decode cX16_verify 8 = .ok (.invokevirtual 928, 3) := by decide +kernel
theorem dX16_verify_11 : decode cX16_verify 11 = .ok (.goto 4, 3) := by decide +kernel
theorem dX16_verify_14 : decode cX16_verify 14 = .ok (.iconst (-1), 1) := by decide +kernel
theorem dX16_verify_15 : decode cX16_verify 15 = .ok (.ireturn, 1) := by decide +kernel
theorem dX16_known_0 : decode cX16_known 0 = .ok (.iload_n 1, 1) := by decide +kernel
theorem dX16_known_1 : decode cX16_known 1 = .ok (.ifCond .lt 54, 3) := by decide +kernel
theorem dX16_known_4 : decode cX16_known 4 = .ok (.iload_n 1, 1) := by decide +kernel
theorem dX16_known_5 : decode cX16_known 5 = .ok (.aload_n 0, 1) := by decide +kernel
theorem dX16_known_6 : decode cX16_known 6 = .ok (.getfield 91, 3) := by decide +kernel
theorem dX16_known_9 : decode cX16_known 9 = .ok (.if_icmp .gt 46, 3) := by decide +kernel
theorem dX16_known_12 : decode cX16_known 12 = .ok (.aload_n 0, 1) := by decide +kernel
theorem dX16_known_13 : decode cX16_known 13 = .ok (.getfield 87, 3) := by decide +kernel
theorem dX16_known_16 : decode cX16_known 16 = .ok (.iload_n 1, 1) := by decide +kernel
theorem dX16_known_17 : decode cX16_known 17 = .ok (.baload, 1) := by decide +kernel
theorem dX16_known_18 : decode cX16_known 18 = .ok (.ifCond .eq 37, 3) := by decide +kernel
theorem dX16_known_21 : decode cX16_known 21 = .ok (.iload_n 2, 1) := by decide +kernel
theorem dX16_known_22 : decode cX16_known 22 = .ok (.ifCond .lt 33, 3) := by decide +kernel
theorem dX16_known_25 : decode cX16_known 25 = .ok (.iload_n 2, 1) := by decide +kernel
theorem dX16_known_26 : decode cX16_known 26 = .ok (.bipush 11, 2) := by decide +kernel
theorem dX16_known_28 : decode cX16_known 28 = .ok (.if_icmp .gt 27, 3) := by decide +kernel
theorem dX16_known_31 : decode cX16_known 31 = .ok (.iload_n 3, 1) := by decide +kernel
theorem dX16_known_32 : decode cX16_known 32 = .ok (.ifCond .lt 23, 3) := by decide +kernel
theorem dX16_known_35 : decode cX16_known 35 = .ok (.iload_n 3, 1) := by decide +kernel
theorem dX16_known_36 : decode cX16_known 36 = .ok (.iload_n 2, 1) := by decide +kernel
theorem dX16_known_37 : decode cX16_known 37 = .ok (.bipush 11, 2) := by decide +kernel
theorem dX16_known_39 : decode cX16_known 39 = .ok (.if_icmp .ne 8, 3) := by decide +kernel
theorem dX16_known_42 : decode cX16_known 42 = .ok (.bipush 63, 2) := by decide +kernel
theorem dX16_known_44 : decode cX16_known 44 = .ok (.goto 4, 3) := by decide +kernel
theorem dX16_known_47 : decode cX16_known 47 = .ok (.iconst 4, 1) := by decide +kernel
theorem dX16_known_48 : decode cX16_known 48 = .ok (.if_icmp .gt 7, 3) := by decide +kernel
theorem dX16_known_51 : decode cX16_known 51 = .ok (.iconst 1, 1) := by decide +kernel
theorem dX16_known_52 : decode cX16_known 52 = .ok (.goto 4, 3) := by decide +kernel
theorem dX16_known_55 : decode cX16_known 55 = .ok (.iconst 0, 1) := by decide +kernel
theorem dX16_known_56 : decode cX16_known 56 = .ok (.istore 4, 2) := by decide +kernel
theorem dX16_known_58 : decode cX16_known 58 = .ok (.iload 4, 2) := by decide +kernel
theorem dX16_known_60 : decode cX16_known 60 = .ok (.ifCond .ne 15, 3) := by decide +kernel
theorem dX16_known_63 : decode cX16_known 63 = .ok (.iload_n 3, 1) := by decide +kernel
theorem dX16_known_64 : decode cX16_known 64 = .ok (.ifCond .ne 9, 3) := by decide +kernel
theorem dX16_known_67 : decode cX16_known 67 = .ok (.ldc2_w 158, 3) := by decide +kernel
theorem dX16_known_70 : decode cX16_known 70 = .ok (.goto 4, 3) := by decide +kernel
theorem dX16_known_73 : decode cX16_known 73 = .ok (.lconst 0, 1) := by decide +kernel
theorem dX16_known_74 : decode cX16_known 74 = .ok (.lreturn, 1) := by decide +kernel
theorem dX16_known_75 : decode cX16_known 75 = .ok (.iload_n 2, 1) := by decide +kernel
theorem dX16_known_76 : decode cX16_known 76 = .ok (.bipush 11, 2) := by decide +kernel
theorem dX16_known_78 : decode cX16_known 78 = .ok (.if_icmp .ne 14, 3) := by decide +kernel
theorem dX16_known_81 : decode cX16_known 81 = .ok (.aload_n 0, 1) := by decide +kernel
theorem dX16_known_82 : decode cX16_known 82 = .ok (.getfield 84, 3) := by decide +kernel
theorem dX16_known_85 : decode cX16_known 85 = .ok (.iload_n 1, 1) := by decide +kernel
theorem dX16_known_86 : decode cX16_known 86 = .ok (.laload, 1) := by decide +kernel
theorem dX16_known_87 : decode cX16_known 87 = .ok (.iload_n 3, 1) := by decide +kernel
theorem dX16_known_88 : decode cX16_known 88 = .ok (.lshr, 1) := by decide +kernel
theorem dX16_known_89 : decode cX16_known 89 = .ok (.lconst 1, 1) := by decide +kernel
theorem dX16_known_90 : decode cX16_known 90 = .ok (.land, 1) := by decide +kernel
theorem dX16_known_91 : decode cX16_known 91 = .ok (.lreturn, 1) := by decide +kernel
theorem dX16_known_92 : decode cX16_known 92 = .ok (.bipush 11, 2) := by decide +kernel
theorem dX16_known_94 : decode cX16_known 94 = .ok (.iload_n 1, 1) := by decide +kernel
theorem dX16_known_95 : decode cX16_known 95 = .ok (.imul, 1) := by decide +kernel
theorem dX16_known_96 : decode cX16_known 96 = .ok (.iload_n 2, 1) := by decide +kernel
theorem dX16_known_97 : decode cX16_known 97 = .ok (.iadd, 1) := by decide +kernel
theorem dX16_known_98 : decode cX16_known 98 = .ok (.istore 5, 2) := by decide +kernel
theorem dX16_known_100 : decode cX16_known 100 = .ok (.iload_n 3, 1) := by decide +kernel
theorem dX16_known_101 : decode cX16_known 101 = .ok (.tableswitch 64 0 3 #[31, 40, 48, 56], 31) := by decide +kernel
theorem dX16_known_132 : decode cX16_known 132 = .ok (.aload_n 0, 1) := by decide +kernel
theorem dX16_known_133 : decode cX16_known 133 = .ok (.getfield 69, 3) := by decide +kernel
theorem dX16_known_136 : decode cX16_known 136 = .ok (.iload 5, 2) := by decide +kernel
theorem dX16_known_138 : decode cX16_known 138 = .ok (.iaload, 1) := by decide +kernel
theorem dX16_known_139 : decode cX16_known 139 = .ok (.i2l, 1) := by decide +kernel
theorem dX16_known_140 : decode cX16_known 140 = .ok (.lreturn, 1) := by decide +kernel
theorem dX16_known_141 : decode cX16_known 141 = .ok (.aload_n 0, 1) := by decide +kernel
theorem dX16_known_142 : decode cX16_known 142 = .ok (.getfield 72, 3) := by decide +kernel
theorem dX16_known_145 : decode cX16_known 145 = .ok (.iload 5, 2) := by decide +kernel
theorem dX16_known_147 : decode cX16_known 147 = .ok (.laload, 1) := by decide +kernel
theorem dX16_known_148 : decode cX16_known 148 = .ok (.lreturn, 1) := by decide +kernel
theorem dX16_known_149 : decode cX16_known 149 = .ok (.aload_n 0, 1) := by decide +kernel
theorem dX16_known_150 : decode cX16_known 150 = .ok (.getfield 75, 3) := by decide +kernel
theorem dX16_known_153 : decode cX16_known 153 = .ok (.iload 5, 2) := by decide +kernel
theorem dX16_known_155 : decode cX16_known 155 = .ok (.laload, 1) := by decide +kernel
theorem dX16_known_156 : decode cX16_known 156 = .ok (.lreturn, 1) := by decide +kernel
theorem dX16_known_157 : decode cX16_known 157 = .ok (.aload_n 0, 1) := by decide +kernel
theorem dX16_known_158 : decode cX16_known 158 = .ok (.getfield 78, 3) := by decide +kernel
theorem dX16_known_161 : decode cX16_known 161 = .ok (.iload 5, 2) := by decide +kernel
theorem dX16_known_163 : decode cX16_known 163 = .ok (.laload, 1) := by decide +kernel
theorem dX16_known_164 : decode cX16_known 164 = .ok (.lreturn, 1) := by decide +kernel
theorem dX16_known_165 : decode cX16_known 165 = .ok (.aload_n 0, 1) := by decide +kernel
theorem dX16_known_166 : decode cX16_known 166 = .ok (.getfield 81, 3) := by decide +kernel
theorem dX16_known_169 : decode cX16_known 169 = .ok (.iload 5, 2) := by decide +kernel
theorem dX16_known_171 : decode cX16_known 171 = .ok (.laload, 1) := by decide +kernel
theorem dX16_known_172 : decode cX16_known 172 = .ok (.lreturn, 1) := by decide +kernel
theorem dX16_translate_0 : decode cX16_translate 0 = .ok (.aload_n 0, 1) := by decide +kernel
theorem dX16_translate_1 : decode cX16_translate 1 = .ok (.getfield 672, 3) := by decide +kernel
theorem dX16_translate_4 : decode cX16_translate 4 = .ok (.ifCond .ne 5, 3) := by decide +kernel
theorem dX16_translate_7 : decode cX16_translate 7 = .ok (.iconst (-1), 1) := by decide +kernel
theorem dX16_translate_8 : decode cX16_translate 8 = .ok (.ireturn, 1) := by decide +kernel
theorem dX16_translate_9 : decode cX16_translate 9 = .ok (.aload_n 0, 1) := by decide +kernel
theorem dX16_translate_10 : decode cX16_translate 10 = .ok (.invokevirtual 999, 3) := by decide +kernel
theorem dX16_translate_13 : decode cX16_translate 13 = .ok (.aload_n 0, 1) := by decide +kernel
theorem dX16_translate_14 : decode cX16_translate 14 = .ok (.invokevirtual 928, 3) := by decide +kernel
theorem dX16_translate_17 : decode cX16_translate 17 = .ok (.istore_n 1, 1) := by decide +kernel
theorem dX16_translate_18 : decode cX16_translate 18 = .ok (.aload_n 0, 1) := by decide +kernel
theorem dX16_translate_19 : decode cX16_translate 19 = .ok (.invokevirtual 999, 3) := by decide +kernel
theorem dX16_translate_22 : decode cX16_translate 22 = .ok (.iload_n 1, 1) := by decide +kernel
theorem dX16_translate_23 : decode cX16_translate 23 = .ok (.ifCond .eq 5, 3) := by decide +kernel
theorem dX16_translate_26 : decode cX16_translate 26 = .ok (.iconst (-1), 1) := by decide +kernel
theorem dX16_translate_27 : decode cX16_translate 27 = .ok (.ireturn, 1) := by decide +kernel
theorem dX16_translate_28 : decode cX16_translate 28 = .ok (.aload_n 0, 1) := by decide +kernel
theorem dX16_translate_29 : decode cX16_translate 29 = .ok (.getfield 49, 3) := by decide +kernel
theorem dX16_translate_32 : decode cX16_translate 32 = .ok (.arraylength, 1) := by decide +kernel
theorem dX16_translate_33 : decode cX16_translate 33 = .ok (.istore_n 2, 1) := by decide +kernel
theorem dX16_translate_34 : decode cX16_translate 34 = .ok (.aload_n 0, 1) := by decide +kernel
theorem dX16_translate_35 : decode cX16_translate 35 = .ok (.iconst 0, 1) := by decide +kernel
theorem dX16_translate_36 : decode cX16_translate 36 = .ok (.putfield 931, 3) := by decide +kernel
theorem dX16_translate_39 : decode cX16_translate 39 = .ok (.iconst 0, 1) := by decide +kernel
theorem dX16_translate_40 : decode cX16_translate 40 = .ok (.istore_n 3, 1) := by decide +kernel
theorem dX16_translate_41 : decode cX16_translate 41 = .ok (.iload_n 3, 1) := by decide +kernel
theorem dX16_translate_42 : decode cX16_translate 42 = .ok (.iload_n 2, 1) := by decide +kernel
theorem dX16_translate_43 : decode cX16_translate 43 = .ok (.if_icmp .ge 116, 3) := by decide +kernel
theorem dX16_translate_46 : decode cX16_translate 46 = .ok (.aload_n 0, 1) := by decide +kernel
theorem dX16_translate_47 : decode cX16_translate 47 = .ok (.getfield 141, 3) := by decide +kernel
theorem dX16_translate_50 : decode cX16_translate 50 = .ok (.iload_n 3, 1) := by decide +kernel
theorem dX16_translate_51 : decode cX16_translate 51 = .ok (.aload_n 0, 1) := by decide +kernel
theorem dX16_translate_52 : decode cX16_translate 52 = .ok (.getfield 931, 3) := by decide +kernel
theorem dX16_translate_55 : decode cX16_translate 55 = .ok (.iastore, 1) := by decide +kernel
theorem dX16_translate_56 : decode cX16_translate 56 = .ok (.aload_n 0, 1) := by decide +kernel
theorem dX16_translate_57 : decode cX16_translate 57 = .ok (.getfield 49, 3) := by decide +kernel
theorem dX16_translate_60 : decode cX16_translate 60 = .ok (.iload_n 3, 1) := by decide +kernel
theorem dX16_translate_61 : decode cX16_translate 61 = .ok (.laload, 1) := by decide +kernel
theorem dX16_translate_62 : decode cX16_translate 62 = .ok (.invokestatic 675, 3) := by decide +kernel
theorem dX16_translate_65 : decode cX16_translate 65 = .ok (.invokestatic 679, 3) := by decide +kernel
theorem dX16_translate_68 : decode cX16_translate 68 = .ok (.tableswitch 75 0 4 #[36, 49, 62, 62, 62], 36) := by decide +kernel
theorem dX16_translate_104 : decode cX16_translate 104 = .ok (.aload_n 0, 1) := by decide +kernel
theorem dX16_translate_105 : decode cX16_translate 105 = .ok (.aload_n 0, 1) := by decide +kernel
theorem dX16_translate_106 : decode cX16_translate 106 = .ok (.getfield 49, 3) := by decide +kernel
theorem dX16_translate_109 : decode cX16_translate 109 = .ok (.iload_n 3, 1) := by decide +kernel
theorem dX16_translate_110 : decode cX16_translate 110 = .ok (.laload, 1) := by decide +kernel
theorem dX16_translate_111 : decode cX16_translate 111 = .ok (.invokevirtual 1002, 3) := by decide +kernel
theorem dX16_translate_114 : decode cX16_translate 114 = .ok (.goto 39, 3) := by decide +kernel
theorem dX16_translate_117 : decode cX16_translate 117 = .ok (.aload_n 0, 1) := by decide +kernel
theorem dX16_translate_118 : decode cX16_translate 118 = .ok (.aload_n 0, 1) := by decide +kernel
theorem dX16_translate_119 : decode cX16_translate 119 = .ok (.getfield 49, 3) := by decide +kernel
theorem dX16_translate_122 : decode cX16_translate 122 = .ok (.iload_n 3, 1) := by decide +kernel
theorem dX16_translate_123 : decode cX16_translate 123 = .ok (.laload, 1) := by decide +kernel
theorem dX16_translate_124 : decode cX16_translate 124 = .ok (.invokevirtual 1005, 3) := by decide +kernel
theorem dX16_translate_127 : decode cX16_translate 127 = .ok (.goto 26, 3) := by decide +kernel
theorem dX16_translate_130 : decode cX16_translate 130 = .ok (.aload_n 0, 1) := by decide +kernel
theorem dX16_translate_131 : decode cX16_translate 131 = .ok (.aload_n 0, 1) := by decide +kernel
theorem dX16_translate_132 : decode cX16_translate 132 = .ok (.getfield 49, 3) := by decide +kernel
theorem dX16_translate_135 : decode cX16_translate 135 = .ok (.iload_n 3, 1) := by decide +kernel
theorem dX16_translate_136 : decode cX16_translate 136 = .ok (.laload, 1) := by decide +kernel
theorem dX16_translate_137 : decode cX16_translate 137 = .ok (.invokevirtual 1008, 3) := by decide +kernel
theorem dX16_translate_140 : decode cX16_translate 140 = .ok (.goto 13, 3) := by decide +kernel
theorem dX16_translate_143 : decode cX16_translate 143 = .ok (.aload_n 0, 1) := by decide +kernel
theorem dX16_translate_144 : decode cX16_translate 144 = .ok (.aload_n 0, 1) := by decide +kernel
theorem dX16_translate_145 : decode cX16_translate 145 = .ok (.getfield 49, 3) := by decide +kernel
theorem dX16_translate_148 : decode cX16_translate 148 = .ok (.iload_n 3, 1) := by decide +kernel
theorem dX16_translate_149 : decode cX16_translate 149 = .ok (.laload, 1) := by decide +kernel
theorem dX16_translate_150 : decode cX16_translate 150 = .ok (.invokevirtual 1011, 3) := by decide +kernel
theorem dX16_translate_153 : decode cX16_translate 153 = .ok (.iinc 3 1, 3) := by decide +kernel
theorem dX16_translate_156 : decode cX16_translate 156 = .ok (.goto (-115), 3) := by decide +kernel
theorem dX16_translate_159 : decode cX16_translate 159 = .ok (.iconst 0, 1) := by decide +kernel
theorem dX16_translate_160 : decode cX16_translate 160 = .ok (.istore_n 3, 1) := by decide +kernel
theorem dX16_translate_161 : decode cX16_translate 161 = .ok (.iload_n 3, 1) := by decide +kernel
theorem dX16_translate_162 : decode cX16_translate 162 = .ok (.iload_n 2, 1) := by decide +kernel
theorem dX16_translate_163 : decode cX16_translate 163 = .ok (.if_icmp .ge 96, 3) := by decide +kernel
theorem dX16_translate_166 : decode cX16_translate 166 = .ok (.aload_n 0, 1) := by decide +kernel
theorem dX16_translate_167 : decode cX16_translate 167 = .ok (.getfield 49, 3) := by decide +kernel
theorem dX16_translate_170 : decode cX16_translate 170 = .ok (.iload_n 3, 1) := by decide +kernel
theorem dX16_translate_171 : decode cX16_translate 171 = .ok (.laload, 1) := by decide +kernel
theorem dX16_translate_172 : decode cX16_translate 172 = .ok (.invokestatic 675, 3) := by decide +kernel
theorem dX16_translate_175 : decode cX16_translate 175 = .ok (.istore 4, 2) := by decide +kernel
theorem dX16_translate_177 : decode cX16_translate 177 = .ok (.iload 4, 2) := by decide +kernel
theorem dX16_translate_179 : decode cX16_translate 179 = .ok (.invokestatic 679, 3) := by decide +kernel
theorem dX16_translate_182 : decode cX16_translate 182 = .ok (.iconst 1, 1) := by decide +kernel
theorem dX16_translate_183 : decode cX16_translate 183 = .ok (.if_icmp .ne 70, 3) := by decide +kernel
theorem dX16_translate_186 : decode cX16_translate 186 = .ok (.iload 4, 2) := by decide +kernel
theorem dX16_translate_188 : decode cX16_translate 188 = .ok (.invokestatic 688, 3) := by decide +kernel
theorem dX16_translate_191 : decode cX16_translate 191 = .ok (.ifCond .ne 62, 3) := by decide +kernel
theorem dX16_translate_194 : decode cX16_translate 194 = .ok (.iload_n 3, 1) := by decide +kernel
theorem dX16_translate_195 : decode cX16_translate 195 = .ok (.iconst 1, 1) := by decide +kernel
theorem dX16_translate_196 : decode cX16_translate 196 = .ok (.iadd, 1) := by decide +kernel
theorem dX16_translate_197 : decode cX16_translate 197 = .ok (.iload_n 2, 1) := by decide +kernel
theorem dX16_translate_198 : decode cX16_translate 198 = .ok (.if_icmp .ge 14, 3) := by decide +kernel
theorem dX16_translate_201 : decode cX16_translate 201 = .ok (.aload_n 0, 1) := by decide +kernel
theorem dX16_translate_202 : decode cX16_translate 202 = .ok (.getfield 141, 3) := by decide +kernel
theorem dX16_translate_205 : decode cX16_translate 205 = .ok (.iload_n 3, 1) := by decide +kernel
theorem dX16_translate_206 : decode cX16_translate 206 = .ok (.iconst 1, 1) := by decide +kernel
theorem dX16_translate_207 : decode cX16_translate 207 = .ok (.iadd, 1) := by decide +kernel
theorem dX16_translate_208 : decode cX16_translate 208 = .ok (.iaload, 1) := by decide +kernel
theorem dX16_translate_209 : decode cX16_translate 209 = .ok (.goto 7, 3) := by decide +kernel
theorem dX16_translate_212 : decode cX16_translate 212 = .ok (.aload_n 0, 1) := by decide +kernel
theorem dX16_translate_213 : decode cX16_translate 213 = .ok (.getfield 931, 3) := by decide +kernel
theorem dX16_translate_216 : decode cX16_translate 216 = .ok (.iconst 1, 1) := by decide +kernel
theorem dX16_translate_217 : decode cX16_translate 217 = .ok (.isub, 1) := by decide +kernel
theorem dX16_translate_218 : decode cX16_translate 218 = .ok (.istore 5, 2) := by decide +kernel
theorem dX16_translate_220 : decode cX16_translate 220 = .ok (.aload_n 0, 1) := by decide +kernel
theorem dX16_translate_221 : decode cX16_translate 221 = .ok (.getfield 138, 3) := by decide +kernel
theorem dX16_translate_224 : decode cX16_translate 224 = .ok (.iload 5, 2) := by decide +kernel
theorem dX16_translate_226 : decode cX16_translate 226 = .ok (.iconst 4, 1) := by decide +kernel
theorem dX16_translate_227 : decode cX16_translate 227 = .ok (.aload_n 0, 1) := by decide +kernel
theorem dX16_translate_228 : decode cX16_translate 228 = .ok (.getfield 141, 3) := by decide +kernel
theorem dX16_translate_231 : decode cX16_translate 231 = .ok (.iload_n 3, 1) := by decide +kernel
theorem dX16_translate_232 : decode cX16_translate 232 = .ok (.iconst 1, 1) := by decide +kernel
theorem dX16_translate_233 : decode cX16_translate 233 = .ok (.iadd, 1) := by decide +kernel
theorem dX16_translate_234 : decode cX16_translate 234 = .ok (.aload_n 0, 1) := by decide +kernel
theorem dX16_translate_235 : decode cX16_translate 235 = .ok (.getfield 49, 3) := by decide +kernel
theorem dX16_translate_238 : decode cX16_translate 238 = .ok (.iload_n 3, 1) := by decide +kernel
theorem dX16_translate_239 : decode cX16_translate 239 = .ok (.laload, 1) := by decide +kernel
theorem dX16_translate_240 : decode cX16_translate 240 = .ok (.invokestatic 697, 3) := by decide +kernel
theorem dX16_translate_243 : decode cX16_translate 243 = .ok (.iadd, 1) := by decide +kernel
theorem dX16_translate_244 : decode cX16_translate 244 = .ok (.iaload, 1) := by decide +kernel
theorem dX16_translate_245 : decode cX16_translate 245 = .ok (.iload 5, 2) := by decide +kernel
theorem dX16_translate_247 : decode cX16_translate 247 = .ok (.isub, 1) := by decide +kernel
theorem dX16_translate_248 : decode cX16_translate 248 = .ok (.imul, 1) := by decide +kernel
theorem dX16_translate_249 : decode cX16_translate 249 = .ok (.invokestatic 983, 3) := by decide +kernel
theorem dX16_translate_252 : decode cX16_translate 252 = .ok (.iastore, 1) := by decide +kernel
theorem dX16_translate_253 : decode cX16_translate 253 = .ok (.iinc 3 1, 3) := by decide +kernel
theorem dX16_translate_256 : decode cX16_translate 256 = .ok (.goto (-95), 3) := by decide +kernel
theorem dX16_translate_259 : decode cX16_translate 259 = .ok (.aload_n 0, 1) := by decide +kernel
theorem dX16_translate_260 : decode cX16_translate 260 = .ok (.aload_n 0, 1) := by decide +kernel
theorem dX16_translate_261 : decode cX16_translate 261 = .ok (.getfield 931, 3) := by decide +kernel
theorem dX16_translate_264 : decode cX16_translate 264 = .ok (.invokevirtual 1014, 3) := by decide +kernel
theorem dX16_translate_267 : decode cX16_translate 267 = .ok (.aload_n 0, 1) := by decide +kernel
theorem dX16_translate_268 : decode cX16_translate 268 = .ok (.getfield 931, 3) := by decide +kernel
theorem dX16_translate_271 : decode cX16_translate 271 = .ok (.ireturn, 1) := by decide +kernel
theorem dX16_raw_0 : decode cX16_raw 0 = .ok (.aload_n 0, 1) := by decide +kernel
theorem dX16_raw_1 : decode cX16_raw 1 = .ok (.getfield 144, 3) := by decide +kernel
theorem dX16_raw_4 : decode cX16_raw 4 = .ok (.istore_n 1, 1) := by decide +kernel
theorem dX16_raw_5 : decode cX16_raw 5 = .ok (.aload_n 0, 1) := by decide +kernel
theorem dX16_raw_6 : decode cX16_raw 6 = .ok (.iconst 0, 1) := by decide +kernel
theorem dX16_raw_7 : decode cX16_raw 7 = .ok (.putfield 144, 3) := by decide +kernel
theorem dX16_raw_10 : decode cX16_raw 10 = .ok (.iload_n 1, 1) := by decide +kernel
theorem dX16_raw_11 : decode cX16_raw 11 = .ok (.ifCond .eq 9, 3) := by decide +kernel
theorem dX16_raw_14 : decode cX16_raw 14 = .ok (.iload_n 1, 1) := by decide +kernel
theorem dX16_raw_15 : decode cX16_raw 15 = .ok (.iconst 4, 1) := by decide +kernel
theorem dX16_raw_16 : decode cX16_raw 16 = .ok (.irem, 1) := by decide +kernel
theorem dX16_raw_17 : decode cX16_raw 17 = .ok (.ifCond .eq 5, 3) := by decide +kernel
theorem dX16_raw_20 : decode cX16_raw 20 = .ok (.iconst (-1), 1) := by decide +kernel
theorem dX16_raw_21 : decode cX16_raw 21 = .ok (.ireturn, 1) := by decide +kernel
theorem dX16_raw_22 : decode cX16_raw 22 = .ok (.iconst 0, 1) := by decide +kernel
theorem dX16_raw_23 : decode cX16_raw 23 = .ok (.istore_n 2, 1) := by decide +kernel
theorem dX16_raw_24 : decode cX16_raw 24 = .ok (.iload_n 2, 1) := by decide +kernel
theorem dX16_raw_25 : decode cX16_raw 25 = .ok (.iload_n 1, 1) := by decide +kernel
theorem dX16_raw_26 : decode cX16_raw 26 = .ok (.if_icmp .ge 49, 3) := by decide +kernel
theorem dX16_raw_29 : decode cX16_raw 29 = .ok (.aload_n 0, 1) := by decide +kernel
theorem dX16_raw_30 : decode cX16_raw 30 = .ok (.getfield 135, 3) := by decide +kernel
theorem dX16_raw_33 : decode cX16_raw 33 = .ok (.iload_n 2, 1) := by decide +kernel
theorem dX16_raw_34 : decode cX16_raw 34 = .ok (.iconst 4, 1) := by decide +kernel
theorem dX16_raw_35 : decode cX16_raw 35 = .ok (.idiv, 1) := by decide +kernel
theorem dX16_raw_36 : decode cX16_raw 36 = .ok (.iload_n 2, 1) := by decide +kernel
theorem dX16_raw_37 : decode cX16_raw 37 = .ok (.iconst 4, 1) := by decide +kernel
theorem dX16_raw_38 : decode cX16_raw 38 = .ok (.irem, 1) := by decide +kernel
theorem dX16_raw_39 : decode cX16_raw 39 = .ok (.ifCond .ne 7, 3) := by decide +kernel
theorem dX16_raw_42 : decode cX16_raw 42 = .ok (.iconst 0, 1) := by decide +kernel
theorem dX16_raw_43 : decode cX16_raw 43 = .ok (.goto 11, 3) := by decide +kernel
theorem dX16_raw_46 : decode cX16_raw 46 = .ok (.aload_n 0, 1) := by decide +kernel
theorem dX16_raw_47 : decode cX16_raw 47 = .ok (.getfield 135, 3) := by decide +kernel
theorem dX16_raw_50 : decode cX16_raw 50 = .ok (.iload_n 2, 1) := by decide +kernel
theorem dX16_raw_51 : decode cX16_raw 51 = .ok (.iconst 4, 1) := by decide +kernel
theorem dX16_raw_52 : decode cX16_raw 52 = .ok (.idiv, 1) := by decide +kernel
theorem dX16_raw_53 : decode cX16_raw 53 = .ok (.iaload, 1) := by decide +kernel
theorem dX16_raw_54 : decode cX16_raw 54 = .ok (.aload_n 0, 1) := by decide +kernel
theorem dX16_raw_55 : decode cX16_raw 55 = .ok (.getfield 9, 3) := by decide +kernel
theorem dX16_raw_58 : decode cX16_raw 58 = .ok (.iload_n 2, 1) := by decide +kernel
theorem dX16_raw_59 : decode cX16_raw 59 = .ok (.iaload, 1) := by decide +kernel
theorem dX16_raw_60 : decode cX16_raw 60 = .ok (.bipush 8, 2) := by decide +kernel
theorem dX16_raw_62 : decode cX16_raw 62 = .ok (.iload_n 2, 1) := by decide +kernel
theorem dX16_raw_63 : decode cX16_raw 63 = .ok (.iconst 4, 1) := by decide +kernel
theorem dX16_raw_64 : decode cX16_raw 64 = .ok (.irem, 1) := by decide +kernel
theorem dX16_raw_65 : decode cX16_raw 65 = .ok (.imul, 1) := by decide +kernel
theorem dX16_raw_66 : decode cX16_raw 66 = .ok (.ishl, 1) := by decide +kernel
theorem dX16_raw_67 : decode cX16_raw 67 = .ok (.ior, 1) := by decide +kernel
theorem dX16_raw_68 : decode cX16_raw 68 = .ok (.iastore, 1) := by decide +kernel
theorem dX16_raw_69 : decode cX16_raw 69 = .ok (.iinc 2 1, 3) := by decide +kernel
theorem dX16_raw_72 : decode cX16_raw 72 = .ok (.goto (-48), 3) := by decide +kernel
theorem dX16_raw_75 : decode cX16_raw 75 = .ok (.aload_n 0, 1) := by decide +kernel
theorem dX16_raw_76 : decode cX16_raw 76 = .ok (.iload_n 1, 1) := by decide +kernel
theorem dX16_raw_77 : decode cX16_raw 77 = .ok (.iconst 4, 1) := by decide +kernel
theorem dX16_raw_78 : decode cX16_raw 78 = .ok (.idiv, 1) := by decide +kernel
theorem dX16_raw_79 : decode cX16_raw 79 = .ok (.putfield 1017, 3) := by decide +kernel
theorem dX16_raw_82 : decode cX16_raw 82 = .ok (.aload_n 0, 1) := by decide +kernel
theorem dX16_raw_83 : decode cX16_raw 83 = .ok (.iconst 1, 1) := by decide +kernel
theorem dX16_raw_84 : decode cX16_raw 84 = .ok (.putfield 1020, 3) := by decide +kernel
theorem dX16_raw_87 : decode cX16_raw 87 = .ok (.iload_n 1, 1) := by decide +kernel
theorem dX16_raw_88 : decode cX16_raw 88 = .ok (.iconst 4, 1) := by decide +kernel
theorem dX16_raw_89 : decode cX16_raw 89 = .ok (.idiv, 1) := by decide +kernel
theorem dX16_raw_90 : decode cX16_raw 90 = .ok (.ireturn, 1) := by decide +kernel
theorem dX16_word_0 : decode cX16_word 0 = .ok (.iload_n 1, 1) := by decide +kernel
theorem dX16_word_1 : decode cX16_word 1 = .ok (.ifCond .lt 20, 3) := by decide +kernel
theorem dX16_word_4 : decode cX16_word 4 = .ok (.iload_n 1, 1) := by decide +kernel
theorem dX16_word_5 : decode cX16_word 5 = .ok (.aload_n 0, 1) := by decide +kernel
theorem dX16_word_6 : decode cX16_word 6 = .ok (.getfield 1017, 3) := by decide +kernel
theorem dX16_word_9 : decode cX16_word 9 = .ok (.if_icmp .ge 12, 3) := by decide +kernel
theorem dX16_word_12 : decode cX16_word 12 = .ok (.aload_n 0, 1) := by decide +kernel
theorem dX16_word_13 : decode cX16_word 13 = .ok (.getfield 135, 3) := by decide +kernel
theorem dX16_word_16 : decode cX16_word 16 = .ok (.iload_n 1, 1) := by decide +kernel
theorem dX16_word_17 : decode cX16_word 17 = .ok (.iaload, 1) := by decide +kernel
theorem dX16_word_18 : decode cX16_word 18 = .ok (.goto 4, 3) := by decide +kernel
theorem dX16_word_21 : decode cX16_word 21 = .ok (.iconst 0, 1) := by decide +kernel
theorem dX16_word_22 : decode cX16_word 22 = .ok (.ireturn, 1) := by decide +kernel
theorem dX16_emulate_0 : decode cX16_emulate 0 = .ok (.aload_n 0, 1) := by decide +kernel
theorem dX16_emulate_1 : decode cX16_emulate 1 = .ok (.getfield 1020, 3) := by decide +kernel
theorem dX16_emulate_4 : decode cX16_emulate 4 = .ok (.ifCond .eq 11, 3) := by decide +kernel
theorem dX16_emulate_7 : decode cX16_emulate 7 = .ok (.aload_n 0, 1) := by decide +kernel
theorem dX16_emulate_8 : decode cX16_emulate 8 = .ok (.iload_n 1, 1) := by decide +kernel
theorem dX16_emulate_9 : decode cX16_emulate 9 = .ok (.invokevirtual 154, 3) := by decide +kernel
theorem dX16_emulate_12 : decode cX16_emulate 12 = .ok (.ifCond .ne 5, 3) := by decide +kernel
theorem dX16_emulate_15 : decode cX16_emulate 15 = .ok (.lconst 0, 1) := by decide +kernel
theorem dX16_emulate_16 : decode cX16_emulate 16 = .ok (.lreturn, 1) := by decide +kernel
theorem dX16_emulate_17 : decode cX16_emulate 17 = .ok (.aload_n 0, 1) := by decide +kernel
theorem dX16_emulate_18 : decode cX16_emulate 18 = .ok (.invokevirtual 766, 3) := by decide +kernel
theorem dX16_emulate_21 : decode cX16_emulate 21 = .ok (.aload_n 0, 1) := by decide +kernel
theorem dX16_emulate_22 : decode cX16_emulate 22 = .ok (.iconst 1, 1) := by decide +kernel
theorem dX16_emulate_23 : decode cX16_emulate 23 = .ok (.putfield 769, 3) := by decide +kernel
theorem dX16_emulate_26 : decode cX16_emulate 26 = .ok (.aload_n 0, 1) := by decide +kernel
theorem dX16_emulate_27 : decode cX16_emulate 27 = .ok (.getfield 62, 3) := by decide +kernel
theorem dX16_emulate_30 : decode cX16_emulate 30 = .ok (.bipush 8, 2) := by decide +kernel
theorem dX16_emulate_32 : decode cX16_emulate 32 = .ok (.ldc2_w 1023, 3) := by decide +kernel
theorem dX16_emulate_35 : decode cX16_emulate 35 = .ok (.lastore, 1) := by decide +kernel
theorem dX16_emulate_36 : decode cX16_emulate 36 = .ok (.aload_n 0, 1) := by decide +kernel
theorem dX16_emulate_37 : decode cX16_emulate 37 = .ok (.getfield 62, 3) := by decide +kernel
theorem dX16_emulate_40 : decode cX16_emulate 40 = .ok (.bipush 9, 2) := by decide +kernel
theorem dX16_emulate_42 : decode cX16_emulate 42 = .ok (.aload_n 0, 1) := by decide +kernel
theorem dX16_emulate_43 : decode cX16_emulate 43 = .ok (.getfield 16, 3) := by decide +kernel
theorem dX16_emulate_46 : decode cX16_emulate 46 = .ok (.iload_n 1, 1) := by decide +kernel
theorem dX16_emulate_47 : decode cX16_emulate 47 = .ok (.iaload, 1) := by decide +kernel
theorem dX16_emulate_48 : decode cX16_emulate 48 = .ok (.i2l, 1) := by decide +kernel
theorem dX16_emulate_49 : decode cX16_emulate 49 = .ok (.lastore, 1) := by decide +kernel
theorem dX16_emulate_50 : decode cX16_emulate 50 = .ok (.aload_n 0, 1) := by decide +kernel
theorem dX16_emulate_51 : decode cX16_emulate 51 = .ok (.getfield 62, 3) := by decide +kernel
theorem dX16_emulate_54 : decode cX16_emulate 54 = .ok (.bipush 11, 2) := by decide +kernel
theorem dX16_emulate_56 : decode cX16_emulate 56 = .ok (.aload_n 0, 1) := by decide +kernel
theorem dX16_emulate_57 : decode cX16_emulate 57 = .ok (.getfield 16, 3) := by decide +kernel
theorem dX16_emulate_60 : decode cX16_emulate 60 = .ok (.iload_n 1, 1) := by decide +kernel
theorem dX16_emulate_61 : decode cX16_emulate 61 = .ok (.iaload, 1) := by decide +kernel
theorem dX16_emulate_62 : decode cX16_emulate 62 = .ok (.i2l, 1) := by decide +kernel
theorem dX16_emulate_63 : decode cX16_emulate 63 = .ok (.lastore, 1) := by decide +kernel
theorem dX16_emulate_64 : decode cX16_emulate 64 = .ok (.aload_n 0, 1) := by decide +kernel
theorem dX16_emulate_65 : decode cX16_emulate 65 = .ok (.getfield 62, 3) := by decide +kernel
theorem dX16_emulate_68 : decode cX16_emulate 68 = .ok (.bipush 22, 2) := by decide +kernel
theorem dX16_emulate_70 : decode cX16_emulate 70 = .ok (.ldc2_w 731, 3) := by decide +kernel
theorem dX16_emulate_73 : decode cX16_emulate 73 = .ok (.lastore, 1) := by decide +kernel
theorem dX16_emulate_74 : decode cX16_emulate 74 = .ok (.lconst 0, 1) := by decide +kernel
theorem dX16_emulate_75 : decode cX16_emulate 75 = .ok (.lstore_n 2, 1) := by decide +kernel
theorem dX16_emulate_76 : decode cX16_emulate 76 = .ok (.iconst 0, 1) := by decide +kernel
theorem dX16_emulate_77 : decode cX16_emulate 77 = .ok (.istore 4, 2) := by decide +kernel
theorem dX16_emulate_79 : decode cX16_emulate 79 = .ok (.iload 4, 2) := by decide +kernel
theorem dX16_emulate_81 : decode cX16_emulate 81 = .ok (.ifCond .ne 166, 3) := by decide +kernel
theorem dX16_emulate_84 : decode cX16_emulate 84 = .ok (.aload_n 0, 1) := by decide +kernel
theorem dX16_emulate_85 : decode cX16_emulate 85 = .ok (.lload_n 2, 1) := by decide +kernel
theorem dX16_emulate_86 : decode cX16_emulate 86 = .ok (.ldc2_w 486, 3) := by decide +kernel
theorem dX16_emulate_89 : decode cX16_emulate 89 = .ok (.ldiv, 1) := by decide +kernel
theorem dX16_emulate_90 : decode cX16_emulate 90 = .ok (.l2i, 1) := by decide +kernel
theorem dX16_emulate_91 : decode cX16_emulate 91 = .ok (.putfield 739, 3) := by decide +kernel
theorem dX16_emulate_94 : decode cX16_emulate 94 = .ok (.aload_n 0, 1) := by decide +kernel
theorem dX16_emulate_95 : decode cX16_emulate 95 = .ok (.getfield 736, 3) := by decide +kernel
theorem dX16_emulate_98 : decode cX16_emulate 98 = .ok (.ldc_w 1075, 3) := by decide +kernel
theorem dX16_emulate_101 : decode cX16_emulate 101 = .ok (.if_icmp .ne 11, 3) := by decide +kernel
theorem dX16_emulate_104 : decode cX16_emulate 104 = .ok (.aload_n 0, 1) := by decide +kernel
theorem dX16_emulate_105 : decode cX16_emulate 105 = .ok (.bipush 9, 2) := by decide +kernel
theorem dX16_emulate_107 : decode cX16_emulate 107 = .ok (.putfield 733, 3) := by decide +kernel
theorem dX16_emulate_110 : decode cX16_emulate 110 = .ok (.lconst 0, 1) := by decide +kernel
theorem dX16_emulate_111 : decode cX16_emulate 111 = .ok (.lreturn, 1) := by decide +kernel
theorem dX16_emulate_112 : decode cX16_emulate 112 = .ok (.aload_n 0, 1) := by decide +kernel
theorem dX16_emulate_113 : decode cX16_emulate 113 = .ok (.iload_n 1, 1) := by decide +kernel
theorem dX16_emulate_114 : decode cX16_emulate 114 = .ok (.aload_n 0, 1) := by decide +kernel
theorem dX16_emulate_115 : decode cX16_emulate 115 = .ok (.getfield 135, 3) := by decide +kernel
theorem dX16_emulate_118 : decode cX16_emulate 118 = .ok (.aload_n 0, 1) := by decide +kernel
theorem dX16_emulate_119 : decode cX16_emulate 119 = .ok (.getfield 739, 3) := by decide +kernel
theorem dX16_emulate_122 : decode cX16_emulate 122 = .ok (.iaload, 1) := by decide +kernel
theorem dX16_emulate_123 : decode cX16_emulate 123 = .ok (.lload_n 2, 1) := by decide +kernel
theorem dX16_emulate_124 : decode cX16_emulate 124 = .ok (.invokevirtual 1076, 3) := by decide +kernel
theorem dX16_emulate_127 : decode cX16_emulate 127 = .ok (.istore 4, 2) := by decide +kernel
theorem dX16_emulate_129 : decode cX16_emulate 129 = .ok (.iload 4, 2) := by decide +kernel
theorem dX16_emulate_131 : decode cX16_emulate 131 = .ok (.ifCond .ne 46, 3) := by decide +kernel
theorem dX16_emulate_134 : decode cX16_emulate 134 = .ok (.aload_n 0, 1) := by decide +kernel
theorem dX16_emulate_135 : decode cX16_emulate 135 = .ok (.getfield 1043, 3) := by decide +kernel
theorem dX16_emulate_138 : decode cX16_emulate 138 = .ok (.lconst 0, 1) := by decide +kernel
theorem dX16_emulate_139 : decode cX16_emulate 139 = .ok (.lcmp, 1) := by decide +kernel
theorem dX16_emulate_140 : decode cX16_emulate 140 = .ok (.ifCond .lt 33, 3) := by decide +kernel
theorem dX16_emulate_143 : decode cX16_emulate 143 = .ok (.aload_n 0, 1) := by decide +kernel
theorem dX16_emulate_144 : decode cX16_emulate 144 = .ok (.getfield 1043, 3) := by decide +kernel
theorem dX16_emulate_147 : decode cX16_emulate 147 = .ok (.ldc2_w 486, 3) := by decide +kernel
theorem dX16_emulate_150 : decode cX16_emulate 150 = .ok (.lrem, 1) := by decide +kernel
theorem dX16_emulate_151 : decode cX16_emulate 151 = .ok (.lconst 0, 1) := by decide +kernel
theorem dX16_emulate_152 : decode cX16_emulate 152 = .ok (.lcmp, 1) := by decide +kernel
theorem dX16_emulate_153 : decode cX16_emulate 153 = .ok (.ifCond .ne 20, 3) := by decide +kernel
theorem dX16_emulate_156 : decode cX16_emulate 156 = .ok (.aload_n 0, 1) := by decide +kernel
theorem dX16_emulate_157 : decode cX16_emulate 157 = .ok (.getfield 1043, 3) := by decide +kernel
theorem dX16_emulate_160 : decode cX16_emulate 160 = .ok (.ldc2_w 486, 3) := by decide +kernel
theorem dX16_emulate_163 : decode cX16_emulate 163 = .ok (.ldiv, 1) := by decide +kernel
theorem dX16_emulate_164 : decode cX16_emulate 164 = .ok (.aload_n 0, 1) := by decide +kernel
theorem dX16_emulate_165 : decode cX16_emulate 165 = .ok (.getfield 1017, 3) := by decide +kernel
theorem dX16_emulate_168 : decode cX16_emulate 168 = .ok (.i2l, 1) := by decide +kernel
theorem dX16_emulate_169 : decode cX16_emulate 169 = .ok (.lcmp, 1) := by decide +kernel
theorem dX16_emulate_170 : decode cX16_emulate 170 = .ok (.ifCond .lt 7, 3) := by decide +kernel
theorem dX16_emulate_173 : decode cX16_emulate 173 = .ok (.iconst 1, 1) := by decide +kernel
theorem dX16_emulate_174 : decode cX16_emulate 174 = .ok (.goto 4, 3) := by decide +kernel
theorem dX16_emulate_177 : decode cX16_emulate 177 = .ok (.iconst 0, 1) := by decide +kernel
theorem dX16_emulate_178 : decode cX16_emulate 178 = .ok (.istore 5, 2) := by decide +kernel
theorem dX16_emulate_180 : decode cX16_emulate 180 = .ok (.aload_n 0, 1) := by decide +kernel
theorem dX16_emulate_181 : decode cX16_emulate 181 = .ok (.getfield 1025, 3) := by decide +kernel
theorem dX16_emulate_184 : decode cX16_emulate 184 = .ok (.ifCond .ne 15, 3) := by decide +kernel
theorem dX16_emulate_187 : decode cX16_emulate 187 = .ok (.aload_n 0, 1) := by decide +kernel
theorem dX16_emulate_188 : decode cX16_emulate 188 = .ok (.getfield 1032, 3) := by decide +kernel
theorem dX16_emulate_191 : decode cX16_emulate 191 = .ok (.ifCond .ne 8, 3) := by decide +kernel
theorem dX16_emulate_194 : decode cX16_emulate 194 = .ok (.iload 5, 2) := by decide +kernel
theorem dX16_emulate_196 : decode cX16_emulate 196 = .ok (.ifCond .eq 33, 3) := by decide +kernel
theorem dX16_emulate_199 : decode cX16_emulate 199 = .ok (.aload_n 0, 1) := by decide +kernel
theorem dX16_emulate_200 : decode cX16_emulate 200 = .ok (.aload_n 0, 1) := by decide +kernel
theorem dX16_emulate_201 : decode cX16_emulate 201 = .ok (.getfield 1025, 3) := by decide +kernel
theorem dX16_emulate_204 : decode cX16_emulate 204 = .ok (.ifCond .eq 7, 3) := by decide +kernel
theorem dX16_emulate_207 : decode cX16_emulate 207 = .ok (.iconst 1, 1) := by decide +kernel
theorem dX16_emulate_208 : decode cX16_emulate 208 = .ok (.goto 16, 3) := by decide +kernel
theorem dX16_emulate_211 : decode cX16_emulate 211 = .ok (.aload_n 0, 1) := by decide +kernel
theorem dX16_emulate_212 : decode cX16_emulate 212 = .ok (.getfield 1032, 3) := by decide +kernel
theorem dX16_emulate_215 : decode cX16_emulate 215 = .ok (.ifCond .eq 8, 3) := by decide +kernel
theorem dX16_emulate_218 : decode cX16_emulate 218 = .ok (.bipush 7, 2) := by decide +kernel
theorem dX16_emulate_220 : decode cX16_emulate 220 = .ok (.goto 4, 3) := by decide +kernel
theorem dX16_emulate_223 : decode cX16_emulate 223 = .ok (.iconst 2, 1) := by decide +kernel
theorem dX16_emulate_224 : decode cX16_emulate 224 = .ok (.putfield 733, 3) := by decide +kernel
theorem dX16_emulate_227 : decode cX16_emulate 227 = .ok (.lconst 0, 1) := by decide +kernel
theorem dX16_emulate_228 : decode cX16_emulate 228 = .ok (.lreturn, 1) := by decide +kernel
theorem dX16_emulate_229 : decode cX16_emulate 229 = .ok (.aload_n 0, 1) := by decide +kernel
theorem dX16_emulate_230 : decode cX16_emulate 230 = .ok (.dup, 1) := by decide +kernel
theorem dX16_emulate_231 : decode cX16_emulate 231 = .ok (.getfield 736, 3) := by decide +kernel
theorem dX16_emulate_234 : decode cX16_emulate 234 = .ok (.iconst 1, 1) := by decide +kernel
theorem dX16_emulate_235 : decode cX16_emulate 235 = .ok (.iadd, 1) := by decide +kernel
theorem dX16_emulate_236 : decode cX16_emulate 236 = .ok (.putfield 736, 3) := by decide +kernel
theorem dX16_emulate_239 : decode cX16_emulate 239 = .ok (.aload_n 0, 1) := by decide +kernel
theorem dX16_emulate_240 : decode cX16_emulate 240 = .ok (.getfield 1043, 3) := by decide +kernel
theorem dX16_emulate_243 : decode cX16_emulate 243 = .ok (.lstore_n 2, 1) := by decide +kernel
theorem dX16_emulate_244 : decode cX16_emulate 244 = .ok (.goto (-165), 3) := by decide +kernel
theorem dX16_emulate_247 : decode cX16_emulate 247 = .ok (.aload_n 0, 1) := by decide +kernel
theorem dX16_emulate_248 : decode cX16_emulate 248 = .ok (.getfield 62, 3) := by decide +kernel
theorem dX16_emulate_251 : decode cX16_emulate 251 = .ok (.bipush 10, 2) := by decide +kernel
theorem dX16_emulate_253 : decode cX16_emulate 253 = .ok (.laload, 1) := by decide +kernel
theorem dX16_emulate_254 : decode cX16_emulate 254 = .ok (.lreturn, 1) := by decide +kernel
theorem dX16_count_0 : decode cX16_count 0 = .ok (.iload_n 1, 1) := by decide +kernel
theorem dX16_count_1 : decode cX16_count 1 = .ok (.tableswitch 70 0 5 #[39, 44, 50, 55, 60, 65], 39) := by decide +kernel
theorem dX16_count_40 : decode cX16_count 40 = .ok (.aload_n 0, 1) := by decide +kernel
theorem dX16_count_41 : decode cX16_count 41 = .ok (.getfield 151, 3) := by decide +kernel
theorem dX16_count_44 : decode cX16_count 44 = .ok (.ireturn, 1) := by decide +kernel
theorem dX16_count_45 : decode cX16_count 45 = .ok (.aload_n 0, 1) := by decide +kernel
theorem dX16_count_46 : decode cX16_count 46 = .ok (.getfield 49, 3) := by decide +kernel
theorem dX16_count_49 : decode cX16_count 49 = .ok (.arraylength, 1) := by decide +kernel
theorem dX16_count_50 : decode cX16_count 50 = .ok (.ireturn, 1) := by decide +kernel
theorem dX16_count_51 : decode cX16_count 51 = .ok (.aload_n 0, 1) := by decide +kernel
theorem dX16_count_52 : decode cX16_count 52 = .ok (.getfield 1017, 3) := by decide +kernel
theorem dX16_count_55 : decode cX16_count 55 = .ok (.ireturn, 1) := by decide +kernel
theorem dX16_count_56 : decode cX16_count 56 = .ok (.aload_n 0, 1) := by decide +kernel
theorem dX16_count_57 : decode cX16_count 57 = .ok (.getfield 144, 3) := by decide +kernel
theorem dX16_count_60 : decode cX16_count 60 = .ok (.ireturn, 1) := by decide +kernel
theorem dX16_count_61 : decode cX16_count 61 = .ok (.aload_n 0, 1) := by decide +kernel
theorem dX16_count_62 : decode cX16_count 62 = .ok (.getfield 490, 3) := by decide +kernel
theorem dX16_count_65 : decode cX16_count 65 = .ok (.ireturn, 1) := by decide +kernel
theorem dX16_count_66 : decode cX16_count 66 = .ok (.aload_n 0, 1) := by decide +kernel
theorem dX16_count_67 : decode cX16_count 67 = .ok (.getfield 646, 3) := by decide +kernel
theorem dX16_count_70 : decode cX16_count 70 = .ok (.ireturn, 1) := by decide +kernel
theorem dX16_count_71 : decode cX16_count 71 = .ok (.iconst (-1), 1) := by decide +kernel
theorem dX16_count_72 : decode cX16_count 72 = .ok (.ireturn, 1) := by decide +kernel
end
section
/-! ===== BEGIN words of one list among another's, by their places ===== -/
theorem goodIn_r {big : List Cond} (ws : List Cond) (ps : List Nat) (hp : ws = ps.filterMap (fun i => big[i]?)) (h : ws.all goodWord = true) : GoodIn big ws := by
  intro w hw
  have h1 := List.all_eq_true.mp h w hw
  rw [hp] at hw
  obtain ⟨i, -, hi⟩ := List.mem_filterMap.mp hw
  have hm : w ∈ big := by first | exact List.mem_of_getElem? hi | exact List.getElem?_mem hi
  exact ⟨hm, good_of_word h1⟩
theorem goodIn_app {big a b : List Cond} (ha : GoodIn big a) (hb : GoodIn big b) : GoodIn big (a ++ b) := fun w h => (List.mem_append.mp h).elim (ha w) (hb w)
theorem goodIn_ca {big a b : List Cond} {c : Cond} (ha : GoodIn big (c :: a)) (hb : GoodIn big b) : GoodIn big (c :: (a ++ b)) := fun w h => (List.mem_cons.mp h).elim (fun e => ha w (List.mem_cons.mpr (Or.inl e))) (fun h => (List.mem_append.mp h).elim (fun h => ha w (List.mem_cons.mpr (Or.inr h))) (hb w))
theorem goodIn_sub {big ws : List Cond} (hm : ∀ w ∈ ws, w ∈ big) (h : ws.all goodWord = true) : GoodIn big ws := fun w hw => ⟨hm w hw, good_of_word (List.all_eq_true.mp h w hw)⟩
/-! ===== END ===== -/
/-! the words of the tables as one premise; worlds over one list of classes and of array classes; calls and ends in few rows -/
def dcW (w : Cond) : Bool := match w with
  | .declares _ => true
  | .castable _ _ => true
  | _ => false
def okW (w : Cond) : Bool := (goodWord w || (w.onTables && w.keepsH)) || dcW w
def nwOK (U : State) : Prop := (∀ w ∈ lw_tbl, okW w = true → w.before #[] U = true) ∧ (∀ (own : String) (k : Nat) (tx : String), Cond.stringRef own k tx ∈ tables_1 → ∃ a : Nat, vk_R own k tx a U) ∧ va_AO "FilterForge$Fact" U ∧ va_AO "FilterForgeModel$Filter" U ∧ va_AO "FilterForgeModel$Sum" U
theorem okW_at {args a' : Array Value} {s U : State} (hW : s.WarmedH U.vm) {w : Cond} (ho : okW w = true) (h : w.before args s = true) : w.before a' U = true := by
  rcases (Bool.or_eq_true _ _).mp ho with h0 | h0
  rcases (Bool.or_eq_true _ _).mp h0 with h1 | h1
  · exact word_at hW (good_of_word h1) h
  rotate_left
  · unfold dcW at h0
    split at h0
    · exact va_Nw.use rfl (va_Nw.warmD hW (va_Nw.of rfl h))
    · exact va_Nw.use rfl (va_Nw.warmC hW (va_Nw.of rfl h))
    · exact absurd h0 (by decide)
  · have h2 := (Bool.and_eq_true _ _).mp h1
    have h3 := Cond.onTables_warmH (args' := a') (T := U) hW h2.1 h2.2 h
    rwa [State.setVm_self] at h3
theorem nwOK.warm {s U : State} (hW : s.WarmedH U.vm) (h : nwOK s) : nwOK U := ⟨fun w hm ho => okW_at hW ho (h.1 w hm ho), fun own k tx hm => by
  obtain ⟨a, ha⟩ := h.2.1 own k tx hm
  exact ⟨a, vk_R.warm hW ha⟩, h.2.2.1.moved hW.alike, h.2.2.2.1.moved hW.alike, h.2.2.2.2.moved hW.alike⟩
theorem nwOK.same {u U : State} (hv : U.vm = u.vm) (h : nwOK u) : nwOK U := h.warm (by rw [hv]; exact State.WarmedH.refl u)
theorem nwOK.get {s : State} (h : nwOK s) {args : Array Value} {w : Cond} (hm : w ∈ lw_tbl) (ho : okW w = true) : w.before args s = true := okW_at (State.WarmedH.refl s) ho (h.1 w hm ho)
abbrev TY (ct : Nat → ClassId) : List (ClassId × FieldType) := [(ct 0, .byte), (ct 1, .int), (ct 2, .long), (ct 3, .boolean), (ct 4, .object "FilterForge$Fact"), (ct 5, .object "FilterForgeModel$Filter"), (ct 6, .object "FilterForgeModel$Sum")]
def PreC (D : va_G) (ct : Nat → ClassId) (ws : va_W) (sz : Nat) (U : State) : Prop := U.heap.size = sz ∧ va_P D vwCl ws U.heap ∧ va_K D vwCl (TY ct) U ∧ va_D (fun _ => True) ws ∧ nwOK U
def PoC {S : Type} (D : va_G) (A : Nat → Prop) (w1 : S → va_W) : S → State → Prop := fun u t => va_P D vwCl (w1 u) t.heap ∧ va_D A (w1 u)
theorem blindC {av : List Value} {D : va_G} {ct : Nat → ClassId} {wc : va_W} {sz : Nat} : FrameBlind (va_Pc av (PreC D ct wc sz)) := fun a U g mk q => by
  obtain ⟨q0, q1, q2, q3, q4, q5⟩ := q
  exact ⟨q0, q1, q2, va_K.moved (u := U) (U := U.calling g mk a) (Vm.Alike.refl U.vm) q3, q4, nwOK.same (u := U) rfl q5⟩
theorem preC_of {s : State} {H : Heap} {av : List Value} {D : va_G} {ct : Nat → ClassId} {wc : va_W} {A : Nat → Prop} (hP : va_P D vwCl wc H) (hK : va_K D vwCl (TY ct) s) (hD : va_D A wc) (hn : nwOK s) : ∀ U : State, U.heap = H → s.WarmedH U.vm → va_Pc av (PreC D ct wc H.size) av.toArray U := fun U hU hW =>
  ⟨rfl, by rw [hU], by rw [hU]; exact hP, va_K.moved hW.alike hK, hD.weaken (fun _ _ _ _ => trivial), hn.warm hW⟩
/-- contracts: of void, int, long, a reference -/
abbrev KV {S : Type} (l : Launch) (y : MethodName) (b : ByteArray) (nL : Nat) (ret : Option FieldType) (fr lo : Nat) (D : va_G) (ct : Nat → ClassId) (av : List Value) (wc : va_W) (mc ms : Nat) (post : S → Prop) (w1 : S → va_W) : Prop :=
  ∀ sz : Nat, Met l y [Cond.code y b nL ret] ({ frames := fr, cells := mc, slots := ms, locals := lo }) (va_Pc av (PreC D ct wc sz)) (va_Qv post (PoC D (va_A wc sz) w1) (va_A wc sz)) mc ms (va_A wc sz)
abbrev KI {S : Type} (l : Launch) (y : MethodName) (b : ByteArray) (nL : Nat) (ret : Option FieldType) (fr lo : Nat) (D : va_G) (ct : Nat → ClassId) (av : List Value) (wc : va_W) (mc ms : Nat) (post : Int32 → S → Prop) (w1 : S → va_W) : Prop :=
  ∀ sz : Nat, Met l y [Cond.code y b nL ret] ({ frames := fr, cells := mc, slots := ms, locals := lo }) (va_Pc av (PreC D ct wc sz)) (va_Qi post (PoC D (va_A wc sz) w1) (va_A wc sz)) mc ms (va_A wc sz)
abbrev KL {S : Type} (l : Launch) (y : MethodName) (b : ByteArray) (nL : Nat) (ret : Option FieldType) (fr lo : Nat) (D : va_G) (ct : Nat → ClassId) (av : List Value) (wc : va_W) (mc ms : Nat) (post : Int64 → S → Prop) (w1 : S → va_W) : Prop :=
  ∀ sz : Nat, Met l y [Cond.code y b nL ret] ({ frames := fr, cells := mc, slots := ms, locals := lo }) (va_Pc av (PreC D ct wc sz)) (va_Ql post (PoC D (va_A wc sz) w1) (va_A wc sz)) mc ms (va_A wc sz)
/-- what a method's walk begins with -/
def CxB (p : Program) (s : State) (m : MethodId) (meth : Method) (c : Code) (y : MethodName) (b : ByteArray) (nL : Nat) (ret : Option FieldType) (D : va_G) (ct : Nat → ClassId) : Prop :=
  p.tables.exec = Jvm.exec ∧ c.code = b ∧ meth.sig.returnType = ret ∧ s.vm.findClass y.cls = some m.cls ∧ meth.name = y.name ∧ c.maxLocals = nL ∧ meth.locks = false ∧ nwOK s ∧ va_K D vwCl (TY ct) s
theorem K_of {l : Launch} {y : MethodName} {b : ByteArray} {nL : Nat} {ret : Option FieldType} {fr lo mc ms : Nat} {D : va_G} {ct : Nat → ClassId} {av : List Value} {wc : va_W} {Qf : (Nat → Prop) → Array Value → State → Outcome → State → Prop} (sz : Nat) (hy : plainName y.cls = true) (hlen : (lg_sl av).length ≤ nL)
    (body : ∀ (p : Program) (e : Env) (s : State) (m : MethodId) (below : List Frame) (meth : Method) (c : Code) (A : Nat → Prop), CxB p s m meth c y b nL ret D ct → (∀ q, s.heap.size ≤ q → A q) → va_S A s.heap s.heap [] → va_P D vwCl wc s.heap → va_D A wc → ∀ ls : Array Slot, lv_has ls nL (lv_args 0 av) →
      W p l e ({ frames := fr, cells := mc, slots := ms, locals := lo }) s m av.toArray below meth c s.heap [] 0 0 (MQ below (Qf A) av.toArray s mc ms A) (F0 m 0 ls [])) :
    Met l y [Cond.code y b nL ret] ({ frames := fr, cells := mc, slots := ms, locals := lo }) (va_Pc av (PreC D ct wc sz)) (Qf (va_A wc sz)) mc ms (va_A wc sz) := by
  refine Met.ofW (cc := b) (maxL := nL) (ret := ret) hy rfl ?_
  intro p e s m args below meth c s₁ B hml hv
  obtain ⟨rfl, hsz, hP, hK, hD0, hn⟩ := hv
  have hown : s.vm.findClass y.cls = some m.cls := findClass_of_methodNamed B.named
  have hin : meth.name = y.name := (name_of_methodNamed B.named B.method).1
  subst hsz
  have hD := hD0.self (sz := s.heap.size)
  have hl := lv_entry av (n := nL) hlen
  rw [lg_entry_eq]
  exact body p e s m below meth c (va_A wc s.heap.size) ⟨B.exec, B.bytes, B.returns, hown, hin, hml, B.notSynchronized, hn, hK⟩ (fun q h => Or.inr h) va_S.rf hP hD _ hl
theorem KV_of {S : Type} {l : Launch} {y : MethodName} {b : ByteArray} {nL : Nat} {ret : Option FieldType} {fr lo mc ms : Nat} {D : va_G} {ct : Nat → ClassId} {av : List Value} {wc : va_W} {post : S → Prop} {w1 : S → va_W} (hy : plainName y.cls = true) (hlen : (lg_sl av).length ≤ nL)
    (body : ∀ (p : Program) (e : Env) (s : State) (m : MethodId) (below : List Frame) (meth : Method) (c : Code) (A : Nat → Prop), CxB p s m meth c y b nL ret D ct → (∀ q, s.heap.size ≤ q → A q) → va_S A s.heap s.heap [] → va_P D vwCl wc s.heap → va_D A wc → ∀ ls : Array Slot, lv_has ls nL (lv_args 0 av) →
      W p l e ({ frames := fr, cells := mc, slots := ms, locals := lo }) s m av.toArray below meth c s.heap [] 0 0 (MQ below (va_Qv post (PoC D A w1) A) av.toArray s mc ms A) (F0 m 0 ls [])) :
    KV l y b nL ret fr lo D ct av wc mc ms post w1 := fun sz => K_of (Qf := fun A => va_Qv post (PoC D A w1) A) sz hy hlen body
theorem KI_of {S : Type} {l : Launch} {y : MethodName} {b : ByteArray} {nL : Nat} {ret : Option FieldType} {fr lo mc ms : Nat} {D : va_G} {ct : Nat → ClassId} {av : List Value} {wc : va_W} {post : Int32 → S → Prop} {w1 : S → va_W} (hy : plainName y.cls = true) (hlen : (lg_sl av).length ≤ nL)
    (body : ∀ (p : Program) (e : Env) (s : State) (m : MethodId) (below : List Frame) (meth : Method) (c : Code) (A : Nat → Prop), CxB p s m meth c y b nL ret D ct → (∀ q, s.heap.size ≤ q → A q) → va_S A s.heap s.heap [] → va_P D vwCl wc s.heap → va_D A wc → ∀ ls : Array Slot, lv_has ls nL (lv_args 0 av) →
      W p l e ({ frames := fr, cells := mc, slots := ms, locals := lo }) s m av.toArray below meth c s.heap [] 0 0 (MQ below (va_Qi post (PoC D A w1) A) av.toArray s mc ms A) (F0 m 0 ls [])) :
    KI l y b nL ret fr lo D ct av wc mc ms post w1 := fun sz => K_of (Qf := fun A => va_Qi post (PoC D A w1) A) sz hy hlen body
theorem KL_of {S : Type} {l : Launch} {y : MethodName} {b : ByteArray} {nL : Nat} {ret : Option FieldType} {fr lo mc ms : Nat} {D : va_G} {ct : Nat → ClassId} {av : List Value} {wc : va_W} {post : Int64 → S → Prop} {w1 : S → va_W} (hy : plainName y.cls = true) (hlen : (lg_sl av).length ≤ nL)
    (body : ∀ (p : Program) (e : Env) (s : State) (m : MethodId) (below : List Frame) (meth : Method) (c : Code) (A : Nat → Prop), CxB p s m meth c y b nL ret D ct → (∀ q, s.heap.size ≤ q → A q) → va_S A s.heap s.heap [] → va_P D vwCl wc s.heap → va_D A wc → ∀ ls : Array Slot, lv_has ls nL (lv_args 0 av) →
      W p l e ({ frames := fr, cells := mc, slots := ms, locals := lo }) s m av.toArray below meth c s.heap [] 0 0 (MQ below (va_Ql post (PoC D A w1) A) av.toArray s mc ms A) (F0 m 0 ls [])) :
    KL l y b nL ret fr lo D ct av wc mc ms post w1 := fun sz => K_of (Qf := fun A => va_Ql post (PoC D A w1) A) sz hy hlen body
section CALLS
variable {p : Program} {l : Launch} {e : Env} {R : Room} {s : State} {m : MethodId} {args : Array Value} {below : List Frame} {meth : Method} {c : Code} {H H0 : Heap} {locs : List Loc} {cells slots : Nat} {Q : State → Prop} {A : Nat → Prop}
variable {D : va_G} {ct : Nat → ClassId} {ws wc wr : va_W} {own : String} {index nL maxL mc ms fr lo n k1 n1 pc : Nat} {y : MethodName} {bytes cc : ByteArray} {ret : Option FieldType} {b : Addr} {As rest : List Value} {ls : Array Slot} {Qc : Array Value → State → Outcome → State → Prop} {free : Addr → Prop}
abbrev okMH (y : MethodName) (n : Nat) : Prop := y.cls ≠ "java/lang/invoke/MethodHandle" ∧ y.cls ≠ "java/lang/invoke/VarHandle" ∧ (parseMethodDescriptor y.desc).map (fun d => d.parameters.length) = some n
theorem cb_of (hn : nwOK s) (hcode : Cond.code y bytes maxL ret ∈ lw_tbl) (hini : Cond.initialized y.cls ∈ lw_tbl) (hl : Cond.methodLink own index y ∈ lw_tbl) (hd : okMH y n) (hR : fr + 1 ≤ R.frames ∧ 8 + (maxL + 11) + lo ≤ R.locals) :
    CallB R s args own index y bytes maxL ret [Cond.code y bytes maxL ret] ({ frames := fr, cells := mc, slots := ms, locals := lo }) mc ms n := by
  refine ⟨rfl, rfl, hR.1, hR.2, fun w hw a' U hW => ?_, List.mem_cons_self, hn.get hcode rfl, hn.get hini rfl, ⟨hd.1, hd.2.1⟩, fun sig h => ?_, hn.get hl rfl⟩
  · have hw' : w = Cond.code y bytes maxL ret := by simpa using hw
    subst hw'
    exact okW_at hW rfl (hn.get (args := args) hcode rfl)
  · have h2 := hd.2.2
    rw [h] at h2
    exact (Option.some.inj h2).symm
theorem cn_of {host : String} (hn : nwOK s) (hcode : Cond.code y bytes maxL ret ∈ lw_tbl) (hini : Cond.initialized y.cls ∈ lw_tbl) (hl : Cond.methodLinkNest own index y host ∈ lw_tbl) (hd : okMH y n) (hR : fr + 1 ≤ R.frames ∧ 8 + (maxL + 11) + lo ≤ R.locals) :
    va_CN R s args own index y host bytes maxL ret [Cond.code y bytes maxL ret] ({ frames := fr, cells := mc, slots := ms, locals := lo }) mc ms n := by
  refine ⟨⟨rfl, rfl, hR.1, hR.2, fun w hw a' U hW => ?_, List.mem_cons_self⟩, hn.get hcode rfl, hn.get hini rfl, ⟨hd.1, hd.2.1⟩, fun sig h => ?_, hn.get hl rfl⟩
  · have hw' : w = Cond.code y bytes maxL ret := by simpa using hw
    subst hw'
    exact okW_at hW rfl (hn.get (args := args) hcode rfl)
  · have h2 := hd.2.2
    rw [h] at h2
    exact (Option.some.inj h2).symm
theorem fix0 (hx : p.tables.exec = Jvm.exec) (hb : c.code = cc) (hml : c.maxLocals = nL) (hown : s.vm.findClass own = some m.cls) : CallFix p m c cc nL s args [] own := ⟨hx, hb, hml, hown, fun _ h => absurd h List.not_mem_nil⟩
/-- a method of the same class, or a public one, by the receiver -/
theorem rn_V (hM : Met l y [Cond.code y bytes maxL ret] ({ frames := fr, cells := mc, slots := ms, locals := lo }) (va_Pc (Value.ref b :: As) (PreC D ct wc H.size)) Qc mc ms free)
    (cb : CallB R s args own index y bytes maxL ret [Cond.code y bytes maxL ret] ({ frames := fr, cells := mc, slots := ms, locals := lo }) mc ms n)
    (hx : p.tables.exec = Jvm.exec) (hb : c.code = cc) (hml : c.maxLocals = nL) (hown : s.vm.findClass own = some m.cls) (hn : nwOK s) (hK : va_K D vwCl (TY ct) s) (hP : va_P D vwCl wc H) (hD : va_D A wc)
    (hinst : Cond.instanceMethod y ∈ lw_tbl) (hsel : Cond.selects y.cls y y ∈ lw_tbl) {ci q0 : Nat} {q : vw_C} {fs : List Value} (hc : vwCl[ci]? = some q) (hq : q.1 = y.cls) (he : wc[q0]? = some (b, .inr (ci, fs)))
    (hln : As.length = n) (hsize : ls.size = nL) (hW : (rest.map fun v => v.category).sum ≤ 8) (hdg : decode cc pc = .ok (.invokevirtual index, 3)) (hf : cells + mc ≤ R.cells ∧ slots + ms ≤ R.slots) :
    va_Run p l e R s m args below meth c H locs cells slots mc ms (F0 m pc ls (As.reverse ++ .ref b :: rest)) rest (Qc (Value.ref b :: As).toArray) free := by
  refine va_runV (C := y.cls) (fix0 hx hb hml hown) hM ⟨cb, hn.get hinst rfl, hn.get hsel rfl⟩ ⟨blindC, ?_, preC_of hP hK hD hn⟩ rfl hln hsize rfl (lv_room hW) hdg hf
  have h := va_recv hK hP hc he
  rw [hq] at h
  exact h
/-- a private method of a nest mate -/
theorem rn_VN {host : String} (hM : Met l y [Cond.code y bytes maxL ret] ({ frames := fr, cells := mc, slots := ms, locals := lo }) (va_Pc (Value.ref b :: As) (PreC D ct wc H.size)) Qc mc ms free)
    (cb : va_CN R s args own index y host bytes maxL ret [Cond.code y bytes maxL ret] ({ frames := fr, cells := mc, slots := ms, locals := lo }) mc ms n)
    (hx : p.tables.exec = Jvm.exec) (hb : c.code = cc) (hml : c.maxLocals = nL) (hown : s.vm.findClass own = some m.cls) (hn : nwOK s) (hK : va_K D vwCl (TY ct) s) (hP : va_P D vwCl wc H) (hD : va_D A wc)
    (hinst : Cond.instanceMethod y ∈ lw_tbl) (hsel : Cond.selects y.cls y y ∈ lw_tbl) {ci q0 : Nat} {q : vw_C} {fs : List Value} (hc : vwCl[ci]? = some q) (hq : q.1 = y.cls) (he : wc[q0]? = some (b, .inr (ci, fs)))
    (hln : As.length = n) (hsize : ls.size = nL) (hW : (rest.map fun v => v.category).sum ≤ 8) (hdg : decode cc pc = .ok (.invokevirtual index, 3)) (hf : cells + mc ≤ R.cells ∧ slots + ms ≤ R.slots) :
    va_Run p l e R s m args below meth c H locs cells slots mc ms (F0 m pc ls (As.reverse ++ .ref b :: rest)) rest (Qc (Value.ref b :: As).toArray) free := by
  refine va_runVN (C := y.cls) (fix0 hx hb hml hown) hM ⟨cb, hn.get hinst rfl, hn.get hsel rfl⟩ ⟨blindC, ?_, preC_of hP hK hD hn⟩ rfl hln hsize rfl (lv_room hW) hdg hf
  have h := va_recv hK hP hc he
  rw [hq] at h
  exact h
theorem rn_S (hM : Met l y [Cond.code y bytes maxL ret] ({ frames := fr, cells := mc, slots := ms, locals := lo }) (va_Pc As (PreC D ct wc H.size)) Qc mc ms free)
    (cb : CallB R s args own index y bytes maxL ret [Cond.code y bytes maxL ret] ({ frames := fr, cells := mc, slots := ms, locals := lo }) mc ms n)
    (hx : p.tables.exec = Jvm.exec) (hb : c.code = cc) (hml : c.maxLocals = nL) (hown : s.vm.findClass own = some m.cls) (hn : nwOK s) (hK : va_K D vwCl (TY ct) s) (hP : va_P D vwCl wc H) (hD : va_D A wc)
    (hstat : Cond.static y ∈ lw_tbl) (hln : As.length = n) (hsize : ls.size = nL) (hW : (rest.map fun v => v.category).sum ≤ 8) (hdg : decode cc pc = .ok (.invokestatic index, 3)) (hf : cells + mc ≤ R.cells ∧ slots + ms ≤ R.slots) :
    va_Run p l e R s m args below meth c H locs cells slots mc ms (F0 m pc ls (As.reverse ++ rest)) rest (Qc As.toArray) free :=
  va_runS (fix0 hx hb hml hown) hM ⟨cb, hn.get hstat rfl⟩ ⟨blindC, preC_of hP hK hD hn⟩ rfl hln hsize rfl (lv_room hW) hdg hf
theorem rn_SN {host : String} (hM : Met l y [Cond.code y bytes maxL ret] ({ frames := fr, cells := mc, slots := ms, locals := lo }) (va_Pc As (PreC D ct wc H.size)) Qc mc ms free)
    (cb : va_CN R s args own index y host bytes maxL ret [Cond.code y bytes maxL ret] ({ frames := fr, cells := mc, slots := ms, locals := lo }) mc ms n)
    (hx : p.tables.exec = Jvm.exec) (hb : c.code = cc) (hml : c.maxLocals = nL) (hown : s.vm.findClass own = some m.cls) (hn : nwOK s) (hK : va_K D vwCl (TY ct) s) (hP : va_P D vwCl wc H) (hD : va_D A wc)
    (hstat : Cond.static y ∈ lw_tbl) (hln : As.length = n) (hsize : ls.size = nL) (hW : (rest.map fun v => v.category).sum ≤ 8) (hdg : decode cc pc = .ok (.invokestatic index, 3)) (hf : cells + mc ≤ R.cells ∧ slots + ms ≤ R.slots) :
    va_Run p l e R s m args below meth c H locs cells slots mc ms (F0 m pc ls (As.reverse ++ rest)) rest (Qc As.toArray) free :=
  va_runSN (fix0 hx hb hml hown) hM ⟨cb, hn.get hstat rfl, trivial⟩ ⟨blindC, preC_of hP hK hD hn⟩ rfl hln hsize rfl (lv_room hW) hdg hf
theorem rn_I (hM : Met l y [Cond.code y bytes maxL none] ({ frames := fr, cells := mc, slots := ms, locals := lo }) (va_Pc (Value.ref b :: As) (PreC D ct wc H.size)) Qc mc ms free)
    (cb : CallB R s args own index y bytes maxL none [Cond.code y bytes maxL none] ({ frames := fr, cells := mc, slots := ms, locals := lo }) mc ms n)
    (hx : p.tables.exec = Jvm.exec) (hb : c.code = cc) (hml : c.maxLocals = nL) (hown : s.vm.findClass own = some m.cls) (hn : nwOK s) (hK : va_K D vwCl (TY ct) s) (hP : va_P D vwCl wc H) (hD : va_D A wc)
    (hinst : Cond.instanceMethod y ∈ lw_tbl) (hin : y.name = "<init>") (hln : As.length = n) (hsize : ls.size = nL) (hW : (rest.map fun v => v.category).sum ≤ 8) (hdg : decode cc pc = .ok (.invokespecial index, 3)) (hf : cells + mc ≤ R.cells ∧ slots + ms ≤ R.slots) :
    va_Run p l e R s m args below meth c H locs cells slots mc ms (F0 m pc ls (As.reverse ++ .ref b :: rest)) rest (Qc (Value.ref b :: As).toArray) free :=
  va_runI (fix0 hx hb hml hown) hM ⟨cb, hin, hn.get hinst rfl⟩ ⟨blindC, preC_of hP hK hD hn⟩ rfl hln hsize rfl (lv_room hW) hdg hf
theorem rn_IN {host : String} (hM : Met l y [Cond.code y bytes maxL none] ({ frames := fr, cells := mc, slots := ms, locals := lo }) (va_Pc (Value.ref b :: As) (PreC D ct wc H.size)) Qc mc ms free)
    (cb : va_CN R s args own index y host bytes maxL none [Cond.code y bytes maxL none] ({ frames := fr, cells := mc, slots := ms, locals := lo }) mc ms n)
    (hx : p.tables.exec = Jvm.exec) (hb : c.code = cc) (hml : c.maxLocals = nL) (hown : s.vm.findClass own = some m.cls) (hn : nwOK s) (hK : va_K D vwCl (TY ct) s) (hP : va_P D vwCl wc H) (hD : va_D A wc)
    (hinst : Cond.instanceMethod y ∈ lw_tbl) (hin : y.name = "<init>") (hln : As.length = n) (hsize : ls.size = nL) (hW : (rest.map fun v => v.category).sum ≤ 8) (hdg : decode cc pc = .ok (.invokespecial index, 3)) (hf : cells + mc ≤ R.cells ∧ slots + ms ≤ R.slots) :
    va_Run p l e R s m args below meth c H locs cells slots mc ms (F0 m pc ls (As.reverse ++ .ref b :: rest)) rest (Qc (Value.ref b :: As).toArray) free :=
  va_runIN (fix0 hx hb hml hown) hM ⟨cb, hin, hn.get hinst rfl⟩ ⟨blindC, preC_of hP hK hD hn⟩ rfl hln hsize rfl (lv_room hW) hdg hf
/-- behind the call: the callee's places isC of the world, the rest's isR -/
theorem go_v {S : Type} {post : S → Prop} {w1 : S → va_W} {a : Array Value} {st0 : List Value} (isC isR : List Nat) (hr : va_Run p l e R s m args below meth c H locs cells slots mc ms (F0 m pc ls st0) rest (va_Qv post (PoC D (va_A wc H.size) w1) (va_A wc H.size) a) (va_A wc H.size))
    (hP : va_P D vwCl ws H) (hD : va_D A ws) (hS : va_S A H0 H locs) (hA : ∀ q, H0.size ≤ q → A q) (hC : isC.map (fun i => ws[i]?) = wc.map some) (hR : isR.map (fun i => ws[i]?) = wr.map some) (hnd : va_nd isR = true) (hdis : ∀ i ∈ isR, i ∉ isC) (h1 : cells + mc ≤ k1) (h2 : slots + ms ≤ n1)
    (kk : ∀ (u : S) (H1 : Heap) (locs1 : List Loc), post u → va_P D vwCl (wr ++ w1 u) H1 → va_D A (wr ++ w1 u) → va_S A H0 H1 locs1 → W p l e R s m args below meth c H1 locs1 k1 n1 Q (F0 m (pc + 3) ls rest)) : W p l e R s m args below meth c H locs cells slots Q (F0 m pc ls st0) := by
  have hF := va_free hD hS hA isC hC
  refine va_callv hr hS (fun q _ h => hF q h) hF (fun u t H1 locs1 ht hvm hpost hB hsz hk hS1 => ?_)
  obtain ⟨hP1, hD1⟩ := hB
  rw [ht] at hP1
  obtain ⟨hP2, hD2⟩ := va_join hP hD isC isR hC hR hnd hdis hk hF hP1 hD1
  exact W.widen h1 h2 (kk u H1 locs1 hpost hP2 hD2 hS1)
theorem go_i {S : Type} {post : Int32 → S → Prop} {w1 : S → va_W} {a : Array Value} {st0 : List Value} (isC isR : List Nat) (hr : va_Run p l e R s m args below meth c H locs cells slots mc ms (F0 m pc ls st0) rest (va_Qi post (PoC D (va_A wc H.size) w1) (va_A wc H.size) a) (va_A wc H.size))
    (hP : va_P D vwCl ws H) (hD : va_D A ws) (hS : va_S A H0 H locs) (hA : ∀ q, H0.size ≤ q → A q) (hC : isC.map (fun i => ws[i]?) = wc.map some) (hR : isR.map (fun i => ws[i]?) = wr.map some) (hnd : va_nd isR = true) (hdis : ∀ i ∈ isR, i ∉ isC) (h1 : cells + mc ≤ k1) (h2 : slots + ms ≤ n1)
    (kk : ∀ (r : Int32) (u : S) (H1 : Heap) (locs1 : List Loc), post r u → va_P D vwCl (wr ++ w1 u) H1 → va_D A (wr ++ w1 u) → va_S A H0 H1 locs1 → W p l e R s m args below meth c H1 locs1 k1 n1 Q (F0 m (pc + 3) ls (.int r :: rest))) : W p l e R s m args below meth c H locs cells slots Q (F0 m pc ls st0) := by
  have hF := va_free hD hS hA isC hC
  refine va_calli hr hS (fun q _ h => hF q h) hF (fun r u t H1 locs1 ht hvm hpost hB hsz hk hS1 => ?_)
  obtain ⟨hP1, hD1⟩ := hB
  rw [ht] at hP1
  obtain ⟨hP2, hD2⟩ := va_join hP hD isC isR hC hR hnd hdis hk hF hP1 hD1
  exact W.widen h1 h2 (kk r u H1 locs1 hpost hP2 hD2 hS1)
theorem go_l {S : Type} {post : Int64 → S → Prop} {w1 : S → va_W} {a : Array Value} {st0 : List Value} (isC isR : List Nat) (hr : va_Run p l e R s m args below meth c H locs cells slots mc ms (F0 m pc ls st0) rest (va_Ql post (PoC D (va_A wc H.size) w1) (va_A wc H.size) a) (va_A wc H.size))
    (hP : va_P D vwCl ws H) (hD : va_D A ws) (hS : va_S A H0 H locs) (hA : ∀ q, H0.size ≤ q → A q) (hC : isC.map (fun i => ws[i]?) = wc.map some) (hR : isR.map (fun i => ws[i]?) = wr.map some) (hnd : va_nd isR = true) (hdis : ∀ i ∈ isR, i ∉ isC) (h1 : cells + mc ≤ k1) (h2 : slots + ms ≤ n1)
    (kk : ∀ (r : Int64) (u : S) (H1 : Heap) (locs1 : List Loc), post r u → va_P D vwCl (wr ++ w1 u) H1 → va_D A (wr ++ w1 u) → va_S A H0 H1 locs1 → W p l e R s m args below meth c H1 locs1 k1 n1 Q (F0 m (pc + 3) ls (.long r :: rest))) : W p l e R s m args below meth c H locs cells slots Q (F0 m pc ls st0) := by
  have hF := va_free hD hS hA isC hC
  refine va_calll hr hS (fun q _ h => hF q h) hF (fun r u t H1 locs1 ht hvm hpost hB hsz hk hS1 => ?_)
  obtain ⟨hP1, hD1⟩ := hB
  rw [ht] at hP1
  obtain ⟨hP2, hD2⟩ := va_join hP hD isC isR hC hR hnd hdis hk hF hP1 hD1
  exact W.widen h1 h2 (kk r u H1 locs1 hpost hP2 hD2 hS1)
/-- the ends -/
theorem end_v {S : Type} {post : S → Prop} {w1 : S → va_W} (hx : p.tables.exec = Jvm.exec) (hb : c.code = cc) (hr : meth.sig.returnType = none) (hlocks : meth.locks = false) (hdg : decode cc pc = .ok (.return_, 1)) (u : S) (hpost : post u) (hP : va_P D vwCl ws H) (hD : va_D A ws) (hS : va_S A s.heap H locs)
    (is : List Nat) (hs : is.filterMap (fun i => ws[i]?) = w1 u) (hnd : va_nd is = true) (hs2 : is.map (fun i => ws[i]?) = (w1 u).map some) (h1 : cells ≤ mc) (h2 : slots ≤ ms) : W p l e R s m args below meth c H locs cells slots (MQ below (va_Qv post (PoC D A w1) A) args s mc ms A) (F0 m pc ls []) := by
  refine W.widen h1 h2 ?_
  exact W.vret hx hb hr (fun t ht hW => ⟨⟨u, rfl, hpost, by rw [ht]; exact hP.sub is hs, hD.sub is hnd hs2⟩, hS.F ht⟩) hS.2.2 hdg
theorem end_i {S : Type} {post : Int32 → S → Prop} {w1 : S → va_W} {ty : FieldType} (hx : p.tables.exec = Jvm.exec) (hb : c.code = cc) (hr : meth.sig.returnType = some ty) (hlocks : meth.locks = false) (hdg : decode cc pc = .ok (.ireturn, 1)) {r : Int32} (hnar : narrow ty (.int r) = .int r) (u : S) (hpost : post r u) (hP : va_P D vwCl ws H) (hD : va_D A ws) (hS : va_S A s.heap H locs)
    (is : List Nat) (hs : is.filterMap (fun i => ws[i]?) = w1 u) (hnd : va_nd is = true) (hs2 : is.map (fun i => ws[i]?) = (w1 u).map some) (h1 : cells ≤ mc) (h2 : slots ≤ ms) : W p l e R s m args below meth c H locs cells slots (MQ below (va_Qi post (PoC D A w1) A) args s mc ms A) (F0 m pc ls [.int r]) := by
  refine W.widen h1 h2 ?_
  exact W.zret hx hb hr hnar (fun t ht hW => ⟨⟨r, u, rfl, hpost, by rw [ht]; exact hP.sub is hs, hD.sub is hnd hs2⟩, hS.F ht⟩) hS.2.2 hdg
theorem end_l {S : Type} {post : Int64 → S → Prop} {w1 : S → va_W} (hx : p.tables.exec = Jvm.exec) (hb : c.code = cc) (hr : meth.sig.returnType = some .long) (hlocks : meth.locks = false) (hdg : decode cc pc = .ok (.lreturn, 1)) {r : Int64} (u : S) (hpost : post r u) (hP : va_P D vwCl ws H) (hD : va_D A ws) (hS : va_S A s.heap H locs)
    (is : List Nat) (hs : is.filterMap (fun i => ws[i]?) = w1 u) (hnd : va_nd is = true) (hs2 : is.map (fun i => ws[i]?) = (w1 u).map some) (h1 : cells ≤ mc) (h2 : slots ≤ ms) : W p l e R s m args below meth c H locs cells slots (MQ below (va_Ql post (PoC D A w1) A) args s mc ms A) (F0 m pc ls [.long r]) := by
  refine W.widen h1 h2 ?_
  exact W.lret hx hb hr (fun t ht hW => ⟨⟨r, u, rfl, hpost, by rw [ht]; exact hP.sub is hs, hD.sub is hnd hs2⟩, hS.F ht⟩) hS.2.2 hdg
/-- a computed number that is known -/
theorem top_c {x v : Int32} (h : x = v) (k : W p l e R s m args below meth c H locs cells slots Q (F0 m pc ls (.int v :: rest))) : W p l e R s m args below meth c H locs cells slots Q (F0 m pc ls (.int x :: rest)) := by
  rw [h]; exact k
theorem top_l {x v : Int64} (h : x = v) (k : W p l e R s m args below meth c H locs cells slots Q (F0 m pc ls (.long v :: rest))) : W p l e R s m args below meth c H locs cells slots Q (F0 m pc ls (.long x :: rest)) := by
  rw [h]; exact k
/-- a new array, of the array class that the tables have -/
theorem na_ty {ty : FieldType} {a b : ClassId} (ha : va_RA s a ty) (hb : va_RA s b ty) : a = b := by
  cases ty with
  | object C =>
    obtain ⟨_, _, -, -, -, h1⟩ := ha
    obtain ⟨_, _, -, -, -, h2⟩ := hb
    exact Option.some.inj (h1.symm.trans h2)
  | _ => exact Option.some.inj (Eq.trans (Eq.symm ha) hb)
theorem na_new (hexec : p.tables.exec = Jvm.exec) (hb : c.code = cc) {atype : ArrayType} {ty : FieldType} (hn0 : nwOK s) (harr : Cond.arrayClass (newarray.typeOf atype) ∈ lw_tbl) (hty : newarray.typeOf atype = ty) (hK : va_K D vwCl (TY ct) s) (hP : va_P D vwCl ws H) (hD : va_D A ws) (hS : va_S A H0 H locs) (hA : ∀ q, H0.size ≤ q → A q)
    (t0 : Nat) {cX : ClassId} (ht : (TY ct)[t0]? = some (cX, ty)) {n : Int32} (N' : Nat) (a0 : vp_A) (ha : ∀ cA : ClassId, vp_cell cA a0 = arrV cA N' (fun _ => defaultValue ty)) (hn : ¬ n < 0) (hN : n.toNatClampNeg = N') (hbytes : N' * componentBytes ty ≤ 536870912) (h1 : cells + 1 ≤ k1) (h2 : slots + N' ≤ n1) (hcells : k1 ≤ R.cells) (hslots : n1 ≤ R.slots) (hdg : decode cc pc = .ok (.newarray atype, 2))
    (kk : ∀ (q : Nat) (H1 : Heap), va_P D vwCl (ws ++ [(q, .inl (cX, a0))]) H1 → va_D A (ws ++ [(q, .inl (cX, a0))]) → va_S A H0 H1 locs → W p l e R s m args below meth c H1 locs k1 n1 Q (F0 m (pc + 2) ls (.ref q :: rest))) : W p l e R s m args below meth c H locs cells slots Q (F0 m pc ls (.int n :: rest)) := by
  refine va_newa (a0 := a0) hexec hb (hn0.get harr rfl) hty hK hP hD hS hA ha hn hN hbytes (Nat.le_trans h1 hcells) (Nat.le_trans h2 hslots) hdg (fun q cA H1 hK1 hP1 hD1 hS1 => ?_)
  have e : cA = cX := na_ty (hK1.2 (TY ct).length (cA, ty) (by simp)).2 (hK.2 t0 (cX, ty) ht).2
  subst e
  exact W.widen h1 h2 (kk q H1 hP1 hD1 hS1)
theorem na_newq (hexec : p.tables.exec = Jvm.exec) (hb : c.code = cc) {C : String} (hn0 : nwOK s) (hown : s.vm.findClass own = some m.cls) (hclink : Cond.classLink own index C ∈ lw_tbl) (hover : va_AO C s) (hK : va_K D vwCl (TY ct) s) (hP : va_P D vwCl ws H) (hD : va_D A ws) (hS : va_S A H0 H locs) (hA : ∀ q, H0.size ≤ q → A q)
    (t0 : Nat) {cX : ClassId} (ht : (TY ct)[t0]? = some (cX, .object C)) {n : Int32} (N' : Nat) (hn : ¬ n < 0) (hN : n.toNatClampNeg = N') (hbytes : N' * 4 ≤ 536870912) (h1 : cells + 1 ≤ k1) (h2 : slots + N' ≤ n1) (hcells : k1 ≤ R.cells) (hslots : n1 ≤ R.slots) (hdg : decode cc pc = .ok (.anewarray index, 3))
    (kk : ∀ (q : Nat) (H1 : Heap), va_P D vwCl (ws ++ [(q, .inl (cX, N', .inr (.inr (.inr (.inr (fun _ => none))))))]) H1 → va_D A (ws ++ [(q, .inl (cX, N', .inr (.inr (.inr (.inr (fun _ => none))))))]) → va_S A H0 H1 locs → W p l e R s m args below meth c H1 locs k1 n1 Q (F0 m (pc + 3) ls (.ref q :: rest))) : W p l e R s m args below meth c H locs cells slots Q (F0 m pc ls (.int n :: rest)) := by
  refine va_newq hexec hb hown (hn0.get hclink rfl) hover hK hP hD hS hA hn hN hbytes (Nat.le_trans h1 hcells) (Nat.le_trans h2 hslots) hdg (fun q cA H1 hK1 hP1 hD1 hS1 => ?_)
  have e : cA = cX := na_ty (hK1.2 (TY ct).length (cA, .object C) (by simp)).2 (hK.2 t0 (cX, .object C) ht).2
  subst e
  exact W.widen h1 h2 (kk q H1 hP1 hD1 hS1)
end CALLS
/-! small facts of numbers -/
theorem nn_lt {x y : Int32} {a b : Nat} (hx : x = nI a) (hy : y = nI b) (ha : a < 2 ^ 31) (hb : b < 2 ^ 31) : x < y ↔ a < b := by
  subst hx; subst hy; exact nI_ltI ha hb
theorem nn_le {x y : Int32} {a b : Nat} (hx : x = nI a) (hy : y = nI b) (ha : a < 2 ^ 31) (hb : b < 2 ^ 31) : x ≤ y ↔ a ≤ b := by
  subst hx; subst hy; exact nI_leI ha hb
theorem nn_nlt {x y : Int32} {a b : Nat} (hx : x = nI a) (hy : y = nI b) (ha : a < 2 ^ 31) (hb : b < 2 ^ 31) (h : b ≤ a) : ¬ x < y := fun h1 => absurd ((nn_lt hx hy ha hb).mp h1) (Nat.not_lt.mpr h)
theorem nle_of_nlt {x y : Int32} (h : ¬ x < y) : y ≤ x := Int32.not_lt.mp h
theorem cmp_m1 {j : Int64} {z1 z2 : Int32} (e1 : z1 = lg_cmp j 0) (e2 : z2 = lg_cmp j (-1)) (h : ¬ z1 < 0) : ¬ z2 < 0 := by
  subst e1; subst e2
  intro h2
  have h3 : 0 ≤ lg_cmp j 0 := Int32.not_lt.mp h
  have h4 := (lg_cmp_ge j 0).mp h3
  have h5 : ¬ 0 ≤ lg_cmp j (-1) := Int32.not_le.mpr h2
  refine h5 ((lg_cmp_ge j (-1)).mpr ?_)
  rw [Int64.le_iff_toInt_le] at h4 ⊢
  have a : (0 : Int64).toInt = 0 := by decide
  have b : (-1 : Int64).toInt = -1 := by decide
  omega
theorem fs_ne {fs : List Value} {j k : Nat} {v w : Value} (h : j ≠ k) (hj : fs[j]? = some w) : (fs.set k v)[j]? = some w := by
  rw [List.getElem?_set_ne (fun e => h e.symm)]; exact hj
theorem fs_eq {fs : List Value} {k : Nat} {v : Value} (h : k < fs.length) : (fs.set k v)[k]? = some v := by
  rw [List.getElem?_set_self h]

theorem i_eq0 {n : Int32} (h1 : ¬ n < 0) (h2 : ¬ 0 < n) : n = 0 := Int32.le_antisymm (Int32.not_lt.mp h2) (Int32.not_lt.mp h1)
def exEnd (n : Int32) : Int32 := if n = 0 then 0 else -1
theorem exEnd_n {n : Int32} (h : n < 0) : -1 = exEnd n := by
  have : n ≠ 0 := fun e => by subst e; exact absurd h (by decide)
  simp [exEnd, this]
theorem exEnd_p {n : Int32} (h : ¬ n ≤ 0) : -1 = exEnd n := by
  have : n ≠ 0 := fun e => by subst e; exact h (by decide)
  simp [exEnd, this]
theorem exEnd_0 {n : Int32} (h1 : ¬ n < 0) (h2 : n ≤ 0) : n = exEnd n := by
  have := Int32.le_antisymm h2 (Int32.not_lt.mp h1)
  subst this; rfl
def exStack (i : Int32) : Int32 := if i < 0 then -1 else if i < 64 then 0 else -1
def exKnown (w : Int32) : Int64 := if w = 0 then -1 else 0
def exCount (w : Int32) : Int32 := if w.toInt < 0 ∨ 5 < w.toInt then -1 else 0
theorem sw_2 (x : Int32) : x = 0 ∨ x = 1 ∨ x = 2 ∨ (x.toInt < 0 ∨ 2 < x.toInt) := by
  by_cases h0 : x = 0
  · exact Or.inl h0
  by_cases h1 : x = 1
  · exact Or.inr (Or.inl h1)
  by_cases h2 : x = 2
  · exact Or.inr (Or.inr (Or.inl h2))
  have n0 : x.toInt ≠ 0 := fun h => h0 (Int32.toInt_inj.mp (h.trans (by decide)))
  have n1 : x.toInt ≠ 1 := fun h => h1 (Int32.toInt_inj.mp (h.trans (by decide)))
  have n2 : x.toInt ≠ 2 := fun h => h2 (Int32.toInt_inj.mp (h.trans (by decide)))
  exact Or.inr (Or.inr (Or.inr (by omega)))
theorem sw_5 (x : Int32) : x = 0 ∨ x = 1 ∨ x = 2 ∨ x = 3 ∨ x = 4 ∨ x = 5 ∨ (x.toInt < 0 ∨ 5 < x.toInt) := by
  by_cases h0 : x = 0
  · exact Or.inl h0
  by_cases h1 : x = 1
  · exact Or.inr (Or.inl h1)
  by_cases h2 : x = 2
  · exact Or.inr (Or.inr (Or.inl h2))
  by_cases h3 : x = 3
  · exact Or.inr (Or.inr (Or.inr (Or.inl h3)))
  by_cases h4 : x = 4
  · exact Or.inr (Or.inr (Or.inr (Or.inr (Or.inl h4))))
  by_cases h5 : x = 5
  · exact Or.inr (Or.inr (Or.inr (Or.inr (Or.inr (Or.inl h5)))))
  have n0 : x.toInt ≠ 0 := fun h => h0 (Int32.toInt_inj.mp (h.trans (by decide)))
  have n1 : x.toInt ≠ 1 := fun h => h1 (Int32.toInt_inj.mp (h.trans (by decide)))
  have n2 : x.toInt ≠ 2 := fun h => h2 (Int32.toInt_inj.mp (h.trans (by decide)))
  have n3 : x.toInt ≠ 3 := fun h => h3 (Int32.toInt_inj.mp (h.trans (by decide)))
  have n4 : x.toInt ≠ 4 := fun h => h4 (Int32.toInt_inj.mp (h.trans (by decide)))
  have n5 : x.toInt ≠ 5 := fun h => h5 (Int32.toInt_inj.mp (h.trans (by decide)))
  exact Or.inr (Or.inr (Or.inr (Or.inr (Or.inr (Or.inr (by omega))))))
theorem sw_18 (x : Int32) : x = 0 ∨ x = 1 ∨ x = 2 ∨ x = 3 ∨ x = 4 ∨ x = 5 ∨ x = 6 ∨ x = 7 ∨ x = 8 ∨ x = 9 ∨ x = 10 ∨ x = 11 ∨ x = 12 ∨ x = 13 ∨ x = 14 ∨ x = 15 ∨ x = 16 ∨ x = 17 ∨ x = 18 ∨ (x.toInt < 0 ∨ 18 < x.toInt) := by
  by_cases h0 : x = 0
  · exact Or.inl h0
  by_cases h1 : x = 1
  · exact Or.inr (Or.inl h1)
  by_cases h2 : x = 2
  · exact Or.inr (Or.inr (Or.inl h2))
  by_cases h3 : x = 3
  · exact Or.inr (Or.inr (Or.inr (Or.inl h3)))
  by_cases h4 : x = 4
  · exact Or.inr (Or.inr (Or.inr (Or.inr (Or.inl h4))))
  by_cases h5 : x = 5
  · exact Or.inr (Or.inr (Or.inr (Or.inr (Or.inr (Or.inl h5)))))
  by_cases h6 : x = 6
  · exact Or.inr (Or.inr (Or.inr (Or.inr (Or.inr (Or.inr (Or.inl h6))))))
  by_cases h7 : x = 7
  · exact Or.inr (Or.inr (Or.inr (Or.inr (Or.inr (Or.inr (Or.inr (Or.inl h7)))))))
  by_cases h8 : x = 8
  · exact Or.inr (Or.inr (Or.inr (Or.inr (Or.inr (Or.inr (Or.inr (Or.inr (Or.inl h8))))))))
  by_cases h9 : x = 9
  · exact Or.inr (Or.inr (Or.inr (Or.inr (Or.inr (Or.inr (Or.inr (Or.inr (Or.inr (Or.inl h9)))))))))
  by_cases h10 : x = 10
  · exact Or.inr (Or.inr (Or.inr (Or.inr (Or.inr (Or.inr (Or.inr (Or.inr (Or.inr (Or.inr (Or.inl h10))))))))))
  by_cases h11 : x = 11
  · exact Or.inr (Or.inr (Or.inr (Or.inr (Or.inr (Or.inr (Or.inr (Or.inr (Or.inr (Or.inr (Or.inr (Or.inl h11)))))))))))
  by_cases h12 : x = 12
  · exact Or.inr (Or.inr (Or.inr (Or.inr (Or.inr (Or.inr (Or.inr (Or.inr (Or.inr (Or.inr (Or.inr (Or.inr (Or.inl h12))))))))))))
  by_cases h13 : x = 13
  · exact Or.inr (Or.inr (Or.inr (Or.inr (Or.inr (Or.inr (Or.inr (Or.inr (Or.inr (Or.inr (Or.inr (Or.inr (Or.inr (Or.inl h13)))))))))))))
  by_cases h14 : x = 14
  · exact Or.inr (Or.inr (Or.inr (Or.inr (Or.inr (Or.inr (Or.inr (Or.inr (Or.inr (Or.inr (Or.inr (Or.inr (Or.inr (Or.inr (Or.inl h14))))))))))))))
  by_cases h15 : x = 15
  · exact Or.inr (Or.inr (Or.inr (Or.inr (Or.inr (Or.inr (Or.inr (Or.inr (Or.inr (Or.inr (Or.inr (Or.inr (Or.inr (Or.inr (Or.inr (Or.inl h15)))))))))))))))
  by_cases h16 : x = 16
  · exact Or.inr (Or.inr (Or.inr (Or.inr (Or.inr (Or.inr (Or.inr (Or.inr (Or.inr (Or.inr (Or.inr (Or.inr (Or.inr (Or.inr (Or.inr (Or.inr (Or.inl h16))))))))))))))))
  by_cases h17 : x = 17
  · exact Or.inr (Or.inr (Or.inr (Or.inr (Or.inr (Or.inr (Or.inr (Or.inr (Or.inr (Or.inr (Or.inr (Or.inr (Or.inr (Or.inr (Or.inr (Or.inr (Or.inr (Or.inl h17)))))))))))))))))
  by_cases h18 : x = 18
  · exact Or.inr (Or.inr (Or.inr (Or.inr (Or.inr (Or.inr (Or.inr (Or.inr (Or.inr (Or.inr (Or.inr (Or.inr (Or.inr (Or.inr (Or.inr (Or.inr (Or.inr (Or.inr (Or.inl h18))))))))))))))))))
  have n0 : x.toInt ≠ 0 := fun h => h0 (Int32.toInt_inj.mp (h.trans (by decide)))
  have n1 : x.toInt ≠ 1 := fun h => h1 (Int32.toInt_inj.mp (h.trans (by decide)))
  have n2 : x.toInt ≠ 2 := fun h => h2 (Int32.toInt_inj.mp (h.trans (by decide)))
  have n3 : x.toInt ≠ 3 := fun h => h3 (Int32.toInt_inj.mp (h.trans (by decide)))
  have n4 : x.toInt ≠ 4 := fun h => h4 (Int32.toInt_inj.mp (h.trans (by decide)))
  have n5 : x.toInt ≠ 5 := fun h => h5 (Int32.toInt_inj.mp (h.trans (by decide)))
  have n6 : x.toInt ≠ 6 := fun h => h6 (Int32.toInt_inj.mp (h.trans (by decide)))
  have n7 : x.toInt ≠ 7 := fun h => h7 (Int32.toInt_inj.mp (h.trans (by decide)))
  have n8 : x.toInt ≠ 8 := fun h => h8 (Int32.toInt_inj.mp (h.trans (by decide)))
  have n9 : x.toInt ≠ 9 := fun h => h9 (Int32.toInt_inj.mp (h.trans (by decide)))
  have n10 : x.toInt ≠ 10 := fun h => h10 (Int32.toInt_inj.mp (h.trans (by decide)))
  have n11 : x.toInt ≠ 11 := fun h => h11 (Int32.toInt_inj.mp (h.trans (by decide)))
  have n12 : x.toInt ≠ 12 := fun h => h12 (Int32.toInt_inj.mp (h.trans (by decide)))
  have n13 : x.toInt ≠ 13 := fun h => h13 (Int32.toInt_inj.mp (h.trans (by decide)))
  have n14 : x.toInt ≠ 14 := fun h => h14 (Int32.toInt_inj.mp (h.trans (by decide)))
  have n15 : x.toInt ≠ 15 := fun h => h15 (Int32.toInt_inj.mp (h.trans (by decide)))
  have n16 : x.toInt ≠ 16 := fun h => h16 (Int32.toInt_inj.mp (h.trans (by decide)))
  have n17 : x.toInt ≠ 17 := fun h => h17 (Int32.toInt_inj.mp (h.trans (by decide)))
  have n18 : x.toInt ≠ 18 := fun h => h18 (Int32.toInt_inj.mp (h.trans (by decide)))
  exact Or.inr (Or.inr (Or.inr (Or.inr (Or.inr (Or.inr (Or.inr (Or.inr (Or.inr (Or.inr (Or.inr (Or.inr (Or.inr (Or.inr (Or.inr (Or.inr (Or.inr (Or.inr (Or.inr (by omega)))))))))))))))))))
theorem lt_m1 {i : Int32} (h : ¬ i < 0) : -1 < i := by
  have h2 := Int32.not_lt.mp h
  rw [Int32.le_iff_toInt_le] at h2
  rw [Int32.lt_iff_toInt_lt]
  have a : (0 : Int32).toInt = 0 := by decide
  have b : (-1 : Int32).toInt = -1 := by decide
  omega
theorem vp_in_64 {i : Int32} (h : ¬ i < 0) (h2 : i < 64) : vp_in i 64 := by
  have h3 := Int32.not_lt.mp h
  rw [Int32.le_iff_toInt_le] at h3
  rw [Int32.lt_iff_toInt_lt] at h2
  have a : (0 : Int32).toInt = 0 := by decide
  have b : (64 : Int32).toInt = 64 := by decide
  exact vp_in_iff.mpr (by omega)
theorem vp_in_32 {i : Int32} (h : ¬ i < 0) (h2 : ¬ 32 ≤ i) : vp_in i 32 := by
  have h3 := Int32.not_lt.mp h
  rw [Int32.le_iff_toInt_le] at h3
  rw [Int32.le_iff_toInt_le] at h2
  have a : (0 : Int32).toInt = 0 := by decide
  have b : (32 : Int32).toInt = 32 := by decide
  exact vp_in_iff.mpr (by omega)
theorem okW_of {w : Cond} (h : (w.onTables && w.keeps) = true ∨ ∃ ty, w = .arrayClass ty) : okW w = true := by
  unfold okW
  rcases h with h | ⟨ty, rfl⟩
  · have : goodWord w = true := by
      cases w <;> first | rfl | exact h
    simp [this]
  · rfl
end
section
theorem mw_2 : Cond.initialized RX9 ∈ lw_tbl := List.mem_append_right _ (List.mem_of_getElem? (i := 2) (by decide +kernel))
theorem mw_3 : Cond.initialized RX6 ∈ lw_tbl := List.mem_append_right _ (List.mem_of_getElem? (i := 3) (by decide +kernel))
theorem mw_4 : Cond.initialized RX4 ∈ lw_tbl := List.mem_append_right _ (List.mem_of_getElem? (i := 4) (by decide +kernel))
theorem mw_5 : Cond.initialized RX5 ∈ lw_tbl := List.mem_append_right _ (List.mem_of_getElem? (i := 5) (by decide +kernel))
theorem mw_6 : Cond.initialized RX2 ∈ lw_tbl := List.mem_append_right _ (List.mem_of_getElem? (i := 6) (by decide +kernel))
theorem mw_7 : Cond.initialized RX7 ∈ lw_tbl := List.mem_append_right _ (List.mem_of_getElem? (i := 7) (by decide +kernel))
theorem mw_8 : Cond.initialized RX8 ∈ lw_tbl := List.mem_append_right _ (List.mem_of_getElem? (i := 8) (by decide +kernel))
theorem mw_9 : Cond.initialized RX0 ∈ lw_tbl := List.mem_append_right _ (List.mem_of_getElem? (i := 9) (by decide +kernel))
theorem mw_10 : Cond.initialized RX10 ∈ lw_tbl := List.mem_append_right _ (List.mem_of_getElem? (i := 10) (by decide +kernel))
theorem mw_11 : Cond.initialized RX3 ∈ lw_tbl := List.mem_append_right _ (List.mem_of_getElem? (i := 11) (by decide +kernel))
theorem mw_12 : Cond.initialized RX1 ∈ lw_tbl := List.mem_append_right _ (List.mem_of_getElem? (i := 12) (by decide +kernel))
theorem mw_13 : Cond.initialized RX16 ∈ lw_tbl := List.mem_append_right _ (List.mem_of_getElem? (i := 13) (by decide +kernel))
theorem mw_21 : Cond.initialized RX15 ∈ lw_tbl := List.mem_append_right _ (List.mem_of_getElem? (i := 21) (by decide +kernel))
theorem mw_32 : Cond.code yX11_init cX11_init 1 none ∈ lw_tbl := List.mem_append_right _ (List.mem_of_getElem? (i := 32) (by decide +kernel))
theorem mw_33 : Cond.methodLink RX11 1 Lib.objectInit ∈ lw_tbl := List.mem_append_right _ (List.mem_of_getElem? (i := 33) (by decide +kernel))
theorem mw_34 : Cond.instanceMethod Lib.objectInit ∈ lw_tbl := List.mem_append_right _ (List.mem_of_getElem? (i := 34) (by decide +kernel))
theorem mw_35 : Cond.code Lib.objectInit ⟨#[0xb1]⟩ 1 none ∈ lw_tbl := List.mem_append_right _ (List.mem_of_getElem? (i := 35) (by decide +kernel))
theorem mw_36 : Cond.classLink RX11 7 RX9 ∈ lw_tbl := List.mem_append_right _ (List.mem_of_getElem? (i := 36) (by decide +kernel))
theorem mw_37 : Cond.instantiable RX9 2 ∈ lw_tbl := List.mem_append_right _ (List.mem_of_getElem? (i := 37) (by decide +kernel))
theorem mw_38 : Cond.methodLinkNest RX11 9 yX9_init "FilterForge" ∈ lw_tbl := List.mem_append_right _ (List.mem_of_getElem? (i := 38) (by decide +kernel))
theorem mw_39 : Cond.instanceMethod yX9_init ∈ lw_tbl := List.mem_append_right _ (List.mem_of_getElem? (i := 39) (by decide +kernel))
theorem mw_40 : Cond.code yX9_init cX9_init 1 none ∈ lw_tbl := List.mem_append_right _ (List.mem_of_getElem? (i := 40) (by decide +kernel))
theorem mw_41 : Cond.methodLink RX9 1 Lib.objectInit ∈ lw_tbl := List.mem_append_right _ (List.mem_of_getElem? (i := 41) (by decide +kernel))
theorem mw_42 : Cond.fieldLink RX9 9 "FilterForge$Tape" "row" "[B" ∈ lw_tbl := List.mem_append_right _ (List.mem_of_getElem? (i := 42) (by decide +kernel))
theorem mw_43 : Cond.fieldLink RX9 13 "FilterForge$Tape" "length" "I" ∈ lw_tbl := List.mem_append_right _ (List.mem_of_getElem? (i := 43) (by decide +kernel))
theorem mw_44 : Cond.fieldLinkNest RX7 15 "FilterForge$Tape" "length" "I" "FilterForge" ∈ lw_tbl := List.mem_append_right _ (List.mem_of_getElem? (i := 44) (by decide +kernel))
theorem mw_45 : Cond.fieldLinkNest RX5 16 "FilterForge$Tape" "length" "I" "FilterForge" ∈ lw_tbl := List.mem_append_right _ (List.mem_of_getElem? (i := 45) (by decide +kernel))
theorem mw_46 : Cond.fieldLinkNest RX6 21 "FilterForge$Tape" "length" "I" "FilterForge" ∈ lw_tbl := List.mem_append_right _ (List.mem_of_getElem? (i := 46) (by decide +kernel))
theorem mw_47 : Cond.fieldLinkNest RX11 106 "FilterForge$Tape" "length" "I" "FilterForge" ∈ lw_tbl := List.mem_append_right _ (List.mem_of_getElem? (i := 47) (by decide +kernel))
theorem mw_48 : Cond.fieldLinkNest RX8 63 "FilterForge$Tape" "length" "I" "FilterForge" ∈ lw_tbl := List.mem_append_right _ (List.mem_of_getElem? (i := 48) (by decide +kernel))
theorem mw_54 : Cond.arrayClass .byte ∈ lw_tbl := List.mem_append_right _ (List.mem_of_getElem? (i := 54) (by decide +kernel))
theorem mw_55 : Cond.classLink RX11 16 RX6 ∈ lw_tbl := List.mem_append_right _ (List.mem_of_getElem? (i := 55) (by decide +kernel))
theorem mw_56 : Cond.instantiable RX6 3 ∈ lw_tbl := List.mem_append_right _ (List.mem_of_getElem? (i := 56) (by decide +kernel))
theorem mw_57 : Cond.methodLinkNest RX11 18 yX6_init "FilterForge" ∈ lw_tbl := List.mem_append_right _ (List.mem_of_getElem? (i := 57) (by decide +kernel))
theorem mw_58 : Cond.instanceMethod yX6_init ∈ lw_tbl := List.mem_append_right _ (List.mem_of_getElem? (i := 58) (by decide +kernel))
theorem mw_59 : Cond.code yX6_init cX6_init 1 none ∈ lw_tbl := List.mem_append_right _ (List.mem_of_getElem? (i := 59) (by decide +kernel))
theorem mw_60 : Cond.methodLink RX6 1 Lib.objectInit ∈ lw_tbl := List.mem_append_right _ (List.mem_of_getElem? (i := 60) (by decide +kernel))
theorem mw_61 : Cond.fieldLink RX6 9 "FilterForge$Packets" "cells" "[B" ∈ lw_tbl := List.mem_append_right _ (List.mem_of_getElem? (i := 61) (by decide +kernel))
theorem mw_62 : Cond.fieldLink RX6 13 "FilterForge$Packets" "lengths" "[I" ∈ lw_tbl := List.mem_append_right _ (List.mem_of_getElem? (i := 62) (by decide +kernel))
theorem mw_63 : Cond.fieldLink RX6 17 "FilterForge$Packets" "held" "I" ∈ lw_tbl := List.mem_append_right _ (List.mem_of_getElem? (i := 63) (by decide +kernel))
theorem mw_64 : Cond.fieldLinkNest RX11 195 "FilterForge$Packets" "held" "I" "FilterForge" ∈ lw_tbl := List.mem_append_right _ (List.mem_of_getElem? (i := 64) (by decide +kernel))
theorem mw_72 : Cond.arrayClass .int ∈ lw_tbl := List.mem_append_right _ (List.mem_of_getElem? (i := 72) (by decide +kernel))
theorem mw_73 : Cond.classLink RX11 23 RX4 ∈ lw_tbl := List.mem_append_right _ (List.mem_of_getElem? (i := 73) (by decide +kernel))
theorem mw_74 : Cond.instantiable RX4 10 ∈ lw_tbl := List.mem_append_right _ (List.mem_of_getElem? (i := 74) (by decide +kernel))
theorem mw_75 : Cond.methodLinkNest RX11 25 yX4_init "FilterForge" ∈ lw_tbl := List.mem_append_right _ (List.mem_of_getElem? (i := 75) (by decide +kernel))
theorem mw_76 : Cond.instanceMethod yX4_init ∈ lw_tbl := List.mem_append_right _ (List.mem_of_getElem? (i := 76) (by decide +kernel))
theorem mw_77 : Cond.code yX4_init cX4_init 2 none ∈ lw_tbl := List.mem_append_right _ (List.mem_of_getElem? (i := 77) (by decide +kernel))
theorem mw_78 : Cond.methodLink RX4 3 Lib.objectInit ∈ lw_tbl := List.mem_append_right _ (List.mem_of_getElem? (i := 78) (by decide +kernel))
theorem mw_79 : Cond.fieldLink RX4 9 "FilterForge$Machine" "registers" "[J" ∈ lw_tbl := List.mem_append_right _ (List.mem_of_getElem? (i := 79) (by decide +kernel))
theorem mw_80 : Cond.fieldLink RX4 15 "FilterForge$Machine" "stackRow" "[B" ∈ lw_tbl := List.mem_append_right _ (List.mem_of_getElem? (i := 80) (by decide +kernel))
theorem mw_81 : Cond.fieldLinkNest RX11 191 "FilterForge$Machine" "stackRow" "[B" "FilterForge" ∈ lw_tbl := List.mem_append_right _ (List.mem_of_getElem? (i := 81) (by decide +kernel))
theorem mw_82 : Cond.fieldLink RX4 19 "FilterForge$Machine" "packets" "LFilterForge$Packets;" ∈ lw_tbl := List.mem_append_right _ (List.mem_of_getElem? (i := 82) (by decide +kernel))
theorem mw_85 : Cond.fieldLinkNest RX11 185 "FilterForge$Machine" "shown" "I" "FilterForge" ∈ lw_tbl := List.mem_append_right _ (List.mem_of_getElem? (i := 85) (by decide +kernel))
theorem mw_88 : Cond.fieldLinkNest RX11 176 "FilterForge$Machine" "trap" "I" "FilterForge" ∈ lw_tbl := List.mem_append_right _ (List.mem_of_getElem? (i := 88) (by decide +kernel))
theorem mw_91 : Cond.fieldLinkNest RX11 179 "FilterForge$Machine" "steps" "I" "FilterForge" ∈ lw_tbl := List.mem_append_right _ (List.mem_of_getElem? (i := 91) (by decide +kernel))
theorem mw_94 : Cond.fieldLinkNest RX11 182 "FilterForge$Machine" "place" "I" "FilterForge" ∈ lw_tbl := List.mem_append_right _ (List.mem_of_getElem? (i := 94) (by decide +kernel))
theorem mw_s0 : Cond.selects RX9 yX9_hasRoom yX9_hasRoom ∈ lw_tbl := List.mem_append_left _ (List.mem_of_getElem? (i := 0) (by decide +kernel))
theorem mw_s1 : Cond.selects RX9 yX9_put yX9_put ∈ lw_tbl := List.mem_append_left _ (List.mem_of_getElem? (i := 1) (by decide +kernel))
theorem mw_s2 : Cond.selects RX6 yX6_add yX6_add ∈ lw_tbl := List.mem_append_left _ (List.mem_of_getElem? (i := 2) (by decide +kernel))
theorem mw_s3 : Cond.selects RX9 yX9_at yX9_at ∈ lw_tbl := List.mem_append_left _ (List.mem_of_getElem? (i := 3) (by decide +kernel))
theorem mw_s4 : Cond.selects RX6 yX6_eightFrom yX6_eightFrom ∈ lw_tbl := List.mem_append_left _ (List.mem_of_getElem? (i := 4) (by decide +kernel))
theorem mw_s5 : Cond.selects RX6 yX6_at yX6_at ∈ lw_tbl := List.mem_append_left _ (List.mem_of_getElem? (i := 5) (by decide +kernel))
theorem mw_s6 : Cond.selects RX6 yX6_lengthOf yX6_lengthOf ∈ lw_tbl := List.mem_append_left _ (List.mem_of_getElem? (i := 6) (by decide +kernel))
theorem mw_s7 : Cond.selects RX8 yX8_begin yX8_begin ∈ lw_tbl := List.mem_append_left _ (List.mem_of_getElem? (i := 7) (by decide +kernel))
theorem mw_s8 : Cond.selects RX2 yX2_clear yX2_clear ∈ lw_tbl := List.mem_append_left _ (List.mem_of_getElem? (i := 8) (by decide +kernel))
theorem mw_s9 : Cond.selects RX8 yX8_next yX8_next ∈ lw_tbl := List.mem_append_left _ (List.mem_of_getElem? (i := 9) (by decide +kernel))
theorem mw_123 : Cond.arrayClass .long ∈ lw_tbl := List.mem_append_right _ (List.mem_of_getElem? (i := 123) (by decide +kernel))
theorem mw_124 : Cond.classLink RX11 32 RX5 ∈ lw_tbl := List.mem_append_right _ (List.mem_of_getElem? (i := 124) (by decide +kernel))
theorem mw_125 : Cond.instantiable RX5 2 ∈ lw_tbl := List.mem_append_right _ (List.mem_of_getElem? (i := 125) (by decide +kernel))
theorem mw_126 : Cond.methodLinkNest RX11 34 yX5_init "FilterForge" ∈ lw_tbl := List.mem_append_right _ (List.mem_of_getElem? (i := 126) (by decide +kernel))
theorem mw_127 : Cond.instanceMethod yX5_init ∈ lw_tbl := List.mem_append_right _ (List.mem_of_getElem? (i := 127) (by decide +kernel))
theorem mw_128 : Cond.code yX5_init cX5_init 1 none ∈ lw_tbl := List.mem_append_right _ (List.mem_of_getElem? (i := 128) (by decide +kernel))
theorem mw_129 : Cond.methodLink RX5 3 Lib.objectInit ∈ lw_tbl := List.mem_append_right _ (List.mem_of_getElem? (i := 129) (by decide +kernel))
theorem mw_130 : Cond.constant RX5 11 (60000) ∈ lw_tbl := List.mem_append_right _ (List.mem_of_getElem? (i := 130) (by decide +kernel))
theorem mw_131 : Cond.fieldLink RX5 12 "FilterForge$ObjectCode" "row" "[I" ∈ lw_tbl := List.mem_append_right _ (List.mem_of_getElem? (i := 131) (by decide +kernel))
theorem mw_133 : Cond.fieldLink RX5 22 "FilterForge$ObjectCode" "length" "I" ∈ lw_tbl := List.mem_append_right _ (List.mem_of_getElem? (i := 133) (by decide +kernel))
theorem mw_135 : Cond.fieldLinkNest RX11 174 "FilterForge$ObjectCode" "length" "I" "FilterForge" ∈ lw_tbl := List.mem_append_right _ (List.mem_of_getElem? (i := 135) (by decide +kernel))
theorem mw_141 : Cond.classLink RX11 39 RX2 ∈ lw_tbl := List.mem_append_right _ (List.mem_of_getElem? (i := 141) (by decide +kernel))
theorem mw_142 : Cond.instantiable RX2 18 ∈ lw_tbl := List.mem_append_right _ (List.mem_of_getElem? (i := 142) (by decide +kernel))
theorem mw_143 : Cond.methodLinkNest RX11 41 yX2_init "FilterForge" ∈ lw_tbl := List.mem_append_right _ (List.mem_of_getElem? (i := 143) (by decide +kernel))
theorem mw_144 : Cond.instanceMethod yX2_init ∈ lw_tbl := List.mem_append_right _ (List.mem_of_getElem? (i := 144) (by decide +kernel))
theorem mw_145 : Cond.code yX2_init cX2_init 1 none ∈ lw_tbl := List.mem_append_right _ (List.mem_of_getElem? (i := 145) (by decide +kernel))
theorem mw_146 : Cond.methodLink RX2 3 Lib.objectInit ∈ lw_tbl := List.mem_append_right _ (List.mem_of_getElem? (i := 146) (by decide +kernel))
theorem mw_147 : Cond.fieldLink RX2 11 "FilterForge$Filter" "kinds" "[I" ∈ lw_tbl := List.mem_append_right _ (List.mem_of_getElem? (i := 147) (by decide +kernel))
theorem mw_149 : Cond.fieldLink RX2 15 "FilterForge$Filter" "hows" "[I" ∈ lw_tbl := List.mem_append_right _ (List.mem_of_getElem? (i := 149) (by decide +kernel))
theorem mw_151 : Cond.fieldLink RX2 18 "FilterForge$Filter" "numbers" "[I" ∈ lw_tbl := List.mem_append_right _ (List.mem_of_getElem? (i := 151) (by decide +kernel))
theorem mw_153 : Cond.fieldLink RX2 53 "FilterForge$Filter" "itemCount" "I" ∈ lw_tbl := List.mem_append_right _ (List.mem_of_getElem? (i := 153) (by decide +kernel))
theorem mw_155 : Cond.fieldLink RX2 21 "FilterForge$Filter" "from" "[I" ∈ lw_tbl := List.mem_append_right _ (List.mem_of_getElem? (i := 155) (by decide +kernel))
theorem mw_157 : Cond.fieldLink RX2 24 "FilterForge$Filter" "middle" "[I" ∈ lw_tbl := List.mem_append_right _ (List.mem_of_getElem? (i := 157) (by decide +kernel))
theorem mw_159 : Cond.fieldLink RX2 27 "FilterForge$Filter" "until" "[I" ∈ lw_tbl := List.mem_append_right _ (List.mem_of_getElem? (i := 159) (by decide +kernel))
theorem mw_161 : Cond.fieldLink RX2 30 "FilterForge$Filter" "ops" "[I" ∈ lw_tbl := List.mem_append_right _ (List.mem_of_getElem? (i := 161) (by decide +kernel))
theorem mw_163 : Cond.fieldLink RX2 33 "FilterForge$Filter" "yes" "[I" ∈ lw_tbl := List.mem_append_right _ (List.mem_of_getElem? (i := 163) (by decide +kernel))
theorem mw_165 : Cond.fieldLink RX2 36 "FilterForge$Filter" "no" "[I" ∈ lw_tbl := List.mem_append_right _ (List.mem_of_getElem? (i := 165) (by decide +kernel))
theorem mw_167 : Cond.fieldLink RX2 39 "FilterForge$Filter" "kept" "[Z" ∈ lw_tbl := List.mem_append_right _ (List.mem_of_getElem? (i := 167) (by decide +kernel))
theorem mw_169 : Cond.fieldLink RX2 57 "FilterForge$Filter" "blockCount" "I" ∈ lw_tbl := List.mem_append_right _ (List.mem_of_getElem? (i := 169) (by decide +kernel))
theorem mw_172 : Cond.fieldLink RX2 60 "FilterForge$Filter" "leftOut" "I" ∈ lw_tbl := List.mem_append_right _ (List.mem_of_getElem? (i := 172) (by decide +kernel))
theorem mw_174 : Cond.fieldLink RX2 43 "FilterForge$Filter" "labels" "[I" ∈ lw_tbl := List.mem_append_right _ (List.mem_of_getElem? (i := 174) (by decide +kernel))
theorem mw_175 : Cond.fieldLink RX2 63 "FilterForge$Filter" "labelCount" "I" ∈ lw_tbl := List.mem_append_right _ (List.mem_of_getElem? (i := 175) (by decide +kernel))
theorem mw_176 : Cond.fieldLink RX2 46 "FilterForge$Filter" "asked" "[I" ∈ lw_tbl := List.mem_append_right _ (List.mem_of_getElem? (i := 176) (by decide +kernel))
theorem mw_178 : Cond.fieldLink RX2 49 "FilterForge$Filter" "pushed" "[J" ∈ lw_tbl := List.mem_append_right _ (List.mem_of_getElem? (i := 178) (by decide +kernel))
theorem mw_216 : Cond.arrayClass .boolean ∈ lw_tbl := List.mem_append_right _ (List.mem_of_getElem? (i := 216) (by decide +kernel))
theorem mw_217 : Cond.classLink RX11 49 RX7 ∈ lw_tbl := List.mem_append_right _ (List.mem_of_getElem? (i := 217) (by decide +kernel))
theorem mw_218 : Cond.instantiable RX7 2 ∈ lw_tbl := List.mem_append_right _ (List.mem_of_getElem? (i := 218) (by decide +kernel))
theorem mw_219 : Cond.methodLinkNest RX11 51 yX7_init "FilterForge" ∈ lw_tbl := List.mem_append_right _ (List.mem_of_getElem? (i := 219) (by decide +kernel))
theorem mw_220 : Cond.instanceMethod yX7_init ∈ lw_tbl := List.mem_append_right _ (List.mem_of_getElem? (i := 220) (by decide +kernel))
theorem mw_221 : Cond.code yX7_init cX7_init 1 none ∈ lw_tbl := List.mem_append_right _ (List.mem_of_getElem? (i := 221) (by decide +kernel))
theorem mw_222 : Cond.methodLink RX7 3 Lib.objectInit ∈ lw_tbl := List.mem_append_right _ (List.mem_of_getElem? (i := 222) (by decide +kernel))
theorem mw_223 : Cond.fieldLink RX7 11 "FilterForge$Program" "row" "[J" ∈ lw_tbl := List.mem_append_right _ (List.mem_of_getElem? (i := 223) (by decide +kernel))
theorem mw_225 : Cond.fieldLinkNest RX3 60 "FilterForge$Program" "length" "I" "FilterForge" ∈ lw_tbl := List.mem_append_right _ (List.mem_of_getElem? (i := 225) (by decide +kernel))
theorem mw_226 : Cond.fieldLink RX7 21 "FilterForge$Program" "length" "I" ∈ lw_tbl := List.mem_append_right _ (List.mem_of_getElem? (i := 226) (by decide +kernel))
theorem mw_229 : Cond.fieldLinkNest RX11 159 "FilterForge$Program" "length" "I" "FilterForge" ∈ lw_tbl := List.mem_append_right _ (List.mem_of_getElem? (i := 229) (by decide +kernel))
theorem mw_235 : Cond.classLink RX11 59 RX8 ∈ lw_tbl := List.mem_append_right _ (List.mem_of_getElem? (i := 235) (by decide +kernel))
theorem mw_236 : Cond.instantiable RX8 6 ∈ lw_tbl := List.mem_append_right _ (List.mem_of_getElem? (i := 236) (by decide +kernel))
theorem mw_237 : Cond.methodLinkNest RX11 61 yX8_init "FilterForge" ∈ lw_tbl := List.mem_append_right _ (List.mem_of_getElem? (i := 237) (by decide +kernel))
theorem mw_238 : Cond.instanceMethod yX8_init ∈ lw_tbl := List.mem_append_right _ (List.mem_of_getElem? (i := 238) (by decide +kernel))
theorem mw_239 : Cond.code yX8_init cX8_init 3 none ∈ lw_tbl := List.mem_append_right _ (List.mem_of_getElem? (i := 239) (by decide +kernel))
theorem mw_240 : Cond.methodLink RX8 3 Lib.objectInit ∈ lw_tbl := List.mem_append_right _ (List.mem_of_getElem? (i := 240) (by decide +kernel))
theorem mw_241 : Cond.fieldLink RX8 9 "FilterForge$Reader" "text" "LFilterForge$Tape;" ∈ lw_tbl := List.mem_append_right _ (List.mem_of_getElem? (i := 241) (by decide +kernel))
theorem mw_242 : Cond.fieldLink RX8 15 "FilterForge$Reader" "made" "LFilterForge$Filter;" ∈ lw_tbl := List.mem_append_right _ (List.mem_of_getElem? (i := 242) (by decide +kernel))
theorem mw_243 : Cond.fieldLink RX8 31 "FilterForge$Reader" "kind" "I" ∈ lw_tbl := List.mem_append_right _ (List.mem_of_getElem? (i := 243) (by decide +kernel))
theorem mw_244 : Cond.fieldLink RX8 40 "FilterForge$Reader" "first" "I" ∈ lw_tbl := List.mem_append_right _ (List.mem_of_getElem? (i := 244) (by decide +kernel))
theorem mw_245 : Cond.fieldLink RX8 24 "FilterForge$Reader" "behind" "I" ∈ lw_tbl := List.mem_append_right _ (List.mem_of_getElem? (i := 245) (by decide +kernel))
theorem mw_246 : Cond.fieldLink RX8 28 "FilterForge$Reader" "wrong" "I" ∈ lw_tbl := List.mem_append_right _ (List.mem_of_getElem? (i := 246) (by decide +kernel))
theorem mw_260 : Cond.classLink RX11 68 RX0 ∈ lw_tbl := List.mem_append_right _ (List.mem_of_getElem? (i := 260) (by decide +kernel))
theorem mw_261 : Cond.instantiable RX0 5 ∈ lw_tbl := List.mem_append_right _ (List.mem_of_getElem? (i := 261) (by decide +kernel))
theorem mw_262 : Cond.methodLinkNest RX11 70 yX0_init "FilterForge" ∈ lw_tbl := List.mem_append_right _ (List.mem_of_getElem? (i := 262) (by decide +kernel))
theorem mw_263 : Cond.instanceMethod yX0_init ∈ lw_tbl := List.mem_append_right _ (List.mem_of_getElem? (i := 263) (by decide +kernel))
theorem mw_264 : Cond.code yX0_init cX0_init 3 none ∈ lw_tbl := List.mem_append_right _ (List.mem_of_getElem? (i := 264) (by decide +kernel))
theorem mw_265 : Cond.methodLink RX0 3 Lib.objectInit ∈ lw_tbl := List.mem_append_right _ (List.mem_of_getElem? (i := 265) (by decide +kernel))
theorem mw_266 : Cond.fieldLink RX0 11 "FilterForge$Coder" "starts" "[I" ∈ lw_tbl := List.mem_append_right _ (List.mem_of_getElem? (i := 266) (by decide +kernel))
theorem mw_267 : Cond.fieldLink RX0 19 "FilterForge$Coder" "goals" "[I" ∈ lw_tbl := List.mem_append_right _ (List.mem_of_getElem? (i := 267) (by decide +kernel))
theorem mw_268 : Cond.fieldLink RX0 22 "FilterForge$Coder" "filter" "LFilterForge$Filter;" ∈ lw_tbl := List.mem_append_right _ (List.mem_of_getElem? (i := 268) (by decide +kernel))
theorem mw_269 : Cond.fieldLink RX0 26 "FilterForge$Coder" "made" "LFilterForge$Program;" ∈ lw_tbl := List.mem_append_right _ (List.mem_of_getElem? (i := 269) (by decide +kernel))
theorem mw_282 : Cond.classLink RX11 77 RX10 ∈ lw_tbl := List.mem_append_right _ (List.mem_of_getElem? (i := 282) (by decide +kernel))
theorem mw_283 : Cond.instantiable RX10 5 ∈ lw_tbl := List.mem_append_right _ (List.mem_of_getElem? (i := 283) (by decide +kernel))
theorem mw_284 : Cond.methodLinkNest RX11 79 yX10_init "FilterForge" ∈ lw_tbl := List.mem_append_right _ (List.mem_of_getElem? (i := 284) (by decide +kernel))
theorem mw_285 : Cond.instanceMethod yX10_init ∈ lw_tbl := List.mem_append_right _ (List.mem_of_getElem? (i := 285) (by decide +kernel))
theorem mw_286 : Cond.code yX10_init cX10_init 3 none ∈ lw_tbl := List.mem_append_right _ (List.mem_of_getElem? (i := 286) (by decide +kernel))
theorem mw_287 : Cond.methodLink RX10 3 Lib.objectInit ∈ lw_tbl := List.mem_append_right _ (List.mem_of_getElem? (i := 287) (by decide +kernel))
theorem mw_288 : Cond.fieldLink RX10 11 "FilterForge$Translator" "starts" "[I" ∈ lw_tbl := List.mem_append_right _ (List.mem_of_getElem? (i := 288) (by decide +kernel))
theorem mw_289 : Cond.fieldLink RX10 21 "FilterForge$Translator" "made" "LFilterForge$ObjectCode;" ∈ lw_tbl := List.mem_append_right _ (List.mem_of_getElem? (i := 289) (by decide +kernel))
theorem mw_290 : Cond.fieldLink RX10 17 "FilterForge$Translator" "source" "LFilterForge$Program;" ∈ lw_tbl := List.mem_append_right _ (List.mem_of_getElem? (i := 290) (by decide +kernel))
theorem mw_304 : Cond.classLink RX11 86 RX3 ∈ lw_tbl := List.mem_append_right _ (List.mem_of_getElem? (i := 304) (by decide +kernel))
theorem mw_305 : Cond.instantiable RX3 14 ∈ lw_tbl := List.mem_append_right _ (List.mem_of_getElem? (i := 305) (by decide +kernel))
theorem mw_306 : Cond.methodLinkNest RX11 88 yX3_init "FilterForge" ∈ lw_tbl := List.mem_append_right _ (List.mem_of_getElem? (i := 306) (by decide +kernel))
theorem mw_307 : Cond.instanceMethod yX3_init ∈ lw_tbl := List.mem_append_right _ (List.mem_of_getElem? (i := 307) (by decide +kernel))
theorem mw_308 : Cond.code yX3_init cX3_init 3 none ∈ lw_tbl := List.mem_append_right _ (List.mem_of_getElem? (i := 308) (by decide +kernel))
theorem mw_309 : Cond.methodLink RX3 3 Lib.objectInit ∈ lw_tbl := List.mem_append_right _ (List.mem_of_getElem? (i := 309) (by decide +kernel))
theorem mw_310 : Cond.classLink RX3 35 RX1 ∈ lw_tbl := List.mem_append_right _ (List.mem_of_getElem? (i := 310) (by decide +kernel))
theorem mw_312 : Cond.instantiable RX1 5 ∈ lw_tbl := List.mem_append_right _ (List.mem_of_getElem? (i := 312) (by decide +kernel))
theorem mw_313 : Cond.methodLinkNest RX3 41 yX1_init "FilterForge" ∈ lw_tbl := List.mem_append_right _ (List.mem_of_getElem? (i := 313) (by decide +kernel))
theorem mw_314 : Cond.instanceMethod yX1_init ∈ lw_tbl := List.mem_append_right _ (List.mem_of_getElem? (i := 314) (by decide +kernel))
theorem mw_315 : Cond.code yX1_init cX1_init 1 none ∈ lw_tbl := List.mem_append_right _ (List.mem_of_getElem? (i := 315) (by decide +kernel))
theorem mw_316 : Cond.methodLink RX1 3 Lib.objectInit ∈ lw_tbl := List.mem_append_right _ (List.mem_of_getElem? (i := 316) (by decide +kernel))
theorem mw_338 : Cond.fieldLink RX3 9 "FilterForge$Inspector" "kinds" "[B" ∈ lw_tbl := List.mem_append_right _ (List.mem_of_getElem? (i := 338) (by decide +kernel))
theorem mw_339 : Cond.fieldLink RX3 15 "FilterForge$Inspector" "lows" "[J" ∈ lw_tbl := List.mem_append_right _ (List.mem_of_getElem? (i := 339) (by decide +kernel))
theorem mw_340 : Cond.fieldLink RX3 19 "FilterForge$Inspector" "highs" "[J" ∈ lw_tbl := List.mem_append_right _ (List.mem_of_getElem? (i := 340) (by decide +kernel))
theorem mw_341 : Cond.fieldLink RX3 22 "FilterForge$Inspector" "sures" "[J" ∈ lw_tbl := List.mem_append_right _ (List.mem_of_getElem? (i := 341) (by decide +kernel))
theorem mw_342 : Cond.fieldLink RX3 25 "FilterForge$Inspector" "oneBits" "[J" ∈ lw_tbl := List.mem_append_right _ (List.mem_of_getElem? (i := 342) (by decide +kernel))
theorem mw_343 : Cond.fieldLink RX3 28 "FilterForge$Inspector" "sets" "[J" ∈ lw_tbl := List.mem_append_right _ (List.mem_of_getElem? (i := 343) (by decide +kernel))
theorem mw_344 : Cond.fieldLink RX3 31 "FilterForge$Inspector" "reached" "[Z" ∈ lw_tbl := List.mem_append_right _ (List.mem_of_getElem? (i := 344) (by decide +kernel))
theorem mw_345 : Cond.fieldLink RX3 37 "FilterForge$Inspector" "now" "[LFilterForge$Fact;" ∈ lw_tbl := List.mem_append_right _ (List.mem_of_getElem? (i := 345) (by decide +kernel))
theorem mw_346 : Cond.fieldLink RX3 42 "FilterForge$Inspector" "side" "LFilterForge$Fact;" ∈ lw_tbl := List.mem_append_right _ (List.mem_of_getElem? (i := 346) (by decide +kernel))
theorem mw_347 : Cond.fieldLink RX3 46 "FilterForge$Inspector" "place" "LFilterForge$Fact;" ∈ lw_tbl := List.mem_append_right _ (List.mem_of_getElem? (i := 347) (by decide +kernel))
theorem mw_348 : Cond.fieldLink RX3 49 "FilterForge$Inspector" "former" "LFilterForge$Fact;" ∈ lw_tbl := List.mem_append_right _ (List.mem_of_getElem? (i := 348) (by decide +kernel))
theorem mw_350 : Cond.fieldLink RX3 56 "FilterForge$Inspector" "program" "LFilterForge$Program;" ∈ lw_tbl := List.mem_append_right _ (List.mem_of_getElem? (i := 350) (by decide +kernel))
theorem mw_351 : Cond.fieldLink RX3 52 "FilterForge$Inspector" "lastTold" "I" ∈ lw_tbl := List.mem_append_right _ (List.mem_of_getElem? (i := 351) (by decide +kernel))
theorem mw_381 : Cond.fieldLink RX11 10 "FilterForge" "tape" "LFilterForge$Tape;" ∈ lw_tbl := List.mem_append_right _ (List.mem_of_getElem? (i := 381) (by decide +kernel))
theorem mw_382 : Cond.fieldLink RX11 19 "FilterForge" "packets" "LFilterForge$Packets;" ∈ lw_tbl := List.mem_append_right _ (List.mem_of_getElem? (i := 382) (by decide +kernel))
theorem mw_383 : Cond.fieldLink RX11 28 "FilterForge" "machine" "LFilterForge$Machine;" ∈ lw_tbl := List.mem_append_right _ (List.mem_of_getElem? (i := 383) (by decide +kernel))
theorem mw_384 : Cond.fieldLink RX11 35 "FilterForge" "object" "LFilterForge$ObjectCode;" ∈ lw_tbl := List.mem_append_right _ (List.mem_of_getElem? (i := 384) (by decide +kernel))
theorem mw_385 : Cond.fieldLink RX11 42 "FilterForge" "filter" "LFilterForge$Filter;" ∈ lw_tbl := List.mem_append_right _ (List.mem_of_getElem? (i := 385) (by decide +kernel))
theorem mw_386 : Cond.fieldLink RX11 46 "FilterForge" "spareFilter" "LFilterForge$Filter;" ∈ lw_tbl := List.mem_append_right _ (List.mem_of_getElem? (i := 386) (by decide +kernel))
theorem mw_387 : Cond.fieldLink RX11 52 "FilterForge" "program" "LFilterForge$Program;" ∈ lw_tbl := List.mem_append_right _ (List.mem_of_getElem? (i := 387) (by decide +kernel))
theorem mw_388 : Cond.fieldLink RX11 56 "FilterForge" "spareProgram" "LFilterForge$Program;" ∈ lw_tbl := List.mem_append_right _ (List.mem_of_getElem? (i := 388) (by decide +kernel))
theorem mw_389 : Cond.fieldLink RX11 140 "FilterForge" "filterRead" "Z" ∈ lw_tbl := List.mem_append_right _ (List.mem_of_getElem? (i := 389) (by decide +kernel))
theorem mw_390 : Cond.fieldLink RX11 64 "FilterForge" "reader" "LFilterForge$Reader;" ∈ lw_tbl := List.mem_append_right _ (List.mem_of_getElem? (i := 390) (by decide +kernel))
theorem mw_391 : Cond.fieldLink RX11 73 "FilterForge" "coder" "LFilterForge$Coder;" ∈ lw_tbl := List.mem_append_right _ (List.mem_of_getElem? (i := 391) (by decide +kernel))
theorem mw_392 : Cond.fieldLink RX11 82 "FilterForge" "translator" "LFilterForge$Translator;" ∈ lw_tbl := List.mem_append_right _ (List.mem_of_getElem? (i := 392) (by decide +kernel))
theorem mw_393 : Cond.fieldLink RX11 91 "FilterForge" "inspector" "LFilterForge$Inspector;" ∈ lw_tbl := List.mem_append_right _ (List.mem_of_getElem? (i := 393) (by decide +kernel))
theorem mw_394 : Cond.fieldLink RX11 95 "FilterForge" "gatekeeper" "LFilterForge$Inspector;" ∈ lw_tbl := List.mem_append_right _ (List.mem_of_getElem? (i := 394) (by decide +kernel))
theorem mw_427 : Cond.code yX11_feed cX11_feed 6 (some .int) ∈ lw_tbl := List.mem_append_right _ (List.mem_of_getElem? (i := 427) (by decide +kernel))
theorem mw_428 : Cond.methodLinkNest RX11 98 yX9_hasRoom "FilterForge" ∈ lw_tbl := List.mem_append_right _ (List.mem_of_getElem? (i := 428) (by decide +kernel))
theorem mw_430 : Cond.instanceMethod yX9_hasRoom ∈ lw_tbl := List.mem_append_right _ (List.mem_of_getElem? (i := 430) (by decide +kernel))
theorem mw_431 : Cond.code yX9_hasRoom cX9_hasRoom 2 (some .boolean) ∈ lw_tbl := List.mem_append_right _ (List.mem_of_getElem? (i := 431) (by decide +kernel))
theorem mw_432 : Cond.methodLinkNest RX11 102 yX9_put "FilterForge" ∈ lw_tbl := List.mem_append_right _ (List.mem_of_getElem? (i := 432) (by decide +kernel))
theorem mw_434 : Cond.instanceMethod yX9_put ∈ lw_tbl := List.mem_append_right _ (List.mem_of_getElem? (i := 434) (by decide +kernel))
theorem mw_435 : Cond.code yX9_put cX9_put 3 none ∈ lw_tbl := List.mem_append_right _ (List.mem_of_getElem? (i := 435) (by decide +kernel))
theorem mw_436 : Cond.methodLink RX9 17 yX9_hasRoom ∈ lw_tbl := List.mem_append_right _ (List.mem_of_getElem? (i := 436) (by decide +kernel))
theorem mw_440 : Cond.code yX11_end cX11_end 2 (some .int) ∈ lw_tbl := List.mem_append_right _ (List.mem_of_getElem? (i := 440) (by decide +kernel))
theorem mw_444 : Cond.code yX11_packet cX11_packet 2 (some .int) ∈ lw_tbl := List.mem_append_right _ (List.mem_of_getElem? (i := 444) (by decide +kernel))
theorem mw_445 : Cond.methodLinkNest RX11 110 yX6_add "FilterForge" ∈ lw_tbl := List.mem_append_right _ (List.mem_of_getElem? (i := 445) (by decide +kernel))
theorem mw_447 : Cond.instanceMethod yX6_add ∈ lw_tbl := List.mem_append_right _ (List.mem_of_getElem? (i := 447) (by decide +kernel))
theorem mw_448 : Cond.code yX6_add cX6_add 3 (some .int) ∈ lw_tbl := List.mem_append_right _ (List.mem_of_getElem? (i := 448) (by decide +kernel))
theorem mw_451 : Cond.instanceMethod yX9_at ∈ lw_tbl := List.mem_append_right _ (List.mem_of_getElem? (i := 451) (by decide +kernel))
theorem mw_452 : Cond.code yX9_at cX9_at 2 (some .int) ∈ lw_tbl := List.mem_append_right _ (List.mem_of_getElem? (i := 452) (by decide +kernel))
theorem mw_456 : Cond.code yX11_bytes cX11_bytes 3 (some .long) ∈ lw_tbl := List.mem_append_right _ (List.mem_of_getElem? (i := 456) (by decide +kernel))
theorem mw_457 : Cond.methodLinkNest RX11 114 yX6_eightFrom "FilterForge" ∈ lw_tbl := List.mem_append_right _ (List.mem_of_getElem? (i := 457) (by decide +kernel))
theorem mw_459 : Cond.instanceMethod yX6_eightFrom ∈ lw_tbl := List.mem_append_right _ (List.mem_of_getElem? (i := 459) (by decide +kernel))
theorem mw_460 : Cond.code yX6_eightFrom cX6_eightFrom 7 (some .long) ∈ lw_tbl := List.mem_append_right _ (List.mem_of_getElem? (i := 460) (by decide +kernel))
theorem mw_461 : Cond.methodLink RX6 33 yX6_at ∈ lw_tbl := List.mem_append_right _ (List.mem_of_getElem? (i := 461) (by decide +kernel))
theorem mw_463 : Cond.instanceMethod yX6_at ∈ lw_tbl := List.mem_append_right _ (List.mem_of_getElem? (i := 463) (by decide +kernel))
theorem mw_464 : Cond.code yX6_at cX6_at 4 (some .int) ∈ lw_tbl := List.mem_append_right _ (List.mem_of_getElem? (i := 464) (by decide +kernel))
theorem mw_465 : Cond.methodLink RX6 30 yX6_lengthOf ∈ lw_tbl := List.mem_append_right _ (List.mem_of_getElem? (i := 465) (by decide +kernel))
theorem mw_467 : Cond.instanceMethod yX6_lengthOf ∈ lw_tbl := List.mem_append_right _ (List.mem_of_getElem? (i := 467) (by decide +kernel))
theorem mw_468 : Cond.code yX6_lengthOf cX6_lengthOf 2 (some .int) ∈ lw_tbl := List.mem_append_right _ (List.mem_of_getElem? (i := 468) (by decide +kernel))
theorem mw_469 : Cond.constantLong RX6 36 (-1) ∈ lw_tbl := List.mem_append_right _ (List.mem_of_getElem? (i := 469) (by decide +kernel))
theorem mw_473 : Cond.code yX11_compile cX11_compile 3 (some .int) ∈ lw_tbl := List.mem_append_right _ (List.mem_of_getElem? (i := 473) (by decide +kernel))
theorem mw_474 : Cond.methodLinkNest RX11 118 yX8_begin "FilterForge" ∈ lw_tbl := List.mem_append_right _ (List.mem_of_getElem? (i := 474) (by decide +kernel))
theorem mw_476 : Cond.instanceMethod yX8_begin ∈ lw_tbl := List.mem_append_right _ (List.mem_of_getElem? (i := 476) (by decide +kernel))
theorem mw_477 : Cond.code yX8_begin cX8_begin 2 none ∈ lw_tbl := List.mem_append_right _ (List.mem_of_getElem? (i := 477) (by decide +kernel))
theorem mw_478 : Cond.methodLinkNest RX8 19 yX2_clear "FilterForge" ∈ lw_tbl := List.mem_append_right _ (List.mem_of_getElem? (i := 478) (by decide +kernel))
theorem mw_480 : Cond.instanceMethod yX2_clear ∈ lw_tbl := List.mem_append_right _ (List.mem_of_getElem? (i := 480) (by decide +kernel))
theorem mw_481 : Cond.code yX2_clear cX2_clear 1 none ∈ lw_tbl := List.mem_append_right _ (List.mem_of_getElem? (i := 481) (by decide +kernel))
theorem mw_482 : Cond.methodLink RX8 34 yX8_next ∈ lw_tbl := List.mem_append_right _ (List.mem_of_getElem? (i := 482) (by decide +kernel))
theorem mw_484 : Cond.instanceMethod yX8_next ∈ lw_tbl := List.mem_append_right _ (List.mem_of_getElem? (i := 484) (by decide +kernel))
theorem mw_485 : Cond.code yX8_next cX8_next 2 none ∈ lw_tbl := List.mem_append_right _ (List.mem_of_getElem? (i := 485) (by decide +kernel))
theorem mw_486 : Cond.methodLink RX8 43 yX8_behindBlanks ∈ lw_tbl := List.mem_append_right _ (List.mem_of_getElem? (i := 486) (by decide +kernel))
theorem mw_488 : Cond.instanceMethod yX8_behindBlanks ∈ lw_tbl := List.mem_append_right _ (List.mem_of_getElem? (i := 488) (by decide +kernel))
theorem mw_489 : Cond.code yX8_behindBlanks cX8_behindBlanks 3 (some .int) ∈ lw_tbl := List.mem_append_right _ (List.mem_of_getElem? (i := 489) (by decide +kernel))
theorem mw_490 : Cond.methodLinkNest RX8 47 yX9_at "FilterForge" ∈ lw_tbl := List.mem_append_right _ (List.mem_of_getElem? (i := 490) (by decide +kernel))
theorem mw_501 : Cond.methodLink RX8 37 yX8_fail ∈ lw_tbl := List.mem_append_right _ (List.mem_of_getElem? (i := 501) (by decide +kernel))
theorem mw_503 : Cond.instanceMethod yX8_fail ∈ lw_tbl := List.mem_append_right _ (List.mem_of_getElem? (i := 503) (by decide +kernel))
theorem mw_504 : Cond.code yX8_fail cX8_fail 1 none ∈ lw_tbl := List.mem_append_right _ (List.mem_of_getElem? (i := 504) (by decide +kernel))
theorem mw_505 : Cond.methodLinkNest RX11 122 yX8_readFilter "FilterForge" ∈ lw_tbl := List.mem_append_right _ (List.mem_of_getElem? (i := 505) (by decide +kernel))
theorem mw_507 : Cond.instanceMethod yX8_readFilter ∈ lw_tbl := List.mem_append_right _ (List.mem_of_getElem? (i := 507) (by decide +kernel))
theorem mw_508 : Cond.code yX8_readFilter cX8_readFilter 7 none ∈ lw_tbl := List.mem_append_right _ (List.mem_of_getElem? (i := 508) (by decide +kernel))
theorem mw_509 : Cond.methodLinkNest RX8 129 yX2_newLabel "FilterForge" ∈ lw_tbl := List.mem_append_right _ (List.mem_of_getElem? (i := 509) (by decide +kernel))
theorem mw_511 : Cond.instanceMethod yX2_newLabel ∈ lw_tbl := List.mem_append_right _ (List.mem_of_getElem? (i := 511) (by decide +kernel))
theorem mw_512 : Cond.code yX2_newLabel cX2_newLabel 1 (some .int) ∈ lw_tbl := List.mem_append_right _ (List.mem_of_getElem? (i := 512) (by decide +kernel))
theorem mw_513 : Cond.methodLink RX8 132 yX8_readRow ∈ lw_tbl := List.mem_append_right _ (List.mem_of_getElem? (i := 513) (by decide +kernel))
theorem mw_515 : Cond.instanceMethod yX8_readRow ∈ lw_tbl := List.mem_append_right _ (List.mem_of_getElem? (i := 515) (by decide +kernel))
theorem mw_516 : Cond.code yX8_readRow cX8_readRow 7 none ∈ lw_tbl := List.mem_append_right _ (List.mem_of_getElem? (i := 516) (by decide +kernel))
theorem mw_517 : Cond.methodLink RX8 146 yX8_readOne ∈ lw_tbl := List.mem_append_right _ (List.mem_of_getElem? (i := 517) (by decide +kernel))
theorem mw_519 : Cond.instanceMethod yX8_readOne ∈ lw_tbl := List.mem_append_right _ (List.mem_of_getElem? (i := 519) (by decide +kernel))
theorem mw_520 : Cond.code yX8_readOne cX8_readOne 5 none ∈ lw_tbl := List.mem_append_right _ (List.mem_of_getElem? (i := 520) (by decide +kernel))
theorem mw_522 : Cond.methodLink RX8 77 yX8_isWord ∈ lw_tbl := List.mem_append_right _ (List.mem_of_getElem? (i := 522) (by decide +kernel))
theorem mw_524 : Cond.instanceMethod yX8_isWord ∈ lw_tbl := List.mem_append_right _ (List.mem_of_getElem? (i := 524) (by decide +kernel))
theorem mw_525 : Cond.code yX8_isWord cX8_isWord 3 (some .boolean) ∈ lw_tbl := List.mem_append_right _ (List.mem_of_getElem? (i := 525) (by decide +kernel))
theorem mw_574 : Cond.methodLink RX8 153 yX8_beginsRelation ∈ lw_tbl := List.mem_append_right _ (List.mem_of_getElem? (i := 574) (by decide +kernel))
theorem mw_576 : Cond.instanceMethod yX8_beginsRelation ∈ lw_tbl := List.mem_append_right _ (List.mem_of_getElem? (i := 576) (by decide +kernel))
theorem mw_577 : Cond.code yX8_beginsRelation cX8_beginsRelation 1 (some .boolean) ∈ lw_tbl := List.mem_append_right _ (List.mem_of_getElem? (i := 577) (by decide +kernel))
theorem mw_579 : Cond.methodLink RX8 119 yX8_number ∈ lw_tbl := List.mem_append_right _ (List.mem_of_getElem? (i := 579) (by decide +kernel))
theorem mw_581 : Cond.instanceMethod yX8_number ∈ lw_tbl := List.mem_append_right _ (List.mem_of_getElem? (i := 581) (by decide +kernel))
theorem mw_582 : Cond.code yX8_number cX8_number 1 (some .long) ∈ lw_tbl := List.mem_append_right _ (List.mem_of_getElem? (i := 582) (by decide +kernel))
theorem mw_583 : Cond.constantLong RX8 93 (-1) ∈ lw_tbl := List.mem_append_right _ (List.mem_of_getElem? (i := 583) (by decide +kernel))
theorem mw_599 : Cond.methodLink RX8 160 yX8_protocol ∈ lw_tbl := List.mem_append_right _ (List.mem_of_getElem? (i := 599) (by decide +kernel))
theorem mw_601 : Cond.instanceMethod yX8_protocol ∈ lw_tbl := List.mem_append_right _ (List.mem_of_getElem? (i := 601) (by decide +kernel))
theorem mw_602 : Cond.code yX8_protocol cX8_protocol 1 (some .int) ∈ lw_tbl := List.mem_append_right _ (List.mem_of_getElem? (i := 602) (by decide +kernel))
theorem mw_736 : Cond.methodLink RX8 166 yX8_readSided ∈ lw_tbl := List.mem_append_right _ (List.mem_of_getElem? (i := 736) (by decide +kernel))
theorem mw_738 : Cond.instanceMethod yX8_readSided ∈ lw_tbl := List.mem_append_right _ (List.mem_of_getElem? (i := 738) (by decide +kernel))
theorem mw_739 : Cond.code yX8_readSided cX8_readSided 7 none ∈ lw_tbl := List.mem_append_right _ (List.mem_of_getElem? (i := 739) (by decide +kernel))
theorem mw_787 : Cond.methodLink RX8 221 yX8_readLength ∈ lw_tbl := List.mem_append_right _ (List.mem_of_getElem? (i := 787) (by decide +kernel))
theorem mw_789 : Cond.instanceMethod yX8_readLength ∈ lw_tbl := List.mem_append_right _ (List.mem_of_getElem? (i := 789) (by decide +kernel))
theorem mw_790 : Cond.code yX8_readLength cX8_readLength 4 none ∈ lw_tbl := List.mem_append_right _ (List.mem_of_getElem? (i := 790) (by decide +kernel))
theorem mw_800 : Cond.methodLinkNest RX8 142 yX2_joinLabel "FilterForge" ∈ lw_tbl := List.mem_append_right _ (List.mem_of_getElem? (i := 800) (by decide +kernel))
theorem mw_802 : Cond.instanceMethod yX2_joinLabel ∈ lw_tbl := List.mem_append_right _ (List.mem_of_getElem? (i := 802) (by decide +kernel))
theorem mw_803 : Cond.code yX2_joinLabel cX2_joinLabel 3 none ∈ lw_tbl := List.mem_append_right _ (List.mem_of_getElem? (i := 803) (by decide +kernel))
theorem mw_805 : Cond.methodLinkNest RX11 126 yX8_wrongPlace "FilterForge" ∈ lw_tbl := List.mem_append_right _ (List.mem_of_getElem? (i := 805) (by decide +kernel))
theorem mw_807 : Cond.instanceMethod yX8_wrongPlace ∈ lw_tbl := List.mem_append_right _ (List.mem_of_getElem? (i := 807) (by decide +kernel))
theorem mw_808 : Cond.code yX8_wrongPlace cX8_wrongPlace 1 (some .int) ∈ lw_tbl := List.mem_append_right _ (List.mem_of_getElem? (i := 808) (by decide +kernel))
theorem mw_920 : Cond.code yX11_load cX11_load 2 (some .int) ∈ lw_tbl := List.mem_append_right _ (List.mem_of_getElem? (i := 920) (by decide +kernel))
theorem mw_921 : Cond.methodLinkNest RX11 144 yX7_takeTape "FilterForge" ∈ lw_tbl := List.mem_append_right _ (List.mem_of_getElem? (i := 921) (by decide +kernel))
theorem mw_923 : Cond.instanceMethod yX7_takeTape ∈ lw_tbl := List.mem_append_right _ (List.mem_of_getElem? (i := 923) (by decide +kernel))
theorem mw_924 : Cond.code yX7_takeTape cX7_takeTape 3 (some .int) ∈ lw_tbl := List.mem_append_right _ (List.mem_of_getElem? (i := 924) (by decide +kernel))
theorem mw_933 : Cond.code yX11_instruction cX11_instruction 2 (some .long) ∈ lw_tbl := List.mem_append_right _ (List.mem_of_getElem? (i := 933) (by decide +kernel))
theorem mw_934 : Cond.methodLinkNest RX11 147 yX7_at "FilterForge" ∈ lw_tbl := List.mem_append_right _ (List.mem_of_getElem? (i := 934) (by decide +kernel))
theorem mw_936 : Cond.instanceMethod yX7_at ∈ lw_tbl := List.mem_append_right _ (List.mem_of_getElem? (i := 936) (by decide +kernel))
theorem mw_937 : Cond.code yX7_at cX7_at 2 (some .long) ∈ lw_tbl := List.mem_append_right _ (List.mem_of_getElem? (i := 937) (by decide +kernel))
theorem mw_941 : Cond.code yX11_verify cX11_verify 1 (some .int) ∈ lw_tbl := List.mem_append_right _ (List.mem_of_getElem? (i := 941) (by decide +kernel))
theorem mw_942 : Cond.methodLinkNest RX11 151 yX3_look "FilterForge" ∈ lw_tbl := List.mem_append_right _ (List.mem_of_getElem? (i := 942) (by decide +kernel))
theorem mw_944 : Cond.instanceMethod yX3_look ∈ lw_tbl := List.mem_append_right _ (List.mem_of_getElem? (i := 944) (by decide +kernel))
theorem mw_945 : Cond.code yX3_look cX3_look 5 (some .int) ∈ lw_tbl := List.mem_append_right _ (List.mem_of_getElem? (i := 945) (by decide +kernel))
theorem mw_s10 : Cond.selects RX8 yX8_behindBlanks yX8_behindBlanks ∈ lw_tbl := List.mem_append_left _ (List.mem_of_getElem? (i := 10) (by decide +kernel))
theorem mw_s12 : Cond.selects RX8 yX8_fail yX8_fail ∈ lw_tbl := List.mem_append_left _ (List.mem_of_getElem? (i := 12) (by decide +kernel))
theorem mw_s13 : Cond.selects RX8 yX8_readFilter yX8_readFilter ∈ lw_tbl := List.mem_append_left _ (List.mem_of_getElem? (i := 13) (by decide +kernel))
theorem mw_s14 : Cond.selects RX2 yX2_newLabel yX2_newLabel ∈ lw_tbl := List.mem_append_left _ (List.mem_of_getElem? (i := 14) (by decide +kernel))
theorem mw_s15 : Cond.selects RX8 yX8_readRow yX8_readRow ∈ lw_tbl := List.mem_append_left _ (List.mem_of_getElem? (i := 15) (by decide +kernel))
theorem mw_s16 : Cond.selects RX8 yX8_readOne yX8_readOne ∈ lw_tbl := List.mem_append_left _ (List.mem_of_getElem? (i := 16) (by decide +kernel))
theorem mw_s17 : Cond.selects RX8 yX8_isWord yX8_isWord ∈ lw_tbl := List.mem_append_left _ (List.mem_of_getElem? (i := 17) (by decide +kernel))
theorem mw_s18 : Cond.selects RX8 yX8_beginsRelation yX8_beginsRelation ∈ lw_tbl := List.mem_append_left _ (List.mem_of_getElem? (i := 18) (by decide +kernel))
theorem mw_s19 : Cond.selects RX8 yX8_number yX8_number ∈ lw_tbl := List.mem_append_left _ (List.mem_of_getElem? (i := 19) (by decide +kernel))
theorem mw_s22 : Cond.selects RX8 yX8_protocol yX8_protocol ∈ lw_tbl := List.mem_append_left _ (List.mem_of_getElem? (i := 22) (by decide +kernel))
theorem mw_s51 : Cond.selects RX8 yX8_readSided yX8_readSided ∈ lw_tbl := List.mem_append_left _ (List.mem_of_getElem? (i := 51) (by decide +kernel))
theorem mw_s62 : Cond.selects RX8 yX8_readLength yX8_readLength ∈ lw_tbl := List.mem_append_left _ (List.mem_of_getElem? (i := 62) (by decide +kernel))
theorem mw_s64 : Cond.selects RX2 yX2_joinLabel yX2_joinLabel ∈ lw_tbl := List.mem_append_left _ (List.mem_of_getElem? (i := 64) (by decide +kernel))
theorem mw_s65 : Cond.selects RX8 yX8_wrongPlace yX8_wrongPlace ∈ lw_tbl := List.mem_append_left _ (List.mem_of_getElem? (i := 65) (by decide +kernel))
theorem mw_s90 : Cond.selects RX7 yX7_takeTape yX7_takeTape ∈ lw_tbl := List.mem_append_left _ (List.mem_of_getElem? (i := 90) (by decide +kernel))
theorem mw_s92 : Cond.selects RX7 yX7_at yX7_at ∈ lw_tbl := List.mem_append_left _ (List.mem_of_getElem? (i := 92) (by decide +kernel))
theorem mw_s93 : Cond.selects RX3 yX3_look yX3_look ∈ lw_tbl := List.mem_append_left _ (List.mem_of_getElem? (i := 93) (by decide +kernel))
theorem mw_1034 : Cond.constantLong RX3 91 (-1) ∈ lw_tbl := List.mem_append_right _ (List.mem_of_getElem? (i := 1034) (by decide +kernel))
theorem mw_1188 : Cond.code yX11_known cX11_known 4 (some .long) ∈ lw_tbl := List.mem_append_right _ (List.mem_of_getElem? (i := 1188) (by decide +kernel))
theorem mw_1189 : Cond.methodLinkNest RX11 155 yX3_tell "FilterForge" ∈ lw_tbl := List.mem_append_right _ (List.mem_of_getElem? (i := 1189) (by decide +kernel))
theorem mw_1191 : Cond.instanceMethod yX3_tell ∈ lw_tbl := List.mem_append_right _ (List.mem_of_getElem? (i := 1191) (by decide +kernel))
theorem mw_1192 : Cond.code yX3_tell cX3_tell 6 (some .long) ∈ lw_tbl := List.mem_append_right _ (List.mem_of_getElem? (i := 1192) (by decide +kernel))
theorem mw_1196 : Cond.code yX11_run cX11_run 2 (some .long) ∈ lw_tbl := List.mem_append_right _ (List.mem_of_getElem? (i := 1196) (by decide +kernel))
theorem mw_1285 : Cond.code yX11_translate cX11_translate 1 (some .int) ∈ lw_tbl := List.mem_append_right _ (List.mem_of_getElem? (i := 1285) (by decide +kernel))
theorem mw_1387 : Cond.code yX11_raw cX11_raw 2 (some .int) ∈ lw_tbl := List.mem_append_right _ (List.mem_of_getElem? (i := 1387) (by decide +kernel))
theorem mw_1388 : Cond.methodLinkNest RX11 171 yX5_takeTape "FilterForge" ∈ lw_tbl := List.mem_append_right _ (List.mem_of_getElem? (i := 1388) (by decide +kernel))
theorem mw_1390 : Cond.instanceMethod yX5_takeTape ∈ lw_tbl := List.mem_append_right _ (List.mem_of_getElem? (i := 1390) (by decide +kernel))
theorem mw_1391 : Cond.code yX5_takeTape cX5_takeTape 3 (some .int) ∈ lw_tbl := List.mem_append_right _ (List.mem_of_getElem? (i := 1391) (by decide +kernel))
theorem mw_1396 : Cond.code yX11_word cX11_word 2 (some .int) ∈ lw_tbl := List.mem_append_right _ (List.mem_of_getElem? (i := 1396) (by decide +kernel))
theorem mw_1397 : Cond.methodLinkNest RX11 172 yX5_at "FilterForge" ∈ lw_tbl := List.mem_append_right _ (List.mem_of_getElem? (i := 1397) (by decide +kernel))
theorem mw_1399 : Cond.instanceMethod yX5_at ∈ lw_tbl := List.mem_append_right _ (List.mem_of_getElem? (i := 1399) (by decide +kernel))
theorem mw_1400 : Cond.code yX5_at cX5_at 2 (some .int) ∈ lw_tbl := List.mem_append_right _ (List.mem_of_getElem? (i := 1400) (by decide +kernel))
theorem mw_1404 : Cond.code yX11_emulate cX11_emulate 2 (some .long) ∈ lw_tbl := List.mem_append_right _ (List.mem_of_getElem? (i := 1404) (by decide +kernel))
theorem mw_1486 : Cond.code yX11_ended cX11_ended 2 (some .int) ∈ lw_tbl := List.mem_append_right _ (List.mem_of_getElem? (i := 1486) (by decide +kernel))
theorem mw_1490 : Cond.code yX11_register cX11_register 2 (some .long) ∈ lw_tbl := List.mem_append_right _ (List.mem_of_getElem? (i := 1490) (by decide +kernel))
theorem mw_1495 : Cond.code yX11_stack cX11_stack 2 (some .int) ∈ lw_tbl := List.mem_append_right _ (List.mem_of_getElem? (i := 1495) (by decide +kernel))
theorem mw_1499 : Cond.code yX11_matches cX11_matches 3 (some .int) ∈ lw_tbl := List.mem_append_right _ (List.mem_of_getElem? (i := 1499) (by decide +kernel))
theorem mw_1526 : Cond.code yX11_count cX11_count 2 (some .int) ∈ lw_tbl := List.mem_append_right _ (List.mem_of_getElem? (i := 1526) (by decide +kernel))
theorem mw_1531 : Cond.code yX16_init cX16_init 1 none ∈ lw_tbl := List.mem_append_right _ (List.mem_of_getElem? (i := 1531) (by decide +kernel))
theorem mw_1532 : Cond.methodLink RX16 1 Lib.objectInit ∈ lw_tbl := List.mem_append_right _ (List.mem_of_getElem? (i := 1532) (by decide +kernel))
theorem mw_1533 : Cond.classLink RX16 22 RX12 ∈ lw_tbl := List.mem_append_right _ (List.mem_of_getElem? (i := 1533) (by decide +kernel))
theorem mw_1535 : Cond.classLink RX16 43 RX14 ∈ lw_tbl := List.mem_append_right _ (List.mem_of_getElem? (i := 1535) (by decide +kernel))
theorem mw_1537 : Cond.constant RX16 68 (44000) ∈ lw_tbl := List.mem_append_right _ (List.mem_of_getElem? (i := 1537) (by decide +kernel))
theorem mw_1538 : Cond.constant RX16 134 (60000) ∈ lw_tbl := List.mem_append_right _ (List.mem_of_getElem? (i := 1538) (by decide +kernel))
theorem mw_1539 : Cond.fieldLink RX16 9 "FilterForgeModel" "tape" "[I" ∈ lw_tbl := List.mem_append_right _ (List.mem_of_getElem? (i := 1539) (by decide +kernel))
theorem mw_1540 : Cond.fieldLink RX16 144 "FilterForgeModel" "fed" "I" ∈ lw_tbl := List.mem_append_right _ (List.mem_of_getElem? (i := 1540) (by decide +kernel))
theorem mw_1541 : Cond.fieldLink RX16 13 "FilterForgeModel" "packetBytes" "[I" ∈ lw_tbl := List.mem_append_right _ (List.mem_of_getElem? (i := 1541) (by decide +kernel))
theorem mw_1542 : Cond.fieldLink RX16 16 "FilterForgeModel" "packetLengths" "[I" ∈ lw_tbl := List.mem_append_right _ (List.mem_of_getElem? (i := 1542) (by decide +kernel))
theorem mw_1543 : Cond.fieldLink RX16 151 "FilterForgeModel" "packets" "I" ∈ lw_tbl := List.mem_append_right _ (List.mem_of_getElem? (i := 1543) (by decide +kernel))
theorem mw_1544 : Cond.fieldLink RX16 176 "FilterForgeModel" "wordKind" "I" ∈ lw_tbl := List.mem_append_right _ (List.mem_of_getElem? (i := 1544) (by decide +kernel))
theorem mw_1545 : Cond.fieldLink RX16 173 "FilterForgeModel" "wordFrom" "I" ∈ lw_tbl := List.mem_append_right _ (List.mem_of_getElem? (i := 1545) (by decide +kernel))
theorem mw_1546 : Cond.fieldLink RX16 170 "FilterForgeModel" "wordTo" "I" ∈ lw_tbl := List.mem_append_right _ (List.mem_of_getElem? (i := 1546) (by decide +kernel))
theorem mw_1547 : Cond.fieldLink RX16 160 "FilterForgeModel" "textEnd" "I" ∈ lw_tbl := List.mem_append_right _ (List.mem_of_getElem? (i := 1547) (by decide +kernel))
theorem mw_1548 : Cond.fieldLink RX16 325 "FilterForgeModel" "openFilters" "I" ∈ lw_tbl := List.mem_append_right _ (List.mem_of_getElem? (i := 1548) (by decide +kernel))
theorem mw_1549 : Cond.fieldLink RX16 467 "FilterForgeModel" "openSums" "I" ∈ lw_tbl := List.mem_append_right _ (List.mem_of_getElem? (i := 1549) (by decide +kernel))
theorem mw_1550 : Cond.fieldLink RX16 372 "FilterForgeModel" "pending" "I" ∈ lw_tbl := List.mem_append_right _ (List.mem_of_getElem? (i := 1550) (by decide +kernel))
theorem mw_1551 : Cond.fieldLink RX16 19 "FilterForgeModel" "guards" "[I" ∈ lw_tbl := List.mem_append_right _ (List.mem_of_getElem? (i := 1551) (by decide +kernel))
theorem mw_1552 : Cond.fieldLink RX16 419 "FilterForgeModel" "guardMany" "I" ∈ lw_tbl := List.mem_append_right _ (List.mem_of_getElem? (i := 1552) (by decide +kernel))
theorem mw_1553 : Cond.fieldLink RX16 24 "FilterForgeModel" "tests" "[LFilterForgeModel$Filter;" ∈ lw_tbl := List.mem_append_right _ (List.mem_of_getElem? (i := 1553) (by decide +kernel))
theorem mw_1554 : Cond.fieldLink RX16 490 "FilterForgeModel" "testMany" "I" ∈ lw_tbl := List.mem_append_right _ (List.mem_of_getElem? (i := 1554) (by decide +kernel))
theorem mw_1555 : Cond.fieldLink RX16 28 "FilterForgeModel" "yes" "[I" ∈ lw_tbl := List.mem_append_right _ (List.mem_of_getElem? (i := 1555) (by decide +kernel))
theorem mw_1556 : Cond.fieldLink RX16 31 "FilterForgeModel" "no" "[I" ∈ lw_tbl := List.mem_append_right _ (List.mem_of_getElem? (i := 1556) (by decide +kernel))
theorem mw_1557 : Cond.fieldLink RX16 578 "FilterForgeModel" "wasRead" "Z" ∈ lw_tbl := List.mem_append_right _ (List.mem_of_getElem? (i := 1557) (by decide +kernel))
theorem mw_1558 : Cond.fieldLink RX16 646 "FilterForgeModel" "leftOut" "I" ∈ lw_tbl := List.mem_append_right _ (List.mem_of_getElem? (i := 1558) (by decide +kernel))
theorem mw_1559 : Cond.fieldLink RX16 34 "FilterForgeModel" "pile" "[LFilterForgeModel$Filter;" ∈ lw_tbl := List.mem_append_right _ (List.mem_of_getElem? (i := 1559) (by decide +kernel))
theorem mw_1560 : Cond.fieldLink RX16 37 "FilterForgeModel" "pileYes" "[I" ∈ lw_tbl := List.mem_append_right _ (List.mem_of_getElem? (i := 1560) (by decide +kernel))
theorem mw_1561 : Cond.fieldLink RX16 40 "FilterForgeModel" "pileNo" "[I" ∈ lw_tbl := List.mem_append_right _ (List.mem_of_getElem? (i := 1561) (by decide +kernel))
theorem mw_1563 : Cond.fieldLink RX16 45 "FilterForgeModel" "spine" "[LFilterForgeModel$Sum;" ∈ lw_tbl := List.mem_append_right _ (List.mem_of_getElem? (i := 1563) (by decide +kernel))
theorem mw_1565 : Cond.fieldLink RX16 49 "FilterForgeModel" "program" "[J" ∈ lw_tbl := List.mem_append_right _ (List.mem_of_getElem? (i := 1565) (by decide +kernel))
theorem mw_1566 : Cond.fieldLink RX16 672 "FilterForgeModel" "hasProgram" "Z" ∈ lw_tbl := List.mem_append_right _ (List.mem_of_getElem? (i := 1566) (by decide +kernel))
theorem mw_1567 : Cond.fieldLink RX16 53 "FilterForgeModel" "code" "[J" ∈ lw_tbl := List.mem_append_right _ (List.mem_of_getElem? (i := 1567) (by decide +kernel))
theorem mw_1569 : Cond.fieldLink RX16 56 "FilterForgeModel" "wantsAt" "[I" ∈ lw_tbl := List.mem_append_right _ (List.mem_of_getElem? (i := 1569) (by decide +kernel))
theorem mw_1570 : Cond.fieldLink RX16 59 "FilterForgeModel" "wantsWhat" "[I" ∈ lw_tbl := List.mem_append_right _ (List.mem_of_getElem? (i := 1570) (by decide +kernel))
theorem mw_1572 : Cond.fieldLink RX16 62 "FilterForgeModel" "registers" "[J" ∈ lw_tbl := List.mem_append_right _ (List.mem_of_getElem? (i := 1572) (by decide +kernel))
theorem mw_1573 : Cond.fieldLink RX16 65 "FilterForgeModel" "stackBytes" "[I" ∈ lw_tbl := List.mem_append_right _ (List.mem_of_getElem? (i := 1573) (by decide +kernel))
theorem mw_1574 : Cond.fieldLink RX16 733 "FilterForgeModel" "trap" "I" ∈ lw_tbl := List.mem_append_right _ (List.mem_of_getElem? (i := 1574) (by decide +kernel))
theorem mw_1575 : Cond.fieldLink RX16 736 "FilterForgeModel" "steps" "I" ∈ lw_tbl := List.mem_append_right _ (List.mem_of_getElem? (i := 1575) (by decide +kernel))
theorem mw_1576 : Cond.fieldLink RX16 739 "FilterForgeModel" "endedAt" "I" ∈ lw_tbl := List.mem_append_right _ (List.mem_of_getElem? (i := 1576) (by decide +kernel))
theorem mw_1577 : Cond.fieldLink RX16 769 "FilterForgeModel" "wasEmulated" "Z" ∈ lw_tbl := List.mem_append_right _ (List.mem_of_getElem? (i := 1577) (by decide +kernel))
theorem mw_1578 : Cond.fieldLink RX16 69 "FilterForgeModel" "kinds" "[I" ∈ lw_tbl := List.mem_append_right _ (List.mem_of_getElem? (i := 1578) (by decide +kernel))
theorem mw_1579 : Cond.fieldLink RX16 72 "FilterForgeModel" "lows" "[J" ∈ lw_tbl := List.mem_append_right _ (List.mem_of_getElem? (i := 1579) (by decide +kernel))
theorem mw_1580 : Cond.fieldLink RX16 75 "FilterForgeModel" "highs" "[J" ∈ lw_tbl := List.mem_append_right _ (List.mem_of_getElem? (i := 1580) (by decide +kernel))
theorem mw_1581 : Cond.fieldLink RX16 78 "FilterForgeModel" "knowns" "[J" ∈ lw_tbl := List.mem_append_right _ (List.mem_of_getElem? (i := 1581) (by decide +kernel))
theorem mw_1582 : Cond.fieldLink RX16 81 "FilterForgeModel" "ones" "[J" ∈ lw_tbl := List.mem_append_right _ (List.mem_of_getElem? (i := 1582) (by decide +kernel))
theorem mw_1583 : Cond.fieldLink RX16 84 "FilterForgeModel" "sets" "[J" ∈ lw_tbl := List.mem_append_right _ (List.mem_of_getElem? (i := 1583) (by decide +kernel))
theorem mw_1584 : Cond.fieldLink RX16 87 "FilterForgeModel" "comes" "[Z" ∈ lw_tbl := List.mem_append_right _ (List.mem_of_getElem? (i := 1584) (by decide +kernel))
theorem mw_1585 : Cond.fieldLink RX16 91 "FilterForgeModel" "looked" "I" ∈ lw_tbl := List.mem_append_right _ (List.mem_of_getElem? (i := 1585) (by decide +kernel))
theorem mw_1594 : Cond.fieldLink RX16 95 "FilterForgeModel" "kind" "[I" ∈ lw_tbl := List.mem_append_right _ (List.mem_of_getElem? (i := 1594) (by decide +kernel))
theorem mw_1595 : Cond.fieldLink RX16 98 "FilterForgeModel" "l" "[J" ∈ lw_tbl := List.mem_append_right _ (List.mem_of_getElem? (i := 1595) (by decide +kernel))
theorem mw_1596 : Cond.fieldLink RX16 101 "FilterForgeModel" "h" "[J" ∈ lw_tbl := List.mem_append_right _ (List.mem_of_getElem? (i := 1596) (by decide +kernel))
theorem mw_1597 : Cond.fieldLink RX16 104 "FilterForgeModel" "k" "[J" ∈ lw_tbl := List.mem_append_right _ (List.mem_of_getElem? (i := 1597) (by decide +kernel))
theorem mw_1598 : Cond.fieldLink RX16 107 "FilterForgeModel" "o" "[J" ∈ lw_tbl := List.mem_append_right _ (List.mem_of_getElem? (i := 1598) (by decide +kernel))
theorem mw_1600 : Cond.fieldLink RX16 110 "FilterForgeModel" "otherKinds" "[I" ∈ lw_tbl := List.mem_append_right _ (List.mem_of_getElem? (i := 1600) (by decide +kernel))
theorem mw_1601 : Cond.fieldLink RX16 113 "FilterForgeModel" "otherLows" "[J" ∈ lw_tbl := List.mem_append_right _ (List.mem_of_getElem? (i := 1601) (by decide +kernel))
theorem mw_1602 : Cond.fieldLink RX16 116 "FilterForgeModel" "otherHighs" "[J" ∈ lw_tbl := List.mem_append_right _ (List.mem_of_getElem? (i := 1602) (by decide +kernel))
theorem mw_1603 : Cond.fieldLink RX16 119 "FilterForgeModel" "otherKnowns" "[J" ∈ lw_tbl := List.mem_append_right _ (List.mem_of_getElem? (i := 1603) (by decide +kernel))
theorem mw_1604 : Cond.fieldLink RX16 122 "FilterForgeModel" "otherOnes" "[J" ∈ lw_tbl := List.mem_append_right _ (List.mem_of_getElem? (i := 1604) (by decide +kernel))
theorem mw_1605 : Cond.fieldLink RX16 125 "FilterForgeModel" "otherSets" "[J" ∈ lw_tbl := List.mem_append_right _ (List.mem_of_getElem? (i := 1605) (by decide +kernel))
theorem mw_1606 : Cond.fieldLink RX16 128 "FilterForgeModel" "otherComes" "[Z" ∈ lw_tbl := List.mem_append_right _ (List.mem_of_getElem? (i := 1606) (by decide +kernel))
theorem mw_1607 : Cond.fieldLink RX16 131 "FilterForgeModel" "otherLooked" "I" ∈ lw_tbl := List.mem_append_right _ (List.mem_of_getElem? (i := 1607) (by decide +kernel))
theorem mw_1608 : Cond.fieldLink RX16 135 "FilterForgeModel" "object" "[I" ∈ lw_tbl := List.mem_append_right _ (List.mem_of_getElem? (i := 1608) (by decide +kernel))
theorem mw_1609 : Cond.fieldLink RX16 1017 "FilterForgeModel" "objectMany" "I" ∈ lw_tbl := List.mem_append_right _ (List.mem_of_getElem? (i := 1609) (by decide +kernel))
theorem mw_1610 : Cond.fieldLink RX16 1020 "FilterForgeModel" "hasObject" "Z" ∈ lw_tbl := List.mem_append_right _ (List.mem_of_getElem? (i := 1610) (by decide +kernel))
theorem mw_1611 : Cond.fieldLink RX16 138 "FilterForgeModel" "words" "[I" ∈ lw_tbl := List.mem_append_right _ (List.mem_of_getElem? (i := 1611) (by decide +kernel))
theorem mw_1613 : Cond.fieldLink RX16 141 "FilterForgeModel" "wordOf" "[I" ∈ lw_tbl := List.mem_append_right _ (List.mem_of_getElem? (i := 1613) (by decide +kernel))
theorem mw_1777 : Cond.code yX16_feed cX16_feed 6 (some .int) ∈ lw_tbl := List.mem_append_right _ (List.mem_of_getElem? (i := 1777) (by decide +kernel))
theorem mw_1778 : Cond.methodLink RX16 147 yX16_feedOne ∈ lw_tbl := List.mem_append_right _ (List.mem_of_getElem? (i := 1778) (by decide +kernel))
theorem mw_1780 : Cond.instanceMethod yX16_feedOne ∈ lw_tbl := List.mem_append_right _ (List.mem_of_getElem? (i := 1780) (by decide +kernel))
theorem mw_1781 : Cond.code yX16_feedOne cX16_feedOne 3 none ∈ lw_tbl := List.mem_append_right _ (List.mem_of_getElem? (i := 1781) (by decide +kernel))
theorem mw_1785 : Cond.code yX16_end cX16_end 2 (some .int) ∈ lw_tbl := List.mem_append_right _ (List.mem_of_getElem? (i := 1785) (by decide +kernel))
theorem mw_1789 : Cond.code yX16_packet cX16_packet 3 (some .int) ∈ lw_tbl := List.mem_append_right _ (List.mem_of_getElem? (i := 1789) (by decide +kernel))
theorem mw_1793 : Cond.code yX16_bytes cX16_bytes 6 (some .long) ∈ lw_tbl := List.mem_append_right _ (List.mem_of_getElem? (i := 1793) (by decide +kernel))
theorem mw_1794 : Cond.methodLink RX16 154 yX16_isPacket ∈ lw_tbl := List.mem_append_right _ (List.mem_of_getElem? (i := 1794) (by decide +kernel))
theorem mw_1796 : Cond.instanceMethod yX16_isPacket ∈ lw_tbl := List.mem_append_right _ (List.mem_of_getElem? (i := 1796) (by decide +kernel))
theorem mw_1797 : Cond.code yX16_isPacket cX16_isPacket 2 (some .boolean) ∈ lw_tbl := List.mem_append_right _ (List.mem_of_getElem? (i := 1797) (by decide +kernel))
theorem mw_1798 : Cond.constantLong RX16 158 (-1) ∈ lw_tbl := List.mem_append_right _ (List.mem_of_getElem? (i := 1798) (by decide +kernel))
theorem mw_1802 : Cond.code yX16_matches cX16_matches 3 (some .int) ∈ lw_tbl := List.mem_append_right _ (List.mem_of_getElem? (i := 1802) (by decide +kernel))
theorem mw_1820 : Cond.constantLong RX16 219 (4294967295) ∈ lw_tbl := List.mem_append_right _ (List.mem_of_getElem? (i := 1820) (by decide +kernel))
theorem mw_1907 : Cond.codeWith yX16_compile cX16_compile 8 (some .int) [(33, 58, 61, 186)] ∈ lw_tbl := List.mem_append_right _ (List.mem_of_getElem? (i := 1907) (by decide +kernel))
theorem mw_1908 : Cond.classLink RX16 186 RX15 ∈ lw_tbl := List.mem_append_right _ (List.mem_of_getElem? (i := 1908) (by decide +kernel))
theorem mw_1909 : Cond.methodLink RX16 204 yX16_next ∈ lw_tbl := List.mem_append_right _ (List.mem_of_getElem? (i := 1909) (by decide +kernel))
theorem mw_1911 : Cond.instanceMethod yX16_next ∈ lw_tbl := List.mem_append_right _ (List.mem_of_getElem? (i := 1911) (by decide +kernel))
theorem mw_1912 : Cond.code yX16_next cX16_next 6 none ∈ lw_tbl := List.mem_append_right _ (List.mem_of_getElem? (i := 1912) (by decide +kernel))
theorem mw_1924 : Cond.methodLink RX16 182 yX16_must ∈ lw_tbl := List.mem_append_right _ (List.mem_of_getElem? (i := 1924) (by decide +kernel))
theorem mw_1926 : Cond.instanceMethod yX16_must ∈ lw_tbl := List.mem_append_right _ (List.mem_of_getElem? (i := 1926) (by decide +kernel))
theorem mw_1927 : Cond.code yX16_must cX16_must 2 none ∈ lw_tbl := List.mem_append_right _ (List.mem_of_getElem? (i := 1927) (by decide +kernel))
theorem mw_1928 : Cond.instantiable RX15 7 ∈ lw_tbl := List.mem_append_right _ (List.mem_of_getElem? (i := 1928) (by decide +kernel))
theorem mw_1929 : Cond.castable RX15 RX15 ∈ lw_tbl := List.mem_append_right _ (List.mem_of_getElem? (i := 1929) (by decide +kernel))
theorem mw_1936 : Cond.methodLink RX16 188 yX15_init ∈ lw_tbl := List.mem_append_right _ (List.mem_of_getElem? (i := 1936) (by decide +kernel))
theorem mw_1937 : Cond.instanceMethod yX15_init ∈ lw_tbl := List.mem_append_right _ (List.mem_of_getElem? (i := 1937) (by decide +kernel))
theorem mw_1938 : Cond.code yX15_init cX15_init 2 none ∈ lw_tbl := List.mem_append_right _ (List.mem_of_getElem? (i := 1938) (by decide +kernel))
theorem mw_1940 : Cond.fieldLink RX15 7 "FilterForgeModel$Wrong" "place" "I" ∈ lw_tbl := List.mem_append_right _ (List.mem_of_getElem? (i := 1940) (by decide +kernel))
theorem mw_1941 : Cond.fieldLink RX16 643 "FilterForgeModel$Wrong" "place" "I" ∈ lw_tbl := List.mem_append_right _ (List.mem_of_getElem? (i := 1941) (by decide +kernel))
theorem mw_1946 : Cond.methodLink RX16 335 yX16_readFilter ∈ lw_tbl := List.mem_append_right _ (List.mem_of_getElem? (i := 1946) (by decide +kernel))
theorem mw_1948 : Cond.instanceMethod yX16_readFilter ∈ lw_tbl := List.mem_append_right _ (List.mem_of_getElem? (i := 1948) (by decide +kernel))
theorem mw_1949 : Cond.code yX16_readFilter cX16_readFilter 2 (some (.object "FilterForgeModel$Filter")) ∈ lw_tbl := List.mem_append_right _ (List.mem_of_getElem? (i := 1949) (by decide +kernel))
theorem mw_1950 : Cond.methodLink RX16 317 yX16_readAll ∈ lw_tbl := List.mem_append_right _ (List.mem_of_getElem? (i := 1950) (by decide +kernel))
theorem mw_1952 : Cond.instanceMethod yX16_readAll ∈ lw_tbl := List.mem_append_right _ (List.mem_of_getElem? (i := 1952) (by decide +kernel))
theorem mw_1953 : Cond.code yX16_readAll cX16_readAll 2 (some (.object "FilterForgeModel$Filter")) ∈ lw_tbl := List.mem_append_right _ (List.mem_of_getElem? (i := 1953) (by decide +kernel))
theorem mw_1954 : Cond.methodLink RX16 321 yX16_readOne ∈ lw_tbl := List.mem_append_right _ (List.mem_of_getElem? (i := 1954) (by decide +kernel))
theorem mw_1956 : Cond.instanceMethod yX16_readOne ∈ lw_tbl := List.mem_append_right _ (List.mem_of_getElem? (i := 1956) (by decide +kernel))
theorem mw_1957 : Cond.code yX16_readOne cX16_readOne 3 (some (.object "FilterForgeModel$Filter")) ∈ lw_tbl := List.mem_append_right _ (List.mem_of_getElem? (i := 1957) (by decide +kernel))
theorem mw_1959 : Cond.methodLink RX16 200 yX16_is ∈ lw_tbl := List.mem_append_right _ (List.mem_of_getElem? (i := 1959) (by decide +kernel))
theorem mw_1961 : Cond.instanceMethod yX16_is ∈ lw_tbl := List.mem_append_right _ (List.mem_of_getElem? (i := 1961) (by decide +kernel))
theorem mw_1962 : Cond.code yX16_is cX16_is 4 (some .boolean) ∈ lw_tbl := List.mem_append_right _ (List.mem_of_getElem? (i := 1962) (by decide +kernel))
theorem mw_2008 : Cond.methodLink RX16 344 yX16_accessOf ∈ lw_tbl := List.mem_append_right _ (List.mem_of_getElem? (i := 2008) (by decide +kernel))
theorem mw_2010 : Cond.instanceMethod yX16_accessOf ∈ lw_tbl := List.mem_append_right _ (List.mem_of_getElem? (i := 2010) (by decide +kernel))
theorem mw_2011 : Cond.code yX16_accessOf cX16_accessOf 1 (some .int) ∈ lw_tbl := List.mem_append_right _ (List.mem_of_getElem? (i := 2011) (by decide +kernel))
theorem mw_2024 : Cond.methodLink RX16 375 yX16_readRelation ∈ lw_tbl := List.mem_append_right _ (List.mem_of_getElem? (i := 2024) (by decide +kernel))
theorem mw_2026 : Cond.instanceMethod yX16_readRelation ∈ lw_tbl := List.mem_append_right _ (List.mem_of_getElem? (i := 2026) (by decide +kernel))
theorem mw_2027 : Cond.code yX16_readRelation cX16_readRelation 5 (some (.object "FilterForgeModel$Filter")) ∈ lw_tbl := List.mem_append_right _ (List.mem_of_getElem? (i := 2027) (by decide +kernel))
theorem mw_2028 : Cond.methodLink RX16 422 yX16_readSum ∈ lw_tbl := List.mem_append_right _ (List.mem_of_getElem? (i := 2028) (by decide +kernel))
theorem mw_2030 : Cond.instanceMethod yX16_readSum ∈ lw_tbl := List.mem_append_right _ (List.mem_of_getElem? (i := 2030) (by decide +kernel))
theorem mw_2031 : Cond.code yX16_readSum cX16_readSum 3 (some (.object "FilterForgeModel$Sum")) ∈ lw_tbl := List.mem_append_right _ (List.mem_of_getElem? (i := 2031) (by decide +kernel))
theorem mw_2032 : Cond.methodLink RX16 438 yX16_readProduct ∈ lw_tbl := List.mem_append_right _ (List.mem_of_getElem? (i := 2032) (by decide +kernel))
theorem mw_2034 : Cond.instanceMethod yX16_readProduct ∈ lw_tbl := List.mem_append_right _ (List.mem_of_getElem? (i := 2034) (by decide +kernel))
theorem mw_2035 : Cond.code yX16_readProduct cX16_readProduct 3 (some (.object "FilterForgeModel$Sum")) ∈ lw_tbl := List.mem_append_right _ (List.mem_of_getElem? (i := 2035) (by decide +kernel))
theorem mw_2036 : Cond.methodLink RX16 450 yX16_readAtom ∈ lw_tbl := List.mem_append_right _ (List.mem_of_getElem? (i := 2036) (by decide +kernel))
theorem mw_2038 : Cond.instanceMethod yX16_readAtom ∈ lw_tbl := List.mem_append_right _ (List.mem_of_getElem? (i := 2038) (by decide +kernel))
theorem mw_2039 : Cond.code yX16_readAtom cX16_readAtom 3 (some (.object "FilterForgeModel$Sum")) ∈ lw_tbl := List.mem_append_right _ (List.mem_of_getElem? (i := 2039) (by decide +kernel))
theorem mw_2074 : Cond.methodLink RX16 355 yX16_wantNumber ∈ lw_tbl := List.mem_append_right _ (List.mem_of_getElem? (i := 2074) (by decide +kernel))
theorem mw_2076 : Cond.instanceMethod yX16_wantNumber ∈ lw_tbl := List.mem_append_right _ (List.mem_of_getElem? (i := 2076) (by decide +kernel))
theorem mw_2077 : Cond.code yX16_wantNumber cX16_wantNumber 7 (some .long) ∈ lw_tbl := List.mem_append_right _ (List.mem_of_getElem? (i := 2077) (by decide +kernel))
theorem mw_2078 : Cond.methodLink RX16 221 yX16_number ∈ lw_tbl := List.mem_append_right _ (List.mem_of_getElem? (i := 2078) (by decide +kernel))
theorem mw_2080 : Cond.instanceMethod yX16_number ∈ lw_tbl := List.mem_append_right _ (List.mem_of_getElem? (i := 2080) (by decide +kernel))
theorem mw_2081 : Cond.code yX16_number cX16_number 8 (some .long) ∈ lw_tbl := List.mem_append_right _ (List.mem_of_getElem? (i := 2081) (by decide +kernel))
theorem mw_2303 : Cond.code yX16_load cX16_load 3 (some .int) ∈ lw_tbl := List.mem_append_right _ (List.mem_of_getElem? (i := 2303) (by decide +kernel))
theorem mw_2307 : Cond.code yX16_instruction cX16_instruction 2 (some .long) ∈ lw_tbl := List.mem_append_right _ (List.mem_of_getElem? (i := 2307) (by decide +kernel))
theorem mw_2311 : Cond.code yX16_run cX16_run 6 (some .long) ∈ lw_tbl := List.mem_append_right _ (List.mem_of_getElem? (i := 2311) (by decide +kernel))
theorem mw_2400 : Cond.code yX16_ended cX16_ended 2 (some .int) ∈ lw_tbl := List.mem_append_right _ (List.mem_of_getElem? (i := 2400) (by decide +kernel))
theorem mw_2404 : Cond.code yX16_register cX16_register 2 (some .long) ∈ lw_tbl := List.mem_append_right _ (List.mem_of_getElem? (i := 2404) (by decide +kernel))
theorem mw_2408 : Cond.code yX16_stack cX16_stack 2 (some .int) ∈ lw_tbl := List.mem_append_right _ (List.mem_of_getElem? (i := 2408) (by decide +kernel))
theorem mw_2412 : Cond.code yX16_verify cX16_verify 1 (some .int) ∈ lw_tbl := List.mem_append_right _ (List.mem_of_getElem? (i := 2412) (by decide +kernel))
theorem mw_2556 : Cond.code yX16_known cX16_known 6 (some .long) ∈ lw_tbl := List.mem_append_right _ (List.mem_of_getElem? (i := 2556) (by decide +kernel))
theorem mw_2560 : Cond.code yX16_translate cX16_translate 6 (some .int) ∈ lw_tbl := List.mem_append_right _ (List.mem_of_getElem? (i := 2560) (by decide +kernel))
theorem mw_2656 : Cond.code yX16_raw cX16_raw 3 (some .int) ∈ lw_tbl := List.mem_append_right _ (List.mem_of_getElem? (i := 2656) (by decide +kernel))
theorem mw_2660 : Cond.code yX16_word cX16_word 2 (some .int) ∈ lw_tbl := List.mem_append_right _ (List.mem_of_getElem? (i := 2660) (by decide +kernel))
theorem mw_2664 : Cond.code yX16_emulate cX16_emulate 6 (some .long) ∈ lw_tbl := List.mem_append_right _ (List.mem_of_getElem? (i := 2664) (by decide +kernel))
theorem mw_2735 : Cond.code yX16_count cX16_count 2 (some .int) ∈ lw_tbl := List.mem_append_right _ (List.mem_of_getElem? (i := 2735) (by decide +kernel))
theorem mw_s129 : Cond.selects RX3 yX3_tell yX3_tell ∈ lw_tbl := List.mem_append_left _ (List.mem_of_getElem? (i := 129) (by decide +kernel))
theorem mw_s163 : Cond.selects RX5 yX5_takeTape yX5_takeTape ∈ lw_tbl := List.mem_append_left _ (List.mem_of_getElem? (i := 163) (by decide +kernel))
theorem mw_s164 : Cond.selects RX5 yX5_at yX5_at ∈ lw_tbl := List.mem_append_left _ (List.mem_of_getElem? (i := 164) (by decide +kernel))
theorem mw_s169 : Cond.selects RX16 yX16_feedOne yX16_feedOne ∈ lw_tbl := List.mem_append_left _ (List.mem_of_getElem? (i := 169) (by decide +kernel))
theorem mw_s170 : Cond.selects RX16 yX16_isPacket yX16_isPacket ∈ lw_tbl := List.mem_append_left _ (List.mem_of_getElem? (i := 170) (by decide +kernel))
theorem mw_s179 : Cond.selects RX16 yX16_next yX16_next ∈ lw_tbl := List.mem_append_left _ (List.mem_of_getElem? (i := 179) (by decide +kernel))
theorem mw_s182 : Cond.selects RX16 yX16_must yX16_must ∈ lw_tbl := List.mem_append_left _ (List.mem_of_getElem? (i := 182) (by decide +kernel))
theorem mw_s183 : Cond.selects RX16 yX16_readFilter yX16_readFilter ∈ lw_tbl := List.mem_append_left _ (List.mem_of_getElem? (i := 183) (by decide +kernel))
theorem mw_s184 : Cond.selects RX16 yX16_readAll yX16_readAll ∈ lw_tbl := List.mem_append_left _ (List.mem_of_getElem? (i := 184) (by decide +kernel))
theorem mw_s185 : Cond.selects RX16 yX16_readOne yX16_readOne ∈ lw_tbl := List.mem_append_left _ (List.mem_of_getElem? (i := 185) (by decide +kernel))
theorem mw_s186 : Cond.selects RX16 yX16_is yX16_is ∈ lw_tbl := List.mem_append_left _ (List.mem_of_getElem? (i := 186) (by decide +kernel))
theorem mw_s189 : Cond.selects RX16 yX16_accessOf yX16_accessOf ∈ lw_tbl := List.mem_append_left _ (List.mem_of_getElem? (i := 189) (by decide +kernel))
theorem mw_s191 : Cond.selects RX16 yX16_readRelation yX16_readRelation ∈ lw_tbl := List.mem_append_left _ (List.mem_of_getElem? (i := 191) (by decide +kernel))
theorem mw_s192 : Cond.selects RX16 yX16_readSum yX16_readSum ∈ lw_tbl := List.mem_append_left _ (List.mem_of_getElem? (i := 192) (by decide +kernel))
theorem mw_s193 : Cond.selects RX16 yX16_readProduct yX16_readProduct ∈ lw_tbl := List.mem_append_left _ (List.mem_of_getElem? (i := 193) (by decide +kernel))
theorem mw_s194 : Cond.selects RX16 yX16_readAtom yX16_readAtom ∈ lw_tbl := List.mem_append_left _ (List.mem_of_getElem? (i := 194) (by decide +kernel))
theorem mw_s196 : Cond.selects RX16 yX16_wantNumber yX16_wantNumber ∈ lw_tbl := List.mem_append_left _ (List.mem_of_getElem? (i := 196) (by decide +kernel))
theorem mw_s197 : Cond.selects RX16 yX16_number yX16_number ∈ lw_tbl := List.mem_append_left _ (List.mem_of_getElem? (i := 197) (by decide +kernel))
theorem mw_x521 : Cond.stringRef RX8 151 "not" ∈ tables_1 := List.mem_of_getElem? (i := 521) (by decide +kernel)
theorem mw_x578 : Cond.stringRef RX8 175 "len" ∈ tables_1 := List.mem_of_getElem? (i := 578) (by decide +kernel)
theorem mw_x603 : Cond.stringRef RX8 75 "ether" ∈ tables_1 := List.mem_of_getElem? (i := 603) (by decide +kernel)
theorem mw_x604 : Cond.stringRef RX8 81 "ip" ∈ tables_1 := List.mem_of_getElem? (i := 604) (by decide +kernel)
theorem mw_x605 : Cond.stringRef RX8 83 "ip6" ∈ tables_1 := List.mem_of_getElem? (i := 605) (by decide +kernel)
theorem mw_x606 : Cond.stringRef RX8 85 "arp" ∈ tables_1 := List.mem_of_getElem? (i := 606) (by decide +kernel)
theorem mw_x607 : Cond.stringRef RX8 87 "tcp" ∈ tables_1 := List.mem_of_getElem? (i := 607) (by decide +kernel)
theorem mw_x608 : Cond.stringRef RX8 89 "udp" ∈ tables_1 := List.mem_of_getElem? (i := 608) (by decide +kernel)
theorem mw_x609 : Cond.stringRef RX8 91 "icmp" ∈ tables_1 := List.mem_of_getElem? (i := 609) (by decide +kernel)
theorem mw_x740 : Cond.stringRef RX8 195 "src" ∈ tables_1 := List.mem_of_getElem? (i := 740) (by decide +kernel)
theorem mw_x741 : Cond.stringRef RX8 197 "dst" ∈ tables_1 := List.mem_of_getElem? (i := 741) (by decide +kernel)
theorem mw_x742 : Cond.stringRef RX8 199 "host" ∈ tables_1 := List.mem_of_getElem? (i := 742) (by decide +kernel)
theorem mw_x763 : Cond.stringRef RX8 208 "net" ∈ tables_1 := List.mem_of_getElem? (i := 763) (by decide +kernel)
theorem mw_x769 : Cond.stringRef RX8 213 "port" ∈ tables_1 := List.mem_of_getElem? (i := 769) (by decide +kernel)
theorem mw_x786 : Cond.stringRef RX8 219 "portrange" ∈ tables_1 := List.mem_of_getElem? (i := 786) (by decide +kernel)
theorem mw_x791 : Cond.stringRef RX8 226 "less" ∈ tables_1 := List.mem_of_getElem? (i := 791) (by decide +kernel)
theorem mw_x792 : Cond.stringRef RX8 228 "greater" ∈ tables_1 := List.mem_of_getElem? (i := 792) (by decide +kernel)
theorem mw_x798 : Cond.stringRef RX8 149 "and" ∈ tables_1 := List.mem_of_getElem? (i := 798) (by decide +kernel)
theorem mw_x804 : Cond.stringRef RX8 136 "or" ∈ tables_1 := List.mem_of_getElem? (i := 804) (by decide +kernel)
theorem mw_x1958 : Cond.stringRef RX16 328 "not" ∈ tables_1 := List.mem_of_getElem? (i := 1958) (by decide +kernel)
theorem mw_x2002 : Cond.stringRef RX16 333 "(" ∈ tables_1 := List.mem_of_getElem? (i := 2002) (by decide +kernel)
theorem mw_x2012 : Cond.stringRef RX16 378 "ether" ∈ tables_1 := List.mem_of_getElem? (i := 2012) (by decide +kernel)
theorem mw_x2013 : Cond.stringRef RX16 379 "ip" ∈ tables_1 := List.mem_of_getElem? (i := 2013) (by decide +kernel)
theorem mw_x2014 : Cond.stringRef RX16 381 "ip6" ∈ tables_1 := List.mem_of_getElem? (i := 2014) (by decide +kernel)
theorem mw_x2015 : Cond.stringRef RX16 383 "arp" ∈ tables_1 := List.mem_of_getElem? (i := 2015) (by decide +kernel)
theorem mw_x2016 : Cond.stringRef RX16 385 "tcp" ∈ tables_1 := List.mem_of_getElem? (i := 2016) (by decide +kernel)
theorem mw_x2017 : Cond.stringRef RX16 387 "udp" ∈ tables_1 := List.mem_of_getElem? (i := 2017) (by decide +kernel)
theorem mw_x2018 : Cond.stringRef RX16 389 "icmp" ∈ tables_1 := List.mem_of_getElem? (i := 2018) (by decide +kernel)
theorem mw_x2040 : Cond.stringRef RX16 414 "-" ∈ tables_1 := List.mem_of_getElem? (i := 2040) (by decide +kernel)
theorem mw_x2067 : Cond.stringRef RX16 470 "{" ∈ tables_1 := List.mem_of_getElem? (i := 2067) (by decide +kernel)
theorem mw_x2073 : Cond.stringRef RX16 477 "len" ∈ tables_1 := List.mem_of_getElem? (i := 2073) (by decide +kernel)
theorem mw_x2164 : Cond.stringRef RX16 351 "less" ∈ tables_1 := List.mem_of_getElem? (i := 2164) (by decide +kernel)
theorem mw_x2165 : Cond.stringRef RX16 353 "greater" ∈ tables_1 := List.mem_of_getElem? (i := 2165) (by decide +kernel)
theorem mw_x2166 : Cond.stringRef RX16 358 "src" ∈ tables_1 := List.mem_of_getElem? (i := 2166) (by decide +kernel)
theorem mw_x2167 : Cond.stringRef RX16 360 "dst" ∈ tables_1 := List.mem_of_getElem? (i := 2167) (by decide +kernel)
theorem mw_x2168 : Cond.stringRef RX16 362 "host" ∈ tables_1 := List.mem_of_getElem? (i := 2168) (by decide +kernel)
theorem mw_x2169 : Cond.stringRef RX16 363 "net" ∈ tables_1 := List.mem_of_getElem? (i := 2169) (by decide +kernel)
theorem mw_x2170 : Cond.stringRef RX16 365 "port" ∈ tables_1 := List.mem_of_getElem? (i := 2170) (by decide +kernel)
theorem mw_x2171 : Cond.stringRef RX16 367 "portrange" ∈ tables_1 := List.mem_of_getElem? (i := 2171) (by decide +kernel)
theorem mw_oi : Cond.code Lib.objectInit ⟨#[0xb1]⟩ 1 none ∈ lw_tbl := mw_35
theorem guX0 : GoodIn lw_tbl (u_ws RX0 TX0 5) := goodIn_r (u_ws RX0 TX0 5) [559, 561, 563, 565, 567] (by decide +kernel) (by decide +kernel)
theorem htX0 {s : State} (hn : nwOK s) {args : Array Value} : ∀ w ∈ u_ws RX0 TX0 5, w.before args s = true := fun w h => hn.get (guX0 w h).1 (okW_of (guX0 w h).2)
theorem dfX0 : ∀ j, j < 5 → defaultValue (tyX0 j) = vp_V [.null, .null, .null, .null, .int 0] j := by decide +kernel
theorem guX1 : GoodIn lw_tbl (u_ws RX1 TX1 5) := goodIn_r (u_ws RX1 TX1 5) [615, 617, 619, 621, 623] (by decide +kernel) (by decide +kernel)
theorem htX1 {s : State} (hn : nwOK s) {args : Array Value} : ∀ w ∈ u_ws RX1 TX1 5, w.before args s = true := fun w h => hn.get (guX1 w h).1 (okW_of (guX1 w h).2)
theorem dfX1 : ∀ j, j < 5 → defaultValue (tyX1 j) = vp_V [.int 0, .long 0, .long 0, .long 0, .long 0] j := by decide +kernel
theorem guX2 : GoodIn lw_tbl (u_ws RX2 TX2 18) := goodIn_r (u_ws RX2 TX2 18) [467, 469, 471, 473, 475, 477, 479, 481, 483, 485, 487, 489, 491, 493, 495, 497, 499, 501] (by decide +kernel) (by decide +kernel)
theorem htX2 {s : State} (hn : nwOK s) {args : Array Value} : ∀ w ∈ u_ws RX2 TX2 18, w.before args s = true := fun w h => hn.get (guX2 w h).1 (okW_of (guX2 w h).2)
theorem dfX2 : ∀ j, j < 18 → defaultValue (tyX2 j) = vp_V [.null, .null, .null, .int 0, .null, .null, .null, .null, .null, .null, .null, .int 0, .int 0, .null, .int 0, .null, .int 0, .null] j := by decide +kernel
theorem guX3 : GoodIn lw_tbl (u_ws RX3 TX3 14) := goodIn_r (u_ws RX3 TX3 14) [640, 642, 644, 646, 648, 650, 652, 654, 656, 658, 660, 662, 664, 666] (by decide +kernel) (by decide +kernel)
theorem htX3 {s : State} (hn : nwOK s) {args : Array Value} : ∀ w ∈ u_ws RX3 TX3 14, w.before args s = true := fun w h => hn.get (guX3 w h).1 (okW_of (guX3 w h).2)
theorem dfX3 : ∀ j, j < 14 → defaultValue (tyX3 j) = vp_V [.null, .null, .null, .null, .null, .null, .null, .null, .null, .null, .null, .long 0, .null, .int 0] j := by decide +kernel
theorem guX4 : GoodIn lw_tbl (u_ws RX4 TX4 10) := goodIn_r (u_ws RX4 TX4 10) [390, 392, 394, 396, 398, 400, 402, 404, 406, 408] (by decide +kernel) (by decide +kernel)
theorem htX4 {s : State} (hn : nwOK s) {args : Array Value} : ∀ w ∈ u_ws RX4 TX4 10, w.before args s = true := fun w h => hn.get (guX4 w h).1 (okW_of (guX4 w h).2)
theorem dfX4 : ∀ j, j < 10 → defaultValue (tyX4 j) = vp_V [.null, .null, .null, .int 0, .int 0, .int 0, .int 0, .int 0, .long 0, .int 0] j := by decide +kernel
theorem guX5 : GoodIn lw_tbl (u_ws RX5 TX5 2) := goodIn_r (u_ws RX5 TX5 2) [424, 426] (by decide +kernel) (by decide +kernel)
theorem htX5 {s : State} (hn : nwOK s) {args : Array Value} : ∀ w ∈ u_ws RX5 TX5 2, w.before args s = true := fun w h => hn.get (guX5 w h).1 (okW_of (guX5 w h).2)
theorem dfX5 : ∀ j, j < 2 → defaultValue (tyX5 j) = vp_V [.null, .int 0] j := by decide +kernel
theorem guX6 : GoodIn lw_tbl (u_ws RX6 TX6 3) := goodIn_r (u_ws RX6 TX6 3) [353, 355, 357] (by decide +kernel) (by decide +kernel)
theorem htX6 {s : State} (hn : nwOK s) {args : Array Value} : ∀ w ∈ u_ws RX6 TX6 3, w.before args s = true := fun w h => hn.get (guX6 w h).1 (okW_of (guX6 w h).2)
theorem dfX6 : ∀ j, j < 3 → defaultValue (tyX6 j) = vp_V [.null, .null, .int 0] j := by decide +kernel
theorem guX7 : GoodIn lw_tbl (u_ws RX7 TX7 2) := goodIn_r (u_ws RX7 TX7 2) [518, 520] (by decide +kernel) (by decide +kernel)
theorem htX7 {s : State} (hn : nwOK s) {args : Array Value} : ∀ w ∈ u_ws RX7 TX7 2, w.before args s = true := fun w h => hn.get (guX7 w h).1 (okW_of (guX7 w h).2)
theorem dfX7 : ∀ j, j < 2 → defaultValue (tyX7 j) = vp_V [.null, .int 0] j := by decide +kernel
theorem guX8 : GoodIn lw_tbl (u_ws RX8 TX8 6) := goodIn_r (u_ws RX8 TX8 6) [535, 537, 539, 541, 543, 545] (by decide +kernel) (by decide +kernel)
theorem htX8 {s : State} (hn : nwOK s) {args : Array Value} : ∀ w ∈ u_ws RX8 TX8 6, w.before args s = true := fun w h => hn.get (guX8 w h).1 (okW_of (guX8 w h).2)
theorem dfX8 : ∀ j, j < 6 → defaultValue (tyX8 j) = vp_V [.null, .null, .int 0, .int 0, .int 0, .int 0] j := by decide +kernel
theorem guX9 : GoodIn lw_tbl (u_ws RX9 TX9 2) := goodIn_r (u_ws RX9 TX9 2) [337, 339] (by decide +kernel) (by decide +kernel)
theorem htX9 {s : State} (hn : nwOK s) {args : Array Value} : ∀ w ∈ u_ws RX9 TX9 2, w.before args s = true := fun w h => hn.get (guX9 w h).1 (okW_of (guX9 w h).2)
theorem dfX9 : ∀ j, j < 2 → defaultValue (tyX9 j) = vp_V [.null, .int 0] j := by decide +kernel
theorem guX10 : GoodIn lw_tbl (u_ws RX10 TX10 5) := goodIn_r (u_ws RX10 TX10 5) [581, 583, 585, 587, 589] (by decide +kernel) (by decide +kernel)
theorem htX10 {s : State} (hn : nwOK s) {args : Array Value} : ∀ w ∈ u_ws RX10 TX10 5, w.before args s = true := fun w h => hn.get (guX10 w h).1 (okW_of (guX10 w h).2)
theorem dfX10 : ∀ j, j < 5 → defaultValue (tyX10 j) = vp_V [.null, .null, .null, .int 0, .int 0] j := by decide +kernel
theorem guX11 : GoodIn lw_tbl (u_ws RX11 TX11 14) := goodIn_r (u_ws RX11 TX11 14) [683, 685, 687, 689, 691, 693, 695, 697, 699, 701, 703, 705, 707, 709] (by decide +kernel) (by decide +kernel)
theorem htX11 {s : State} (hn : nwOK s) {args : Array Value} : ∀ w ∈ u_ws RX11 TX11 14, w.before args s = true := fun w h => hn.get (guX11 w h).1 (okW_of (guX11 w h).2)
theorem dfX11 : ∀ j, j < 14 → defaultValue (tyX11 j) = vp_V [.null, .null, .null, .null, .null, .null, .null, .null, .int 0, .null, .null, .null, .null, .null] j := by decide +kernel
theorem guX15 : GoodIn lw_tbl (u_ws RX15 TX15 7) := goodIn_r (u_ws RX15 TX15 7) [2219, 2220, 2221, 2222, 2223, 2232, 2230] (by decide +kernel) (by decide +kernel)
theorem htX15 {s : State} (hn : nwOK s) {args : Array Value} : ∀ w ∈ u_ws RX15 TX15 7, w.before args s = true := fun w h => hn.get (guX15 w h).1 (okW_of (guX15 w h).2)
theorem dfX15 : ∀ j, j < 7 → defaultValue (tyX15 j) = vp_V [.null, .null, .null, .null, .null, .int 0, .int 0] j := by decide +kernel
theorem guX16 : GoodIn lw_tbl (u_ws RX16 TX16 78) := goodIn_r (u_ws RX16 TX16 78) [1905, 1907, 1909, 1911, 1913, 1915, 1917, 1919, 1921, 1923, 1925, 1927, 1929, 1931, 1933, 1935, 1937, 1939, 1941, 1943, 1945, 1947, 1949, 1951, 1953, 1955, 1957, 1959, 1961, 1963, 1965, 1967, 1969, 1971, 1973, 1975, 1977, 1979, 1981, 1983, 1985, 1987, 1989, 1991, 1993, 1995, 1997, 1999, 2001, 2003, 2005, 2007, 2009, 2011, 2013, 2015, 2017, 2019, 2021, 2023, 2025, 2027, 2029, 2031, 2033, 2035, 2037, 2039, 2041, 2043, 2045, 2047, 2049, 2051, 2053, 2055, 2057, 2059] (by decide +kernel) (by decide +kernel)
theorem htX16 {s : State} (hn : nwOK s) {args : Array Value} : ∀ w ∈ u_ws RX16 TX16 78, w.before args s = true := fun w h => hn.get (guX16 w h).1 (okW_of (guX16 w h).2)
theorem dfX16 : ∀ j, j < 78 → defaultValue (tyX16 j) = vp_V [.null, .int 0, .null, .null, .int 0, .int 0, .int 0, .int 0, .int 0, .int 0, .int 0, .int 0, .null, .int 0, .null, .int 0, .null, .null, .int 0, .int 0, .null, .null, .null, .int 0, .null, .int 0, .null, .int 0, .null, .int 0, .null, .null, .int 0, .null, .null, .int 0, .int 0, .int 0, .int 0, .null, .null, .null, .null, .null, .null, .null, .int 0, .long 0, .long 0, .long 0, .long 0, .long 0, .long 0, .long 0, .long 0, .null, .null, .null, .null, .null, .long 0, .null, .null, .null, .null, .null, .null, .null, .int 0, .null, .int 0, .int 0, .null, .int 0, .null, .long 0, .int 0, .int 0] j := by decide +kernel
end
section
/-! ===== BEGIN exceptions that leave a method, and their catching by the caller (launches without stack traces) ===== -/
section VXA
/-! The laws vx_back, vx_callV, vx_callS, vx_callSW, vx_throw0, vx_throwS follow proofs of the library, with one case more: JvmDerived/Free/Laws.lean (Back.of_free), Shelf42/LK1.lean (callV, callS), Shelf/KitTraced.lean (throwNew0V, throwNewS). -/
/-- where a method has thrown q: the class by its name, the cell, what was written, the world -/
def vx_T (XC : Addr → String → State → State → Prop) (st : State) (q : Addr) (t : State) (mc ms : Nat) (free : Addr → Prop) : Prop :=
  ∃ (E : String) (ce : Cell) (L : List Loc), XC q E st t ∧ t.heap[q]? = some ce ∧ ce.vm = .none ∧ st.vm.findClass E = some ce.cls ∧ st.WarmedH t.vm ∧ st.sameButNew ({ t with vm := st.vm } : State) L mc ms ∧ ∀ z ∈ L, free z.base
def vx_Q (Qc : Array Value → State → Outcome → State → Prop) (XC : Addr → String → State → State → Prop) (mc ms : Nat) (free : Addr → Prop) : Array Value → State → Outcome → State → Prop := fun a st o t =>
  (Qc a st o t ∧ ∃ L, FrameEnd st o t L mc ms ∧ ∀ q ∈ L, free q.base) ∨ ∃ q, o = .threw q ∧ vx_T XC st q t mc ms free
/-- a callee that returns or throws -/
def vx_Met (l : Launch) (y : MethodName) (ws : List Cond) (rm : Room) (Pc : Array Value → State → Prop) (Qc : Array Value → State → Outcome → State → Prop) (XC : Addr → String → State → State → Prop) (mc ms : Nat) (free : Addr → Prop) : Prop :=
  MetFree l y (headSpec ws rm) Pc (fun _ _ _ _ _ => True) (vx_Q Qc XC mc ms free)
def vx_Post (XC : Addr → String → State → State → Prop) (mc ms : Nat) (free : Addr → Prop) : Pt → Array Value → Addr → Pt → Prop := fun A a q B =>
  ∃ (g : JFrame) (mk : MethodId) (t : State) (L : List Loc) (E : String) (ce : Cell), B.U.heap = t.heap ∧ B.U.vm = t.vm ∧ XC q E (A.U.calling g mk a) t ∧ t.heap[q]? = some ce ∧ ce.vm = .none ∧ A.U.vm.findClass E = some ce.cls ∧ B.locs = A.locs ++ L ∧ (∀ z ∈ L, free z.base) ∧ B.cells = A.cells + mc ∧ B.slots = A.slots + ms
def vx_Back (l : Launch) (R : Room) (p : Program) (e : Env) (below : List Frame) (s : State) (sargs : Array Value) (y : MethodName) (len W9 : Nat)
    (Pre : Pt → Array Value → Prop) (Post : Pt → Array Value → Option Value → Pt → Prop) (PostX : Pt → Array Value → Addr → Pt → Prop) : Prop :=
  ∀ (m : MethodId) (meth : Method) (c : Code) (A : Pt) (g : JFrame) (ig : Instr) (mk : MethodId) (a : Array Value),
    Stand p l e R s m sargs below meth c A.U A.locs A.cells A.slots → g.method = m → g.locals.size = c.maxLocals → decode c.code g.pc = .ok (ig, len) →
    2 * g.monitorRoom + (g.stack.map fun v => v.category).sum ≤ W9 → A.U.methodNamed? y = some mk → Pre A a →
    (∃ (v : Option Value) (B : Pt), Stand p l e R s m sargs below meth c B.U B.locs B.cells B.slots ∧ Post A a v B ∧
      Steps p.tables e below (doInvoke e (A.U.setTop g) [] mk a).1 (B.U.setTop { g with pc := g.pc + len, stack := v.toList ++ g.stack })) ∨
    (∃ (q : Addr) (B : Pt), Stand p l e R s m sargs below meth c B.U B.locs B.cells B.slots ∧ PostX A a q B ∧
      Steps p.tables e below (doInvoke e (A.U.setTop g) [] mk a).1 ((B.U.setTop g).pushFrame (.throwing q)))
section Payer
variable {l : Launch} {R : Room} {p : Program} {e : Env} {below : List Frame} {s : State} {sargs : Array Value} {y : MethodName} {len W9 : Nat}
theorem vx_back {ws : List Cond} {rm : Room} {Pc : Array Value → State → Prop} {Qc : Array Value → State → Outcome → State → Prop} {XC : Addr → String → State → State → Prop} {mc ms : Nat} {free : Addr → Prop} {bytes : ByteArray} {maxL : Nat} {ret : Option FieldType}
    (hM : vx_Met l y ws rm Pc Qc XC mc ms free) (hblind : FrameBlind Pc) (hrc : rm.cells = mc) (hrs : rm.slots = ms)
    (hframes : rm.frames + 1 ≤ R.frames) (hlocals : W9 + (maxL + 11) + rm.locals ≤ R.locals)
    (hws : ∀ w ∈ ws, ∀ a' U, s.WarmedH U.vm → w.before a' U = true) (hcode : Cond.code y bytes maxL ret ∈ ws) (hinit : ∀ a' U, s.WarmedH U.vm → (Cond.initialized y.cls).before a' U = true) :
    vx_Back l R p e below s sargs y len W9 (PreOf R mc ms Pc) (PostOf Qc mc ms free) (vx_Post XC mc ms free) := by
  intro m meth c A g ig mk a X hg hsize hdg hW hn hp
  have h1 : (headSpec ws rm).pre.before a A.U = true := atoms_intro fun w hw => hws w hw _ _ X.warmed
  have h2 : (Cond.code y bytes maxL ret).before a A.U = true := hws _ hcode _ _ X.warmed
  have h3 : (Cond.initialized y.cls).before a A.U = true := hinit _ _ X.warmed
  have h4 : A.cells + (headSpec ws rm).room.cells ≤ R.cells := by rw [show (headSpec ws rm).room.cells = mc from hrc]; exact hp.1
  have h5 : A.slots + (headSpec ws rm).room.slots ≤ R.slots := by rw [show (headSpec ws rm).room.slots = ms from hrs]; exact hp.2.1
  have hPc : Pc a (A.U.calling g mk a) := hblind _ _ _ _ hp.2.2
  obtain ⟨U, Ls, c0, s0⟩ := A
  dsimp only [Pt.U, Pt.locs, Pt.cells, Pt.slots] at h1 h2 h3 h4 h5 X hn hPc ⊢
  obtain ⟨methY, cY, hmY, hcY, -, hlY, -, -, -, -⟩ := Cond.code_spec hn h2
  obtain ⟨kY, hkY, -⟩ := className_of_methodNamed hn
  have hinitY : kY.init = .initialized := Cond.initialized_spec (findClass_of_methodNamed hn) hkY h3
  have h : At U g.method c below := by rw [hg]; exact X.here
  have hlocals9 : W9 + (maxL + 11) + (headSpec ws rm).room.locals ≤ R.locals := hlocals
  have happ : (headSpec ws rm).appliesLoose y e.platform (U.calling g mk a) = true :=
    Spec.appliesLoose_calling (g := g) h hdg hn hkY hinitY
      (X.room_calling (g := g) (R' := (headSpec ws rm).room) hsize hmY hcY hframes (by rw [hlY]; omega) h4 h5) h1
  obtain ⟨mid, hmid⟩ := h.above
  have hfr : (U.setTop g).frames = (.java g :: mid) ++ below := by rw [State.frames_setTop' g h.top, hmid]; rfl
  obtain ⟨o, s₂, hsteps, -, hend, hq⟩ := Steps.callFree hM p X.admits X.cas X.clock (acts := []) hfr happ hPc trivial
  have hq' : vx_Q Qc XC mc ms free a (U.calling g mk a) o s₂ := hq
  rw [State.frames_setTop' g h.top] at hend
  obtain ⟨g₀, hg0⟩ := Option.isSome_iff_exists.mp h.top
  obtain ⟨r, hr⟩ := State.topJava?_eq_some.mp hg0
  have hr' : (({ U with heap := s₂.heap, slotsUsed := s₂.slotsUsed } : State).setVm s₂.vm).frames = .java g₀ :: r := hr
  rcases hq' with ⟨hqc, L, hfe, hL⟩ | ⟨q, rfl, E, ce, L, hx, hce, hcv, hcl, hW₂, hsm, hL⟩
  · obtain ⟨⟨v, rfl⟩, hW₂, e2, q2, q3, q4, q5, q6⟩ := id hfe
    have e3 : s₂ = ({ (U.calling g mk a).setFrames s₂.frames with heap := s₂.heap, slotsUsed := s₂.slotsUsed } : State).setVm s₂.vm := by
      have : s₂ = ({ s₂ with vm := (U.calling g mk a).vm } : State).setVm s₂.vm := rfl
      rw [e2] at this
      exact this
    obtain ⟨c₂, i₂, len₂, hc₂, hd₂, hf₂⟩ := hend
    have hW' : U.WarmedH s₂.vm := hW₂
    have hcc : c₂ = c := by
      have h1 : s₂.code? g.method = U.code? g.method := by
        rw [State.code?_eq, State.code?_eq, hW'.alike.method?]
      exact Option.some.inj (hc₂.symm.trans (h1.trans h.code))
    subst hcc
    have hlen : len₂ = len := by rw [hdg] at hd₂; cases hd₂; rfl
    subst hlen
    have hs₂ : s₂ = (({ U with heap := s₂.heap, slotsUsed := s₂.slotsUsed } : State).setVm s₂.vm).setTop { g with pc := g.pc + len₂, stack := v.toList ++ g.stack } := by
      refine e3.trans ?_
      rw [hf₂, State.calling_eq h.top, State.setFrames_setFrames, State.setTop_of_frames _ hr', hr]
      rfl
    have hsame : U.sameButNew ({ U with heap := s₂.heap, slotsUsed := s₂.slotsUsed } : State) L mc ms := by
      refine ⟨?_, q2, q3, q4, q5, q6⟩
      obtain ⟨t, ht, -⟩ := State.frames_cons hr
      show ({ U with heap := s₂.heap, slotsUsed := s₂.slotsUsed } : State) = { U.setFrames U.frames with heap := s₂.heap, slotsUsed := s₂.slotsUsed }
      rw [State.setFrames_self ht]
    subst hg
    refine Or.inl ⟨v, ⟨(({ U with heap := s₂.heap, slotsUsed := s₂.slotsUsed } : State).setVm s₂.vm), Ls ++ L, c0 + mc, s0 + ms⟩,
      ⟨X.admits, X.cas, X.clock, X.frames, X.room, X.hears, X.method, X.code, (X.here.setHeapUsed s₂.heap s₂.slotsUsed).setVm hW'.alike, X.tail, State.WarmedH.trans X.warmed hW', X.limits, X.bytes, X.same.trans (hsame.setVm s.vm)⟩,
      ⟨g, mk, s₂, L, rfl, rfl, hqc, rfl, hL, rfl, rfl⟩, ?_⟩
    show Steps p.tables e below _ ((({ U with heap := s₂.heap, slotsUsed := s₂.slotsUsed } : State).setVm s₂.vm).setTop { g with pc := g.pc + len₂, stack := v.toList ++ g.stack })
    rw [← hs₂]
    exact hsteps
  · obtain ⟨e2, q2, q3, q4, q5, q6⟩ := id hsm
    have e3 : s₂ = ({ (U.calling g mk a).setFrames s₂.frames with heap := s₂.heap, slotsUsed := s₂.slotsUsed } : State).setVm s₂.vm := by
      have : s₂ = ({ s₂ with vm := (U.calling g mk a).vm } : State).setVm s₂.vm := rfl
      rw [e2] at this
      exact this
    have hf₂ : s₂.frames = .throwing q :: .java g :: U.frames.tail := hend
    have hW' : U.WarmedH s₂.vm := hW₂
    have hs₂ : s₂ = ((({ U with heap := s₂.heap, slotsUsed := s₂.slotsUsed } : State).setVm s₂.vm).setTop g).pushFrame (.throwing q) := by
      refine e3.trans ?_
      rw [hf₂, State.calling_eq h.top, State.setFrames_setFrames, State.pushFrame, State.frames_setTop _ hr', State.setTop_of_frames _ hr', State.setFrames_setFrames, hr]
      rfl
    have hsame : U.sameButNew ({ U with heap := s₂.heap, slotsUsed := s₂.slotsUsed } : State) L mc ms := by
      refine ⟨?_, q2, q3, q4, q5, q6⟩
      obtain ⟨t, ht, -⟩ := State.frames_cons hr
      show ({ U with heap := s₂.heap, slotsUsed := s₂.slotsUsed } : State) = { U.setFrames U.frames with heap := s₂.heap, slotsUsed := s₂.slotsUsed }
      rw [State.setFrames_self ht]
    subst hg
    refine Or.inr ⟨q, ⟨(({ U with heap := s₂.heap, slotsUsed := s₂.slotsUsed } : State).setVm s₂.vm), Ls ++ L, c0 + mc, s0 + ms⟩,
      ⟨X.admits, X.cas, X.clock, X.frames, X.room, X.hears, X.method, X.code, (X.here.setHeapUsed s₂.heap s₂.slotsUsed).setVm hW'.alike, X.tail, State.WarmedH.trans X.warmed hW', X.limits, X.bytes, X.same.trans (hsame.setVm s.vm)⟩,
      ⟨g, mk, s₂, L, E, ce, rfl, rfl, hx, hce, hcv, hcl, rfl, hL, rfl, rfl⟩, ?_⟩
    show Steps p.tables e below _ (((({ U with heap := s₂.heap, slotsUsed := s₂.slotsUsed } : State).setVm s₂.vm).setTop g).pushFrame (.throwing q))
    rw [← hs₂]
    exact hsteps
end Payer
section Calls
variable {p : Program} {l : Launch} {e : Env} {R : Room} {s : State} {m : MethodId} {args : Array Value} {below : List Frame} {meth : Method} {c : Code} {T : State} {locs : List Loc} {cells slots : Nat}
theorem vx_callV (X : Stand p l e R s m args below meth c T locs cells slots) (hexec : p.tables.exec = Jvm.exec) {own C : String} {index : Nat} {y : MethodName} {bytes : ByteArray} {maxL : Nat} {ret : Option FieldType}
    (hown : s.vm.findClass own = some m.cls) (hlink : (Cond.methodLink own index y).before args s = true) (hinst : (Cond.instanceMethod y).before args s = true) (hsel : (Cond.selects C y y).before args s = true)
    (hcode : (Cond.code y bytes maxL ret).before args s = true) (hy : y.cls ≠ "java/lang/invoke/MethodHandle" ∧ y.cls ≠ "java/lang/invoke/VarHandle")
    {W9 : Nat} {Pre : Pt → Array Value → Prop} {Post : Pt → Array Value → Option Value → Pt → Prop} {PostX : Pt → Array Value → Addr → Pt → Prop} (hK : vx_Back l R p e below s args y 3 W9 Pre Post PostX)
    {b : Addr} {cellB : Cell} (hcell : T.heap[b]? = some cellB) (hobj : cellB.vm.isStatics = false) (hcls : s.vm.findClass C = some cellB.cls)
    {g : JFrame} (hg : g.method = m) (hsize : g.locals.size = c.maxLocals) {argsL rest : List Value} (hlen : ∀ sig, parseMethodDescriptor y.desc = some sig → argsL.length = sig.parameters.length)
    (hstack : g.stack = argsL.reverse ++ .ref b :: rest) (hW : 2 * g.monitorRoom + (rest.map fun v => v.category).sum ≤ W9) (hdg : decode c.code g.pc = .ok (.invokevirtual index, 3))
    (hpre : ∀ vm₁, s.WarmedH vm₁ → Pre ⟨T.setVm vm₁, locs, cells, slots⟩ (Value.ref b :: argsL).toArray) :
    (∃ (v : Option Value) (vm₁ : Vm) (B : Pt), s.WarmedH vm₁ ∧ Stand p l e R s m args below meth c B.U B.locs B.cells B.slots ∧ Post ⟨T.setVm vm₁, locs, cells, slots⟩ (Value.ref b :: argsL).toArray v B ∧
      ∀ target, Steps p.tables e below (B.U.setTop { g with pc := g.pc + 3, stack := v.toList ++ rest }) target → Steps p.tables e below (T.setTop g) target) ∨
    (∃ (q : Addr) (vm₁ : Vm) (B : Pt), s.WarmedH vm₁ ∧ Stand p l e R s m args below meth c B.U B.locs B.cells B.slots ∧ PostX ⟨T.setVm vm₁, locs, cells, slots⟩ (Value.ref b :: argsL).toArray q B ∧
      Steps p.tables e below (T.setTop g) ((B.U.setTop { g with stack := rest }).pushFrame (.throwing q))) := by
  obtain ⟨mk, methM, hnamed, hmethM, hstM, habM⟩ := Cond.instanceMethod_spec hinst
  obtain ⟨methM', cM, hmethM', -, -, -, -, -, -, hsigM⟩ := Cond.code_spec hnamed hcode
  cases hmethM.symm.trans hmethM'
  obtain ⟨c2, r2, m2, q1, q2, q3, q4, kP, hkP, hkPi⟩ := Cond.selects_spec hsel
  cases hcls.symm.trans q1
  cases (State.methodFound?_of_named hnamed hy).symm.trans q2
  cases hnamed.symm.trans q3
  have hselP : selectMethod e.platform s.vm cellB.cls mk = .method mk := by rw [Launch.admits_selectMethod X.admits]; exact q4
  obtain ⟨vm₁, X₁, hstep₁⟩ := X.invokevirtual hexec hown hlink hnamed hmethM hstM hkP hkPi hy (a := b) (cell := cellB) hcell
    (fun z h => by rw [h] at hobj; cases hobj) hselP hmethM habM hkP hkPi (g := g) hg (argsL := argsL) (rest := rest) (hlen _ hsigM) hstack hdg
  rcases hK m meth c ⟨T.setVm vm₁, locs, cells, slots⟩ { g with stack := rest } (.invokevirtual index) mk (Value.ref b :: argsL).toArray X₁ hg hsize hdg hW (X₁.named hnamed) (hpre vm₁ X₁.warmed) with ⟨v, B, X', hpost, hsteps⟩ | ⟨q, B, X', hpost, hsteps⟩
  · exact Or.inl ⟨v, vm₁, B, X₁.warmed, X', hpost, fun target h => hstep₁ _ fun acts => by rw [doInvoke_state]; exact hsteps.trans h⟩
  · exact Or.inr ⟨q, vm₁, B, X₁.warmed, X', hpost, hstep₁ _ fun acts => by rw [doInvoke_state]; exact hsteps⟩
theorem vx_callS (X : Stand p l e R s m args below meth c T locs cells slots) (hexec : p.tables.exec = Jvm.exec) {own : String} {index : Nat} {y : MethodName} {bytes : ByteArray} {maxL : Nat} {ret : Option FieldType}
    (hown : s.vm.findClass own = some m.cls) (hlink : (Cond.methodLink own index y).before args s = true) (hstat : (Cond.static y).before args s = true) (hinit : (Cond.initialized y.cls).before args s = true)
    (hcode : (Cond.code y bytes maxL ret).before args s = true) (hy : y.cls ≠ "java/lang/invoke/MethodHandle" ∧ y.cls ≠ "java/lang/invoke/VarHandle")
    {W9 : Nat} {Pre : Pt → Array Value → Prop} {Post : Pt → Array Value → Option Value → Pt → Prop} {PostX : Pt → Array Value → Addr → Pt → Prop} (hK : vx_Back l R p e below s args y 3 W9 Pre Post PostX)
    {g : JFrame} (hg : g.method = m) (hsize : g.locals.size = c.maxLocals) {argsL rest : List Value} (hlen : ∀ sig, parseMethodDescriptor y.desc = some sig → argsL.length = sig.parameters.length)
    (hstack : g.stack = argsL.reverse ++ rest) (hW : 2 * g.monitorRoom + (rest.map fun v => v.category).sum ≤ W9) (hdg : decode c.code g.pc = .ok (.invokestatic index, 3))
    (hpre : ∀ vm₁, s.WarmedH vm₁ → Pre ⟨T.setVm vm₁, locs, cells, slots⟩ argsL.toArray) :
    (∃ (v : Option Value) (vm₁ : Vm) (B : Pt), s.WarmedH vm₁ ∧ Stand p l e R s m args below meth c B.U B.locs B.cells B.slots ∧ Post ⟨T.setVm vm₁, locs, cells, slots⟩ argsL.toArray v B ∧
      ∀ target, Steps p.tables e below (B.U.setTop { g with pc := g.pc + 3, stack := v.toList ++ rest }) target → Steps p.tables e below (T.setTop g) target) ∨
    (∃ (q : Addr) (vm₁ : Vm) (B : Pt), s.WarmedH vm₁ ∧ Stand p l e R s m args below meth c B.U B.locs B.cells B.slots ∧ PostX ⟨T.setVm vm₁, locs, cells, slots⟩ argsL.toArray q B ∧
      Steps p.tables e below (T.setTop g) ((B.U.setTop { g with stack := rest }).pushFrame (.throwing q))) := by
  obtain ⟨mk, hnamed⟩ := Cond.code_named hcode
  obtain ⟨methM, cM, hmethM, -, -, -, -, -, -, hsigM⟩ := Cond.code_spec hnamed hcode
  have hstatic : methM.isStatic = true := Cond.static_spec hnamed hmethM hstat
  obtain ⟨kP, hkP, -⟩ := className_of_methodNamed hnamed
  have hinitP : kP.init = .initialized := Cond.initialized_spec (findClass_of_methodNamed hnamed) hkP hinit
  obtain ⟨vm₁, X₁, hstep₁⟩ := X.invokestatic hexec hown hlink hnamed hmethM hstatic hkP hinitP hy (g := g) hg (argsL := argsL) (rest := rest) (hlen _ hsigM) hstack hdg
  rcases hK m meth c ⟨T.setVm vm₁, locs, cells, slots⟩ { g with stack := rest } (.invokestatic index) mk argsL.toArray X₁ hg hsize hdg hW (X₁.named hnamed) (hpre vm₁ X₁.warmed) with ⟨v, B, X', hpost, hsteps⟩ | ⟨q, B, X', hpost, hsteps⟩
  · exact Or.inl ⟨v, vm₁, B, X₁.warmed, X', hpost, fun target h => hstep₁ _ fun acts => by rw [doInvoke_state]; exact hsteps.trans h⟩
  · exact Or.inr ⟨q, vm₁, B, X₁.warmed, X', hpost, hstep₁ _ fun acts => by rw [doInvoke_state]; exact hsteps⟩
end Calls
theorem vx_cls {s : State} {T : State} {vm₁ : Vm} {E : String} {k : ClassId} (hW : s.WarmedH vm₁) (h : (T.setVm vm₁).vm.findClass E = some k) : s.vm.findClass E = some k := by
  have h1 : vm₁.findClass E = some k := h
  rw [hW.alike.findClass] at h1
  exact h1
/-- the method's frame g, with q thrown over it -/
def vx_W (p : Program) (l : Launch) (e : Env) (R : Room) (s : State) (m : MethodId) (args : Array Value) (below : List Frame) (meth : Method) (c : Code) (H : Heap) (locs : List Loc) (cells slots : Nat) (Q : State → Prop) (g : JFrame) (q : Addr) : Prop :=
  ∀ T : State, T.heap = H → Stand p l e R s m args below meth c T locs cells slots → ∃ t, Steps p.tables e below ((T.setTop g).pushFrame (.throwing q)) t ∧ Q t
def vx_Run (p : Program) (l : Launch) (e : Env) (R : Room) (s : State) (m : MethodId) (args : Array Value) (below : List Frame) (meth : Method) (c : Code) (H : Heap) (locs : List Loc) (cells slots mc ms : Nat) (g : JFrame) (rest : List Value) (Qa : State → Outcome → State → Prop) (XC : Addr → String → State → State → Prop) (free : Addr → Prop) : Prop :=
  ∀ T : State, T.heap = H → Stand p l e R s m args below meth c T locs cells slots →
    (∃ (v : Option Value) (st₀ t T' : State) (L : List Loc), st₀.heap = H ∧ Stand p l e R s m args below meth c T' (locs ++ L) (cells + mc) (slots + ms) ∧ (∀ q ∈ L, free q.base) ∧ T'.heap = t.heap ∧ T'.vm = t.vm ∧ Qa st₀ (.returned v) t ∧
      Goes p e below T g T' { g with pc := g.pc + 3, stack := v.toList ++ rest }) ∨
    (∃ (q : Addr) (st₀ t T' : State) (L : List Loc) (E : String) (ce : Cell), st₀.heap = H ∧ Stand p l e R s m args below meth c T' (locs ++ L) (cells + mc) (slots + ms) ∧ (∀ z ∈ L, free z.base) ∧ T'.heap = t.heap ∧ T'.vm = t.vm ∧ XC q E st₀ t ∧ t.heap[q]? = some ce ∧ ce.vm = .none ∧ s.vm.findClass E = some ce.cls ∧
      Steps p.tables e below (T.setTop g) ((T'.setTop { g with stack := rest }).pushFrame (.throwing q)))
def vx_X {S : Type} (px : S → Prop) (B : Addr → String → S → State → Prop) (A : Nat → Prop) : Addr → String → State → State → Prop := fun q E st t => ∃ u : S, px u ∧ B q E u t ∧ va_F A st t
section Runs
variable {p : Program} {l : Launch} {e : Env} {R : Room} {s : State} {m : MethodId} {args : Array Value} {below : List Frame} {meth : Method} {c : Code} {H : Heap} {locs : List Loc} {cells slots : Nat}
variable {y : MethodName} {bytes cc : ByteArray} {maxL nL mc ms n index : Nat} {ret : Option FieldType} {ws : List Cond} {rm : Room} {Pc : Array Value → State → Prop} {Qc : Array Value → State → Outcome → State → Prop} {XC : Addr → String → State → State → Prop} {free : Addr → Prop} {Ts : List Cond} {own C : String} {b : Addr} {As rest : List Value} {g : JFrame}
theorem vx_callBack (cb : CallB R s args own index y bytes maxL ret ws rm mc ms n) (hM : vx_Met l y ws rm Pc Qc XC mc ms free) (hbl : FrameBlind Pc) : vx_Back l R p e below s args y 3 8 (PreOf R mc ms Pc) (PostOf Qc mc ms free) (vx_Post XC mc ms free) := by
  obtain ⟨hrc, hrs, hfr, hlo, hws, hcw, -, hini, -⟩ := cb
  exact vx_back (bytes := bytes) (maxL := maxL) (ret := ret) hM hbl hrc hrs hfr hlo hws hcw (fun a' U hW => word_at hW (Or.inl (by first | rfl | simp [Cond.onTables, Cond.keeps, Cond.steady])) hini)
theorem vx_runV (S : CallFix p m c cc nL s args Ts own) (hM : vx_Met l y ws rm Pc Qc XC mc ms free) (cw : CallW R s args own C index y bytes maxL ret ws rm mc ms n) (hp : PreV s H C b Pc As)
    (hg : g.method = m) (hn : As.length = n) (hsize : g.locals.size = nL) (hstack : g.stack = As.reverse ++ .ref b :: rest) (hW : 2 * g.monitorRoom + (rest.map fun v => v.category).sum ≤ 8) (hdg : decode cc g.pc = .ok (.invokevirtual index, 3)) (hf : cells + mc ≤ R.cells ∧ slots + ms ≤ R.slots) :
    vx_Run p l e R s m args below meth c H locs cells slots mc ms g rest (Qc (Value.ref b :: As).toArray) XC free := by
  have hK : vx_Back l R p e below s args y 3 8 (PreOf R mc ms Pc) (PostOf Qc mc ms free) (vx_Post XC mc ms free) := vx_callBack cw.1 hM hp.1
  obtain ⟨⟨-, -, -, -, -, -, hcode, -, hy, hlen, hl⟩, hin, hse⟩ := cw
  obtain ⟨hx, hb, hml, ho, -⟩ := S
  obtain ⟨-, ⟨cellB, hcB, hoB, hclB⟩, hPc⟩ := hp
  intro T hT X
  rcases vx_callV X hx (C := C) (bytes := bytes) (maxL := maxL) (ret := ret) ho hl hin hse hcode hy hK (by rw [hT]; exact hcB) hoB hclB hg (hsize.trans hml.symm) (argsL := As) (rest := rest) (fun sig h => hn.trans (hlen sig h)) hstack hW (by rw [hb]; exact hdg)
    (fun vm₁ hW₁ => ⟨hf.1, hf.2, hPc (T.setVm vm₁) hT hW₁⟩) with ⟨v, vm₁, ⟨U', l2, c2, s2⟩, hW₁, X', ⟨g', mk, t, L, e1, e2, hq, h1, hL, h2, h3⟩, st⟩ | ⟨q, vm₁, ⟨U', l2, c2, s2⟩, hW₁, X', ⟨g', mk, t, L, E, ce, e1, e2, hq, hce, hcv, hcl, h1, hL, h2, h3⟩, st⟩
  · dsimp only [Pt.U, Pt.locs, Pt.cells, Pt.slots] at X' e1 e2 h1 h2 h3 st
    subst h1; subst h2; subst h3
    exact Or.inl ⟨v, (T.setVm vm₁).calling g' mk (Value.ref b :: As).toArray, t, U', L, hT, X', hL, e1, e2, hq, st⟩
  · dsimp only [Pt.U, Pt.locs, Pt.cells, Pt.slots] at X' e1 e2 h1 h2 h3 st hcl
    subst h1; subst h2; subst h3
    exact Or.inr ⟨q, (T.setVm vm₁).calling g' mk (Value.ref b :: As).toArray, t, U', L, E, ce, hT, X', hL, e1, e2, hq, hce, hcv, vx_cls hW₁ hcl, st⟩
theorem vx_runS (S : CallFix p m c cc nL s args Ts own) (hM : vx_Met l y ws rm Pc Qc XC mc ms free) (cw : CallB R s args own index y bytes maxL ret ws rm mc ms n ∧ (Cond.static y).before args s = true) (hp : PreS s H Pc As)
    (hg : g.method = m) (hn : As.length = n) (hsize : g.locals.size = nL) (hstack : g.stack = As.reverse ++ rest) (hW : 2 * g.monitorRoom + (rest.map fun v => v.category).sum ≤ 8) (hdg : decode cc g.pc = .ok (.invokestatic index, 3)) (hf : cells + mc ≤ R.cells ∧ slots + ms ≤ R.slots) :
    vx_Run p l e R s m args below meth c H locs cells slots mc ms g rest (Qc As.toArray) XC free := by
  have hK : vx_Back l R p e below s args y 3 8 (PreOf R mc ms Pc) (PostOf Qc mc ms free) (vx_Post XC mc ms free) := vx_callBack cw.1 hM hp.1
  obtain ⟨⟨-, -, -, -, -, -, hcode, hini, hy, hlen, hl⟩, hstt⟩ := cw
  obtain ⟨hx, hb, hml, ho, -⟩ := S
  intro T hT X
  rcases vx_callS X hx (bytes := bytes) (maxL := maxL) (ret := ret) ho hl hstt hini hcode hy hK hg (hsize.trans hml.symm) (argsL := As) (rest := rest) (fun sig h => hn.trans (hlen sig h)) hstack hW (by rw [hb]; exact hdg)
    (fun vm₁ hW₁ => ⟨hf.1, hf.2, hp.2 (T.setVm vm₁) hT hW₁⟩) with ⟨v, vm₁, ⟨U', l2, c2, s2⟩, hW₁, X', ⟨g', mk, t, L, e1, e2, hq, h1, hL, h2, h3⟩, st⟩ | ⟨q, vm₁, ⟨U', l2, c2, s2⟩, hW₁, X', ⟨g', mk, t, L, E, ce, e1, e2, hq, hce, hcv, hcl, h1, hL, h2, h3⟩, st⟩
  · dsimp only [Pt.U, Pt.locs, Pt.cells, Pt.slots] at X' e1 e2 h1 h2 h3 st
    subst h1; subst h2; subst h3
    exact Or.inl ⟨v, (T.setVm vm₁).calling g' mk As.toArray, t, U', L, hT, X', hL, e1, e2, hq, st⟩
  · dsimp only [Pt.U, Pt.locs, Pt.cells, Pt.slots] at X' e1 e2 h1 h2 h3 st hcl
    subst h1; subst h2; subst h3
    exact Or.inr ⟨q, (T.setVm vm₁).calling g' mk As.toArray, t, U', L, E, ce, hT, X', hL, e1, e2, hq, hce, hcv, vx_cls hW₁ hcl, st⟩
end Runs
section Rows
variable {p : Program} {l : Launch} {e : Env} {R : Room} {s : State} {m : MethodId} {args : Array Value} {below : List Frame} {meth : Method} {c : Code} {H : Heap} {locs : List Loc} {cells slots : Nat} {Q : State → Prop}
variable {mc ms : Nat} {free : Addr → Prop} {A0 A1 : Nat → Prop} {H0 : Heap} {a : Array Value} {pc : Nat} {ls : Array Slot} {st0 rest : List Value}
theorem vx_keep {st₀ t T' : State} {L : List Loc} (h0 : st₀.heap = H) (e1 : T'.heap = t.heap) (hS : va_S A0 H0 H locs) (hA : ∀ q, q < H.size → A1 q → A0 q) (hf : ∀ q, free q → A0 q) (hL : ∀ q ∈ L, free q.base) (hF : va_F A1 st₀ t) :
    H.size ≤ T'.heap.size ∧ (∀ q : Nat, q < H.size → ¬ A1 q → T'.heap[q]? = H[q]?) ∧ va_S A0 H0 T'.heap (locs ++ L) := by
  obtain ⟨hz, hk⟩ := hF
  rw [h0] at hz hk
  exact ⟨by rw [e1]; exact hz, fun q h1 h2 => by rw [e1]; exact hk q h1 h2,
    ⟨Nat.le_trans hS.1 (by rw [e1]; exact hz), fun q h1 h2 => by rw [e1, hk q (Nat.lt_of_lt_of_le h1 hS.1) (fun z => h2 (hA q (Nat.lt_of_lt_of_le h1 hS.1) z))]; exact hS.2.1 q h1 h2, fun q hq => by
      rcases List.mem_append.mp hq with h | h
      · exact hS.2.2 q h
      · exact hf _ (hL q h)⟩⟩
theorem vx_calli {S SX : Type} {post : Int32 → S → Prop} {px : SX → Prop} {B : S → State → Prop} {BX : Addr → String → SX → State → Prop} {AX : Nat → Prop} (hr : vx_Run p l e R s m args below meth c H locs cells slots mc ms (F0 m pc ls st0) rest (va_Qi post B A1 a) (vx_X px BX AX) free) (hS : va_S A0 H0 H locs) (hA : ∀ q, q < H.size → A1 q → A0 q) (hf : ∀ q, free q → A0 q) (hAX : ∀ q, q < H.size → AX q → A0 q)
    (kx : ∀ (E : String) (ce : Cell) (q9 : Addr) (u : SX) (t : State) (H1 : Heap) (locs1 : List Loc), t.heap = H1 → s.vm.Alike t.vm → px u → BX q9 E u t → H.size ≤ H1.size → (∀ q : Nat, q < H.size → ¬ AX q → H1[q]? = H[q]?) → va_S A0 H0 H1 locs1 → H1[q9]? = some ce → ce.vm = .none → s.vm.findClass E = some ce.cls → vx_W p l e R s m args below meth c H1 locs1 (cells + mc) (slots + ms) Q (F0 m pc ls rest) q9)
    (kk : ∀ (r : Int32) (u : S) (t : State) (H1 : Heap) (locs1 : List Loc), t.heap = H1 → s.vm.Alike t.vm → post r u → B u t → H.size ≤ H1.size → (∀ q : Nat, q < H.size → ¬ A1 q → H1[q]? = H[q]?) → va_S A0 H0 H1 locs1 → W p l e R s m args below meth c H1 locs1 (cells + mc) (slots + ms) Q (F0 m (pc + 3) ls (.int r :: rest))) : W p l e R s m args below meth c H locs cells slots Q (F0 m pc ls st0) := by
  intro T hT X
  rcases hr T hT X with ⟨v, st₀, t, T', L, h0, X', hL, e1, e2, ⟨⟨r, u, hv, hp, hb⟩, hF⟩, st⟩ | ⟨q, st₀, t, T', L, E, ce, h0, X', hL, e1, e2, ⟨u, hp, hb, hF⟩, hce, hcv, hcl, st⟩
  · cases hv
    obtain ⟨k1, k2, k3⟩ := vx_keep h0 e1 hS hA hf hL hF
    obtain ⟨t2, a1, b1⟩ := kk r u t T'.heap (locs ++ L) e1.symm (by rw [← e2]; exact X'.warmed.alike) hp hb k1 k2 k3 T' rfl X'
    exact ⟨t2, st t2 a1, b1⟩
  · obtain ⟨k1, k2, k3⟩ := vx_keep h0 e1 hS hAX hf hL hF
    obtain ⟨t2, a1, b1⟩ := kx E ce q u t T'.heap (locs ++ L) e1.symm (by rw [← e2]; exact X'.warmed.alike) hp hb k1 k2 k3 (by rw [e1]; exact hce) hcv hcl T' rfl X'
    exact ⟨t2, st.trans a1, b1⟩
theorem vx_calll {S SX : Type} {post : Int64 → S → Prop} {px : SX → Prop} {B : S → State → Prop} {BX : Addr → String → SX → State → Prop} {AX : Nat → Prop} (hr : vx_Run p l e R s m args below meth c H locs cells slots mc ms (F0 m pc ls st0) rest (va_Ql post B A1 a) (vx_X px BX AX) free) (hS : va_S A0 H0 H locs) (hA : ∀ q, q < H.size → A1 q → A0 q) (hf : ∀ q, free q → A0 q) (hAX : ∀ q, q < H.size → AX q → A0 q)
    (kx : ∀ (E : String) (ce : Cell) (q9 : Addr) (u : SX) (t : State) (H1 : Heap) (locs1 : List Loc), t.heap = H1 → s.vm.Alike t.vm → px u → BX q9 E u t → H.size ≤ H1.size → (∀ q : Nat, q < H.size → ¬ AX q → H1[q]? = H[q]?) → va_S A0 H0 H1 locs1 → H1[q9]? = some ce → ce.vm = .none → s.vm.findClass E = some ce.cls → vx_W p l e R s m args below meth c H1 locs1 (cells + mc) (slots + ms) Q (F0 m pc ls rest) q9)
    (kk : ∀ (r : Int64) (u : S) (t : State) (H1 : Heap) (locs1 : List Loc), t.heap = H1 → s.vm.Alike t.vm → post r u → B u t → H.size ≤ H1.size → (∀ q : Nat, q < H.size → ¬ A1 q → H1[q]? = H[q]?) → va_S A0 H0 H1 locs1 → W p l e R s m args below meth c H1 locs1 (cells + mc) (slots + ms) Q (F0 m (pc + 3) ls (.long r :: rest))) : W p l e R s m args below meth c H locs cells slots Q (F0 m pc ls st0) := by
  intro T hT X
  rcases hr T hT X with ⟨v, st₀, t, T', L, h0, X', hL, e1, e2, ⟨⟨r, u, hv, hp, hb⟩, hF⟩, st⟩ | ⟨q, st₀, t, T', L, E, ce, h0, X', hL, e1, e2, ⟨u, hp, hb, hF⟩, hce, hcv, hcl, st⟩
  · cases hv
    obtain ⟨k1, k2, k3⟩ := vx_keep h0 e1 hS hA hf hL hF
    obtain ⟨t2, a1, b1⟩ := kk r u t T'.heap (locs ++ L) e1.symm (by rw [← e2]; exact X'.warmed.alike) hp hb k1 k2 k3 T' rfl X'
    exact ⟨t2, st t2 a1, b1⟩
  · obtain ⟨k1, k2, k3⟩ := vx_keep h0 e1 hS hAX hf hL hF
    obtain ⟨t2, a1, b1⟩ := kx E ce q u t T'.heap (locs ++ L) e1.symm (by rw [← e2]; exact X'.warmed.alike) hp hb k1 k2 k3 (by rw [e1]; exact hce) hcv hcl T' rfl X'
    exact ⟨t2, st.trans a1, b1⟩
theorem vx_callf {S SX : Type} {post : UInt32 → S → Prop} {px : SX → Prop} {B : S → State → Prop} {BX : Addr → String → SX → State → Prop} {AX : Nat → Prop} (hr : vx_Run p l e R s m args below meth c H locs cells slots mc ms (F0 m pc ls st0) rest (va_Qf post B A1 a) (vx_X px BX AX) free) (hS : va_S A0 H0 H locs) (hA : ∀ q, q < H.size → A1 q → A0 q) (hf : ∀ q, free q → A0 q) (hAX : ∀ q, q < H.size → AX q → A0 q)
    (kx : ∀ (E : String) (ce : Cell) (q9 : Addr) (u : SX) (t : State) (H1 : Heap) (locs1 : List Loc), t.heap = H1 → s.vm.Alike t.vm → px u → BX q9 E u t → H.size ≤ H1.size → (∀ q : Nat, q < H.size → ¬ AX q → H1[q]? = H[q]?) → va_S A0 H0 H1 locs1 → H1[q9]? = some ce → ce.vm = .none → s.vm.findClass E = some ce.cls → vx_W p l e R s m args below meth c H1 locs1 (cells + mc) (slots + ms) Q (F0 m pc ls rest) q9)
    (kk : ∀ (r : UInt32) (u : S) (t : State) (H1 : Heap) (locs1 : List Loc), t.heap = H1 → s.vm.Alike t.vm → post r u → B u t → H.size ≤ H1.size → (∀ q : Nat, q < H.size → ¬ A1 q → H1[q]? = H[q]?) → va_S A0 H0 H1 locs1 → W p l e R s m args below meth c H1 locs1 (cells + mc) (slots + ms) Q (F0 m (pc + 3) ls (.float r :: rest))) : W p l e R s m args below meth c H locs cells slots Q (F0 m pc ls st0) := by
  intro T hT X
  rcases hr T hT X with ⟨v, st₀, t, T', L, h0, X', hL, e1, e2, ⟨⟨r, u, hv, hp, hb⟩, hF⟩, st⟩ | ⟨q, st₀, t, T', L, E, ce, h0, X', hL, e1, e2, ⟨u, hp, hb, hF⟩, hce, hcv, hcl, st⟩
  · cases hv
    obtain ⟨k1, k2, k3⟩ := vx_keep h0 e1 hS hA hf hL hF
    obtain ⟨t2, a1, b1⟩ := kk r u t T'.heap (locs ++ L) e1.symm (by rw [← e2]; exact X'.warmed.alike) hp hb k1 k2 k3 T' rfl X'
    exact ⟨t2, st t2 a1, b1⟩
  · obtain ⟨k1, k2, k3⟩ := vx_keep h0 e1 hS hAX hf hL hF
    obtain ⟨t2, a1, b1⟩ := kx E ce q u t T'.heap (locs ++ L) e1.symm (by rw [← e2]; exact X'.warmed.alike) hp hb k1 k2 k3 (by rw [e1]; exact hce) hcv hcl T' rfl X'
    exact ⟨t2, st.trans a1, b1⟩
theorem vx_calld {S SX : Type} {post : UInt64 → S → Prop} {px : SX → Prop} {B : S → State → Prop} {BX : Addr → String → SX → State → Prop} {AX : Nat → Prop} (hr : vx_Run p l e R s m args below meth c H locs cells slots mc ms (F0 m pc ls st0) rest (va_Qd post B A1 a) (vx_X px BX AX) free) (hS : va_S A0 H0 H locs) (hA : ∀ q, q < H.size → A1 q → A0 q) (hf : ∀ q, free q → A0 q) (hAX : ∀ q, q < H.size → AX q → A0 q)
    (kx : ∀ (E : String) (ce : Cell) (q9 : Addr) (u : SX) (t : State) (H1 : Heap) (locs1 : List Loc), t.heap = H1 → s.vm.Alike t.vm → px u → BX q9 E u t → H.size ≤ H1.size → (∀ q : Nat, q < H.size → ¬ AX q → H1[q]? = H[q]?) → va_S A0 H0 H1 locs1 → H1[q9]? = some ce → ce.vm = .none → s.vm.findClass E = some ce.cls → vx_W p l e R s m args below meth c H1 locs1 (cells + mc) (slots + ms) Q (F0 m pc ls rest) q9)
    (kk : ∀ (r : UInt64) (u : S) (t : State) (H1 : Heap) (locs1 : List Loc), t.heap = H1 → s.vm.Alike t.vm → post r u → B u t → H.size ≤ H1.size → (∀ q : Nat, q < H.size → ¬ A1 q → H1[q]? = H[q]?) → va_S A0 H0 H1 locs1 → W p l e R s m args below meth c H1 locs1 (cells + mc) (slots + ms) Q (F0 m (pc + 3) ls (.double r :: rest))) : W p l e R s m args below meth c H locs cells slots Q (F0 m pc ls st0) := by
  intro T hT X
  rcases hr T hT X with ⟨v, st₀, t, T', L, h0, X', hL, e1, e2, ⟨⟨r, u, hv, hp, hb⟩, hF⟩, st⟩ | ⟨q, st₀, t, T', L, E, ce, h0, X', hL, e1, e2, ⟨u, hp, hb, hF⟩, hce, hcv, hcl, st⟩
  · cases hv
    obtain ⟨k1, k2, k3⟩ := vx_keep h0 e1 hS hA hf hL hF
    obtain ⟨t2, a1, b1⟩ := kk r u t T'.heap (locs ++ L) e1.symm (by rw [← e2]; exact X'.warmed.alike) hp hb k1 k2 k3 T' rfl X'
    exact ⟨t2, st t2 a1, b1⟩
  · obtain ⟨k1, k2, k3⟩ := vx_keep h0 e1 hS hAX hf hL hF
    obtain ⟨t2, a1, b1⟩ := kx E ce q u t T'.heap (locs ++ L) e1.symm (by rw [← e2]; exact X'.warmed.alike) hp hb k1 k2 k3 (by rw [e1]; exact hce) hcv hcl T' rfl X'
    exact ⟨t2, st.trans a1, b1⟩
theorem vx_callv {S SX : Type} {post : S → Prop} {px : SX → Prop} {B : S → State → Prop} {BX : Addr → String → SX → State → Prop} {AX : Nat → Prop} (hr : vx_Run p l e R s m args below meth c H locs cells slots mc ms (F0 m pc ls st0) rest (va_Qv post B A1 a) (vx_X px BX AX) free) (hS : va_S A0 H0 H locs) (hA : ∀ q, q < H.size → A1 q → A0 q) (hf : ∀ q, free q → A0 q) (hAX : ∀ q, q < H.size → AX q → A0 q)
    (kx : ∀ (E : String) (ce : Cell) (q9 : Addr) (u : SX) (t : State) (H1 : Heap) (locs1 : List Loc), t.heap = H1 → s.vm.Alike t.vm → px u → BX q9 E u t → H.size ≤ H1.size → (∀ q : Nat, q < H.size → ¬ AX q → H1[q]? = H[q]?) → va_S A0 H0 H1 locs1 → H1[q9]? = some ce → ce.vm = .none → s.vm.findClass E = some ce.cls → vx_W p l e R s m args below meth c H1 locs1 (cells + mc) (slots + ms) Q (F0 m pc ls rest) q9)
    (kk : ∀ (u : S) (t : State) (H1 : Heap) (locs1 : List Loc), t.heap = H1 → s.vm.Alike t.vm → post u → B u t → H.size ≤ H1.size → (∀ q : Nat, q < H.size → ¬ A1 q → H1[q]? = H[q]?) → va_S A0 H0 H1 locs1 → W p l e R s m args below meth c H1 locs1 (cells + mc) (slots + ms) Q (F0 m (pc + 3) ls (rest))) : W p l e R s m args below meth c H locs cells slots Q (F0 m pc ls st0) := by
  intro T hT X
  rcases hr T hT X with ⟨v, st₀, t, T', L, h0, X', hL, e1, e2, ⟨⟨u, hv, hp, hb⟩, hF⟩, st⟩ | ⟨q, st₀, t, T', L, E, ce, h0, X', hL, e1, e2, ⟨u, hp, hb, hF⟩, hce, hcv, hcl, st⟩
  · cases hv
    obtain ⟨k1, k2, k3⟩ := vx_keep h0 e1 hS hA hf hL hF
    obtain ⟨t2, a1, b1⟩ := kk u t T'.heap (locs ++ L) e1.symm (by rw [← e2]; exact X'.warmed.alike) hp hb k1 k2 k3 T' rfl X'
    exact ⟨t2, st t2 a1, b1⟩
  · obtain ⟨k1, k2, k3⟩ := vx_keep h0 e1 hS hAX hf hL hF
    obtain ⟨t2, a1, b1⟩ := kx E ce q u t T'.heap (locs ++ L) e1.symm (by rw [← e2]; exact X'.warmed.alike) hp hb k1 k2 k3 (by rw [e1]; exact hce) hcv hcl T' rfl X'
    exact ⟨t2, st.trans a1, b1⟩
/-- caught by the row x of this method's table; the rows ahead don't take it -/
theorem vx_catch {own name : String} {E : String} {ce : Cell} {q : Addr} (hown : s.vm.findClass own = some m.cls) (pre : List ExceptionTableEntry) (x : ExceptionTableEntry) (suf : List ExceptionTableEntry) (hsplit : c.exceptionTable.toList = pre ++ x :: suf)
    (hpass : ∀ z ∈ pre, covers z pc = false ∨ (z.catchType ≠ 0 ∧ ∃ nm : String, (Cond.classLink own z.catchType nm).before args s = true ∧ va_Nc E nm s)) (hx : covers x pc = true) (h0 : x.catchType ≠ 0)
    (hlink : (Cond.classLink own x.catchType name).before args s = true) (hcast : (Cond.castable E name).before args s = true) (hcell : H[q]? = some ce) (hv : ce.vm = .none) (hcl : s.vm.findClass E = some ce.cls)
    (kk : W p l e R s m args below meth c H locs cells slots Q (F0 m x.handlerPc ls [.ref q])) : vx_W p l e R s m args below meth c H locs cells slots Q (F0 m pc ls rest) q := by
  intro T hT X
  have hpl : e.platform.magicAccessors = ({} : Platform).magicAccessors := by rw [X.admits.platform]
  obtain ⟨c3, c4, hc3, hc4, hasg⟩ := Cond.castable_spec hcast
  cases Option.some.inj (hc3.symm.trans hcl)
  obtain ⟨c5, hc5, hcl5⟩ := Cond.classLink_spec hown hlink e.platform hpl
  cases Option.some.inj (hc4.symm.trans hc5)
  obtain ⟨vm', X', st⟩ := X.thenCaughtThrough q (g := F0 m pc ls rest) rfl (Steps.refl _) (by rw [hT]; exact hcell) (by rw [hv]; rfl) (by obtain ⟨k9, h9, -⟩ := Vm.findClass_spec hcl; exact ⟨k9, h9⟩) pre x suf hsplit
    (fun z hz => by
      rcases hpass z hz with h | ⟨hz0, nm, hl1, hn1⟩
      · exact Or.inl h
      · obtain ⟨c6, hc6, hcl6⟩ := Cond.classLink_spec hown hl1 e.platform hpl
        obtain ⟨a8, b8, h1, h2, h3⟩ := hn1
        cases Option.some.inj (h1.symm.trans hcl)
        cases Option.some.inj (h2.symm.trans hc6)
        exact Or.inr ⟨hz0, _, hcl6, h3⟩) hx (Or.inr ⟨h0, c4, hcl5, hasg⟩)
  obtain ⟨t, a1, b1⟩ := kk (T.setVm vm') hT X'
  exact ⟨t, st.trans a1, b1⟩
end Rows
section Ends
variable {p : Program} {l : Launch} {e : Env} {R : Room} {s : State} {m : MethodId} {args : Array Value} {below : List Frame} {meth : Method} {c : Code} {H : Heap} {locs : List Loc} {cells slots : Nat} {Q : State → Prop}
variable {mc ms : Nat} {free : Addr → Prop} {A0 A1 : Nat → Prop} {H0 : Heap} {a : Array Value} {ls : Array Slot} {st0 rest : List Value}
variable {Qc : Array Value → State → Outcome → State → Prop} {XC : Addr → String → State → State → Prop}
/-- what a body that may throw owes at its end -/
def vx_MQ (below : List Frame) (Qc : Array Value → State → Outcome → State → Prop) (XC : Addr → String → State → State → Prop) (a : Array Value) (s : State) (mc ms : Nat) (free : Addr → Prop) : State → Prop := fun t =>
  ∃ o, t.status = .running ∧ Ended t below o ∧ vx_Q Qc XC mc ms free a s o t
theorem vx_ret {g : JFrame} {mc ms : Nat} (k : W p l e R s m args below meth c H locs cells slots (MQ below Qc args s mc ms free) g) : W p l e R s m args below meth c H locs cells slots (vx_MQ below Qc XC args s mc ms free) g := by
  intro T hT X
  obtain ⟨t, a1, o, b1, b2, b3, b4⟩ := k T hT X
  exact ⟨t, a1, o, b1, b2, Or.inl ⟨b3, b4⟩⟩
/-- not caught here: it goes on to the caller -/
theorem vx_widen {g : JFrame} {q : Addr} {k n : Nat} (h1 : cells ≤ k) (h2 : slots ≤ n) (kk : vx_W p l e R s m args below meth c H locs k n Q g q) : vx_W p l e R s m args below meth c H locs cells slots Q g q := fun T hT X => kk T hT (stand_widen X h1 h2)
theorem vx_out {pc : Nat} {E : String} {ce : Cell} {q : Addr} {mc ms : Nat} (hout : ∀ x ∈ c.exceptionTable.toList, covers x pc = false) (hlocks : meth.locks = false) (hcell : H[q]? = some ce) (hv : ce.vm = .none) (hcl : s.vm.findClass E = some ce.cls)
    (hx : ∀ t : State, t.heap = H → s.vm.Alike t.vm → XC q E s t) (hf : ∀ z ∈ locs, free z.base) (hc : cells ≤ mc) (hs : slots ≤ ms) :
    vx_W p l e R s m args below meth c H locs cells slots (vx_MQ below Qc XC args s mc ms free) (F0 m pc ls rest) q := by
  intro T hT X
  obtain ⟨st1, hrun, hend, hW, hsm⟩ := X.leaveThrown q (g := F0 m pc ls rest) rfl rfl rfl hout hlocks
  have hcell9 : (T.setFrames (.throwing q :: below)).heap[q]? = some ce := by
    show T.heap[q]? = some ce
    rw [hT]; exact hcell
  exact ⟨_, st1, .threw q, hrun, hend, Or.inr ⟨q, rfl, E, ce, locs, hx _ hT hW.alike, hcell9, hv, hcl, hW, hsm.mono hc hs, hf⟩⟩
theorem vx_frame {U : State} {k n : Nat} (h : s.sameButNew ({ U with vm := s.vm } : State) locs k n) : s.heap.size ≤ U.heap.size ∧ ∀ q : Nat, q < s.heap.size → (∀ z ∈ locs, z.base ≠ q) → U.heap[q]? = s.heap[q]? := by
  obtain ⟨-, h2, -, -, -, h6⟩ := h
  refine ⟨h2, fun q hq hz => ?_⟩
  obtain ⟨c9, e1, e2, e3, e4⟩ := h6 q _ (Array.getElem?_eq_getElem hq)
  have hs : c9.slots = (s.heap[q]).slots := Array.ext_getElem? fun i => e4 i fun hm => hz _ hm rfl
  have h9 : c9 = s.heap[q] := by
    rw [hs] at e2
    exact e2
  have e5 : U.heap[q]? = some c9 := e1
  rw [e5, h9, Array.getElem?_eq_getElem hq]
end Ends
section Bodies
variable {l : Launch}
theorem vx_ofW {y : MethodName} {ws ws' : List Cond} {rm : Room} {Pc : Array Value → State → Prop} {Qc : Array Value → State → Outcome → State → Prop} {XC : Addr → String → State → State → Prop} {mc ms : Nat} {free : Addr → Prop} {cc : ByteArray} {maxL : Nat} {ret : Option FieldType}
    (hy : plainName y.cls = true) (hw : ws = Cond.code y cc maxL ret :: ws')
    (body : ∀ p e s m args below meth c s₁, BodyLoose p l y (headSpec ws rm) cc maxL ret e s m args below meth c s₁ → c.maxLocals = maxL → (∀ x ∈ c.exceptionTable.toList, False) → Pc args s →
      W p l e (headSpec ws rm).room s m args below meth c s.heap [] 0 0 (vx_MQ below Qc XC args s mc ms free) (entryFrame m args maxL)) : vx_Met l y ws rm Pc Qc XC mc ms free := by
  refine MetFree.of_bodyS (code := cc) (maxLocals := maxL) (ret := ret) hy ?_ ?_
  · intro args s m h hn
    obtain ⟨meth, c, h1, h2, h3, h4, h5, h6, -, -⟩ := Cond.code_spec hn (atoms_spec (ws := ws) h _ (by rw [hw]; exact List.mem_cons_self))
    exact ⟨meth, c, h1, h2, h3, h4, h5, h6⟩
  · intro p e s m args below meth c s₁ B hml hP _
    have hh0 : s₁.heap = s.heap := by rw [B.state]; rfl
    have ht : ∀ x ∈ c.exceptionTable.toList, False := by
      obtain ⟨meth9, c9, h1, h2, -, -, -, -, h7, -⟩ := Cond.code_spec B.named (atoms_spec (ws := ws) B.pre _ (by rw [hw]; exact List.mem_cons_self))
      cases Option.some.inj (h1.symm.trans B.method)
      cases Option.some.inj (h2.symm.trans (Stand.of_body B).code)
      intro x hx
      rw [Array.isEmpty_iff.mp h7] at hx
      cases hx
    obtain ⟨t, a1, o, b1, b2, b3⟩ := body p e s m args below meth c s₁ B hml ht hP s₁ hh0 (Stand.of_body B)
    exact ⟨t, o, a1, b1, b2, b3⟩
/-- the table of a body with handlers -/
theorem vx_table {p : Program} {x y : MethodName} {S : Spec} {cc bytes : ByteArray} {maxL maxL' : Nat} {ret ret' : Option FieldType} {e : Env} {s s₁ : State} {m : MethodId} {args : Array Value} {below : List Frame} {meth : Method} {c : Code} {hh : List (Nat × Nat × Nat × Nat)}
    (B : BodyLoose p l y S cc maxL ret e s m args below meth c s₁) (h : (Cond.codeWith y bytes maxL' ret' hh).before args s = true) : c.exceptionTable.toList = tableOf hh := by
  obtain ⟨m9, meth9, c9, hn9, h1, h2, -, -, h6, -⟩ := Cond.codeWith_spec h
  cases Option.some.inj (hn9.symm.trans B.named)
  cases Option.some.inj (h1.symm.trans B.method)
  cases Option.some.inj (h2.symm.trans (Stand.of_body B).code)
  rw [← h6, table_eq]
end Bodies
end VXA

/-- where a static field lies, its class's statics cell in H -/
def vx_L (C n d : String) (A : Nat → Prop) (U : State) (H : Heap) : Prop := ∃ (c : ClassId) (k : Class) (i : Nat) (f : Field) (a : Nat) (cell : Cell), U.vm.findClass C = some c ∧ U.fieldFound? C n d = some (c, k, i, f) ∧ f.isStatic = true ∧ k.statics = some a ∧ H[a]? = some cell ∧ cell.vm.isStatics = true ∧ cell.cls = c ∧ f.slot < cell.slots.size ∧ k.staticTypes[f.slot]? = some f.type ∧ ¬ A a
theorem vx_L.moved {C n d : String} {A : Nat → Prop} {u U : State} {H : Heap} (hvm : u.vm.Alike U.vm) (h : vx_L C n d A u H) : vx_L C n d A U H := by
  obtain ⟨c, k, i, f, a, cell, h1, h2, h3, h4, h5, h6, h7, h8, h9, h10⟩ := h
  obtain ⟨k', hi', he⟩ := State.fieldFound?_setVm hvm h2
  exact ⟨c, k', i, f, a, cell, by rw [hvm.findClass]; exact h1, hi', h3, by rw [he]; exact h4, h5, h6, h7, h8, by rw [he]; exact h9, h10⟩
theorem vx_L.kept {C n d : String} {A : Nat → Prop} {U : State} {H H1 : Heap} (h : vx_L C n d A U H) (hq : ∀ a : Nat, a < H.size → ¬ A a → H1[a]? = H[a]?) : vx_L C n d A U H1 := by
  obtain ⟨c, k, i, f, a, cell, h1, h2, h3, h4, h5, h6, h7, h8, h9, h10⟩ := h
  exact ⟨c, k, i, f, a, cell, h1, h2, h3, h4, by rw [hq a (Array.getElem?_eq_some_iff.mp h5).1 h10]; exact h5, h6, h7, h8, h9, h10⟩
theorem vx_L.narrow {C n d : String} {A B : Nat → Prop} {U : State} {H : Heap} (h : vx_L C n d A U H) (hAB : ∀ q, B q → A q) : vx_L C n d B U H := by
  obtain ⟨c, k, i, f, a, cell, h1, h2, h3, h4, h5, h6, h7, h8, h9, h10⟩ := h
  exact ⟨c, k, i, f, a, cell, h1, h2, h3, h4, h5, h6, h7, h8, h9, fun z => h10 (hAB _ z)⟩
theorem vx_L.word {C n d : String} {A : Nat → Prop} {s : State} {args : Array Value} (h : vx_L C n d A s s.heap) : (Cond.laysStatic C n d).before args s = true := by
  obtain ⟨c, k, i, f, a, cell, h1, h2, h3, h4, h5, h6, h7, h8, h9, -⟩ := h
  show (Cond.laysStatic C n d).holds args s none s [] = true
  exact Cond.laysStatic_of h1 h2 h3 h4 h5 h6 h7 h8 h9
/-- .. and what it holds: null or some reference -/
def vx_Zq (C n d : String) (A : Nat → Prop) (U : State) (H : Heap) : Prop := va_Zq C n d A U H ∧ vx_L C n d A U H
theorem vx_Zq.moved {C n d : String} {A : Nat → Prop} {u U : State} {H : Heap} (hvm : u.vm.Alike U.vm) (h : vx_Zq C n d A u H) : vx_Zq C n d A U H := ⟨va_Zq.moved hvm h.1, vx_L.moved hvm h.2⟩
theorem vx_Zq.kept {C n d : String} {A : Nat → Prop} {U : State} {H H1 : Heap} (h : vx_Zq C n d A U H) (hq : ∀ a : Nat, a < H.size → ¬ A a → H1[a]? = H[a]?) : vx_Zq C n d A U H1 := ⟨va_Zq.kept h.1 hq, vx_L.kept h.2 hq⟩
theorem vx_Zq.narrow {C n d : String} {A B : Nat → Prop} {U : State} {H : Heap} (h : vx_Zq C n d A U H) (hAB : ∀ q, B q → A q) : vx_Zq C n d B U H := ⟨va_Zq.narrow h.1 hAB, vx_L.narrow h.2 hAB⟩
theorem vx_Zqof {args : Array Value} {s : State} {C n d : String} {A : Nat → Prop} (hl : (Cond.laysStatic C n d).before args s = true) (hini : (Cond.initialized C).before args s = true) (h : (Cond.isRef (.static C n d)).before args s = true) (hA : ∀ a : Nat, a < s.heap.size → ¬ A a) : vx_Zq C n d A s s.heap := by
  refine ⟨va_Zqof hl hini h hA, ?_⟩
  obtain ⟨c, k, i, f, a, cell, h1, h2, h3, h4, h5, h6, h7, h8, h9⟩ := Cond.laysStatic_spec hl
  exact ⟨c, k, i, f, a, cell, h1, h2, h3, h4, h5, h6, h7, h8, h9, hA a (Array.getElem?_eq_some_iff.mp h5).1⟩
theorem vx_isRef {C n d : String} {v : Value} {A : Nat → Prop} {s : State} {args : Array Value} (h : va_Z C n d v A s s.heap) (hv : v.isRef = true) : (Cond.isRef (.static C n d)).before args s = true := by
  obtain ⟨cf, kf, fi, f, a, cell, h1, h2, h3, h4, h5, h6, h7, -⟩ := h
  have he : (Term.static C n d).eval args s none [] s = some v := by
    simp [Term.eval, State.fieldNamed?, h1, h2, h4, h5, h6, h7]
  simp only [Cond.before, Cond.holds, Cond.value, he]
  cases v <;> simp_all [Value.isRef]
theorem vx_isRefq {C n d : String} {A : Nat → Prop} {s : State} {args : Array Value} (h : va_Zq C n d A s s.heap) : (Cond.isRef (.static C n d)).before args s = true := by
  rcases h with h | ⟨t, h⟩
  · exact vx_isRef h rfl
  · exact vx_isRef h rfl
section VXH
/-! vx_backW, vx_callVX, vx_callSX, vx_callVW, vx_runVW, vx_runVX, vx_runSX, vx_ofWH follow the same proofs as their sisters above (Free/Laws.lean, Shelf42/LK1.lean); vx_outP calls Shelf42/NT130.lean (outThrough). -/
section
variable {l : Launch} {R : Room} {p : Program} {e : Env} {below : List Frame} {s : State} {sargs : Array Value} {y : MethodName} {len W9 : Nat}
theorem vx_backW {ws : List Cond} {rm : Room} {Pc : Array Value → State → Prop} {Qc : Array Value → State → Outcome → State → Prop} {XC : Addr → String → State → State → Prop} {mc ms : Nat} {free : Addr → Prop} {bytes : ByteArray} {maxL : Nat} {ret : Option FieldType} {hh : List (Nat × Nat × Nat × Nat)}
    (hM : vx_Met l y ws rm Pc Qc XC mc ms free) (hblind : FrameBlind Pc) (hrc : rm.cells = mc) (hrs : rm.slots = ms)
    (hframes : rm.frames + 1 ≤ R.frames) (hlocals : W9 + (maxL + 11) + rm.locals ≤ R.locals)
    (hws : ∀ w ∈ ws, ∀ a' U, s.WarmedH U.vm → w.before a' U = true) (hcode : Cond.codeWith y bytes maxL ret hh ∈ ws) (hinit : ∀ a' U, s.WarmedH U.vm → (Cond.initialized y.cls).before a' U = true) :
    vx_Back l R p e below s sargs y len W9 (PreOf R mc ms Pc) (PostOf Qc mc ms free) (vx_Post XC mc ms free) := by
  intro m meth c A g ig mk a X hg hsize hdg hW hn hp
  have h1 : (headSpec ws rm).pre.before a A.U = true := atoms_intro fun w hw => hws w hw _ _ X.warmed
  have h2 : (Cond.codeWith y bytes maxL ret hh).before a A.U = true := hws _ hcode _ _ X.warmed
  have h3 : (Cond.initialized y.cls).before a A.U = true := hinit _ _ X.warmed
  have h4 : A.cells + (headSpec ws rm).room.cells ≤ R.cells := by rw [show (headSpec ws rm).room.cells = mc from hrc]; exact hp.1
  have h5 : A.slots + (headSpec ws rm).room.slots ≤ R.slots := by rw [show (headSpec ws rm).room.slots = ms from hrs]; exact hp.2.1
  have hPc : Pc a (A.U.calling g mk a) := hblind _ _ _ _ hp.2.2
  obtain ⟨U, Ls, c0, s0⟩ := A
  dsimp only [Pt.U, Pt.locs, Pt.cells, Pt.slots] at h1 h2 h3 h4 h5 X hn hPc ⊢
  obtain ⟨m9, methY, cY, hn9, hmY, hcY, -, hlY, -⟩ := Cond.codeWith_spec h2
  cases Option.some.inj (hn9.symm.trans hn)
  obtain ⟨kY, hkY, -⟩ := className_of_methodNamed hn
  have hinitY : kY.init = .initialized := Cond.initialized_spec (findClass_of_methodNamed hn) hkY h3
  have h : At U g.method c below := by rw [hg]; exact X.here
  have hlocals9 : W9 + (maxL + 11) + (headSpec ws rm).room.locals ≤ R.locals := hlocals
  have happ : (headSpec ws rm).appliesLoose y e.platform (U.calling g mk a) = true :=
    Spec.appliesLoose_calling (g := g) h hdg hn hkY hinitY
      (X.room_calling (g := g) (R' := (headSpec ws rm).room) hsize hmY hcY hframes (by rw [hlY]; omega) h4 h5) h1
  obtain ⟨mid, hmid⟩ := h.above
  have hfr : (U.setTop g).frames = (.java g :: mid) ++ below := by rw [State.frames_setTop' g h.top, hmid]; rfl
  obtain ⟨o, s₂, hsteps, -, hend, hq⟩ := Steps.callFree hM p X.admits X.cas X.clock (acts := []) hfr happ hPc trivial
  have hq' : vx_Q Qc XC mc ms free a (U.calling g mk a) o s₂ := hq
  rw [State.frames_setTop' g h.top] at hend
  obtain ⟨g₀, hg0⟩ := Option.isSome_iff_exists.mp h.top
  obtain ⟨r, hr⟩ := State.topJava?_eq_some.mp hg0
  have hr' : (({ U with heap := s₂.heap, slotsUsed := s₂.slotsUsed } : State).setVm s₂.vm).frames = .java g₀ :: r := hr
  rcases hq' with ⟨hqc, L, hfe, hL⟩ | ⟨q, rfl, E, ce, L, hx, hce, hcv, hcl, hW₂, hsm, hL⟩
  · obtain ⟨⟨v, rfl⟩, hW₂, e2, q2, q3, q4, q5, q6⟩ := id hfe
    have e3 : s₂ = ({ (U.calling g mk a).setFrames s₂.frames with heap := s₂.heap, slotsUsed := s₂.slotsUsed } : State).setVm s₂.vm := by
      have : s₂ = ({ s₂ with vm := (U.calling g mk a).vm } : State).setVm s₂.vm := rfl
      rw [e2] at this
      exact this
    obtain ⟨c₂, i₂, len₂, hc₂, hd₂, hf₂⟩ := hend
    have hW' : U.WarmedH s₂.vm := hW₂
    have hcc : c₂ = c := by
      have h1 : s₂.code? g.method = U.code? g.method := by
        rw [State.code?_eq, State.code?_eq, hW'.alike.method?]
      exact Option.some.inj (hc₂.symm.trans (h1.trans h.code))
    subst hcc
    have hlen : len₂ = len := by rw [hdg] at hd₂; cases hd₂; rfl
    subst hlen
    have hs₂ : s₂ = (({ U with heap := s₂.heap, slotsUsed := s₂.slotsUsed } : State).setVm s₂.vm).setTop { g with pc := g.pc + len₂, stack := v.toList ++ g.stack } := by
      refine e3.trans ?_
      rw [hf₂, State.calling_eq h.top, State.setFrames_setFrames, State.setTop_of_frames _ hr', hr]
      rfl
    have hsame : U.sameButNew ({ U with heap := s₂.heap, slotsUsed := s₂.slotsUsed } : State) L mc ms := by
      refine ⟨?_, q2, q3, q4, q5, q6⟩
      obtain ⟨t, ht, -⟩ := State.frames_cons hr
      show ({ U with heap := s₂.heap, slotsUsed := s₂.slotsUsed } : State) = { U.setFrames U.frames with heap := s₂.heap, slotsUsed := s₂.slotsUsed }
      rw [State.setFrames_self ht]
    subst hg
    refine Or.inl ⟨v, ⟨(({ U with heap := s₂.heap, slotsUsed := s₂.slotsUsed } : State).setVm s₂.vm), Ls ++ L, c0 + mc, s0 + ms⟩,
      ⟨X.admits, X.cas, X.clock, X.frames, X.room, X.hears, X.method, X.code, (X.here.setHeapUsed s₂.heap s₂.slotsUsed).setVm hW'.alike, X.tail, State.WarmedH.trans X.warmed hW', X.limits, X.bytes, X.same.trans (hsame.setVm s.vm)⟩,
      ⟨g, mk, s₂, L, rfl, rfl, hqc, rfl, hL, rfl, rfl⟩, ?_⟩
    show Steps p.tables e below _ ((({ U with heap := s₂.heap, slotsUsed := s₂.slotsUsed } : State).setVm s₂.vm).setTop { g with pc := g.pc + len₂, stack := v.toList ++ g.stack })
    rw [← hs₂]
    exact hsteps
  · obtain ⟨e2, q2, q3, q4, q5, q6⟩ := id hsm
    have e3 : s₂ = ({ (U.calling g mk a).setFrames s₂.frames with heap := s₂.heap, slotsUsed := s₂.slotsUsed } : State).setVm s₂.vm := by
      have : s₂ = ({ s₂ with vm := (U.calling g mk a).vm } : State).setVm s₂.vm := rfl
      rw [e2] at this
      exact this
    have hf₂ : s₂.frames = .throwing q :: .java g :: U.frames.tail := hend
    have hW' : U.WarmedH s₂.vm := hW₂
    have hs₂ : s₂ = ((({ U with heap := s₂.heap, slotsUsed := s₂.slotsUsed } : State).setVm s₂.vm).setTop g).pushFrame (.throwing q) := by
      refine e3.trans ?_
      rw [hf₂, State.calling_eq h.top, State.setFrames_setFrames, State.pushFrame, State.frames_setTop _ hr', State.setTop_of_frames _ hr', State.setFrames_setFrames, hr]
      rfl
    have hsame : U.sameButNew ({ U with heap := s₂.heap, slotsUsed := s₂.slotsUsed } : State) L mc ms := by
      refine ⟨?_, q2, q3, q4, q5, q6⟩
      obtain ⟨t, ht, -⟩ := State.frames_cons hr
      show ({ U with heap := s₂.heap, slotsUsed := s₂.slotsUsed } : State) = { U.setFrames U.frames with heap := s₂.heap, slotsUsed := s₂.slotsUsed }
      rw [State.setFrames_self ht]
    subst hg
    refine Or.inr ⟨q, ⟨(({ U with heap := s₂.heap, slotsUsed := s₂.slotsUsed } : State).setVm s₂.vm), Ls ++ L, c0 + mc, s0 + ms⟩,
      ⟨X.admits, X.cas, X.clock, X.frames, X.room, X.hears, X.method, X.code, (X.here.setHeapUsed s₂.heap s₂.slotsUsed).setVm hW'.alike, X.tail, State.WarmedH.trans X.warmed hW', X.limits, X.bytes, X.same.trans (hsame.setVm s.vm)⟩,
      ⟨g, mk, s₂, L, E, ce, rfl, rfl, hx, hce, hcv, hcl, rfl, hL, rfl, rfl⟩, ?_⟩
    show Steps p.tables e below _ (((({ U with heap := s₂.heap, slotsUsed := s₂.slotsUsed } : State).setVm s₂.vm).setTop g).pushFrame (.throwing q))
    rw [← hs₂]
    exact hsteps
end
variable {p : Program} {l : Launch} {e : Env} {R : Room} {s : State} {m : MethodId} {args : Array Value} {below : List Frame} {meth : Method} {c : Code} {T : State} {H : Heap} {locs : List Loc} {cells slots : Nat}
theorem vx_callVX (X : Stand p l e R s m args below meth c T locs cells slots) (hexec : p.tables.exec = Jvm.exec) {own C : String} {index : Nat} {y : MethodName} {bytes : ByteArray} {maxL : Nat} {ret : Option FieldType} {hh : List (Nat × Nat × Nat × Nat)}
    (hown : s.vm.findClass own = some m.cls) (hlink : (Cond.methodLink own index y).before args s = true) (hinst : (Cond.instanceMethod y).before args s = true) (hsel : (Cond.selects C y y).before args s = true)
    (hcode : (Cond.codeWith y bytes maxL ret hh).before args s = true) (hy : y.cls ≠ "java/lang/invoke/MethodHandle" ∧ y.cls ≠ "java/lang/invoke/VarHandle")
    {W9 : Nat} {Pre : Pt → Array Value → Prop} {Post : Pt → Array Value → Option Value → Pt → Prop} {PostX : Pt → Array Value → Addr → Pt → Prop} (hK : vx_Back l R p e below s args y 3 W9 Pre Post PostX)
    {b : Addr} {cellB : Cell} (hcell : T.heap[b]? = some cellB) (hobj : cellB.vm.isStatics = false) (hcls : s.vm.findClass C = some cellB.cls)
    {g : JFrame} (hg : g.method = m) (hsize : g.locals.size = c.maxLocals) {argsL rest : List Value} (hlen : ∀ sig, parseMethodDescriptor y.desc = some sig → argsL.length = sig.parameters.length)
    (hstack : g.stack = argsL.reverse ++ .ref b :: rest) (hW : 2 * g.monitorRoom + (rest.map fun v => v.category).sum ≤ W9) (hdg : decode c.code g.pc = .ok (.invokevirtual index, 3))
    (hpre : ∀ vm₁, s.WarmedH vm₁ → Pre ⟨T.setVm vm₁, locs, cells, slots⟩ (Value.ref b :: argsL).toArray) :
    (∃ (v : Option Value) (vm₁ : Vm) (B : Pt), s.WarmedH vm₁ ∧ Stand p l e R s m args below meth c B.U B.locs B.cells B.slots ∧ Post ⟨T.setVm vm₁, locs, cells, slots⟩ (Value.ref b :: argsL).toArray v B ∧
      ∀ target, Steps p.tables e below (B.U.setTop { g with pc := g.pc + 3, stack := v.toList ++ rest }) target → Steps p.tables e below (T.setTop g) target) ∨
    (∃ (q : Addr) (vm₁ : Vm) (B : Pt), s.WarmedH vm₁ ∧ Stand p l e R s m args below meth c B.U B.locs B.cells B.slots ∧ PostX ⟨T.setVm vm₁, locs, cells, slots⟩ (Value.ref b :: argsL).toArray q B ∧
      Steps p.tables e below (T.setTop g) ((B.U.setTop { g with stack := rest }).pushFrame (.throwing q))) := by
  obtain ⟨mk, methM, hnamed, hmethM, hstM, habM⟩ := Cond.instanceMethod_spec hinst
  obtain ⟨m8, methM', cM, hn8, hmethM', -, -, -, -, -, -, hsigM⟩ := Cond.codeWith_spec hcode
  cases Option.some.inj (hn8.symm.trans hnamed)
  cases hmethM.symm.trans hmethM'
  obtain ⟨c2, r2, m2, q1, q2, q3, q4, kP, hkP, hkPi⟩ := Cond.selects_spec hsel
  cases hcls.symm.trans q1
  cases (State.methodFound?_of_named hnamed hy).symm.trans q2
  cases hnamed.symm.trans q3
  have hselP : selectMethod e.platform s.vm cellB.cls mk = .method mk := by rw [Launch.admits_selectMethod X.admits]; exact q4
  obtain ⟨vm₁, X₁, hstep₁⟩ := X.invokevirtual hexec hown hlink hnamed hmethM hstM hkP hkPi hy (a := b) (cell := cellB) hcell
    (fun z h => by rw [h] at hobj; cases hobj) hselP hmethM habM hkP hkPi (g := g) hg (argsL := argsL) (rest := rest) (hlen _ hsigM) hstack hdg
  rcases hK m meth c ⟨T.setVm vm₁, locs, cells, slots⟩ { g with stack := rest } (.invokevirtual index) mk (Value.ref b :: argsL).toArray X₁ hg hsize hdg hW (X₁.named hnamed) (hpre vm₁ X₁.warmed) with ⟨v, B, X', hpost, hsteps⟩ | ⟨q, B, X', hpost, hsteps⟩
  · exact Or.inl ⟨v, vm₁, B, X₁.warmed, X', hpost, fun target h => hstep₁ _ fun acts => by rw [doInvoke_state]; exact hsteps.trans h⟩
  · exact Or.inr ⟨q, vm₁, B, X₁.warmed, X', hpost, hstep₁ _ fun acts => by rw [doInvoke_state]; exact hsteps⟩
theorem vx_callSX (X : Stand p l e R s m args below meth c T locs cells slots) (hexec : p.tables.exec = Jvm.exec) {own : String} {index : Nat} {y : MethodName} {bytes : ByteArray} {maxL : Nat} {ret : Option FieldType} {hh : List (Nat × Nat × Nat × Nat)}
    (hown : s.vm.findClass own = some m.cls) (hlink : (Cond.methodLink own index y).before args s = true) (hstat : (Cond.static y).before args s = true) (hinit : (Cond.initialized y.cls).before args s = true)
    (hcode : (Cond.codeWith y bytes maxL ret hh).before args s = true) (hy : y.cls ≠ "java/lang/invoke/MethodHandle" ∧ y.cls ≠ "java/lang/invoke/VarHandle")
    {W9 : Nat} {Pre : Pt → Array Value → Prop} {Post : Pt → Array Value → Option Value → Pt → Prop} {PostX : Pt → Array Value → Addr → Pt → Prop} (hK : vx_Back l R p e below s args y 3 W9 Pre Post PostX)
    {g : JFrame} (hg : g.method = m) (hsize : g.locals.size = c.maxLocals) {argsL rest : List Value} (hlen : ∀ sig, parseMethodDescriptor y.desc = some sig → argsL.length = sig.parameters.length)
    (hstack : g.stack = argsL.reverse ++ rest) (hW : 2 * g.monitorRoom + (rest.map fun v => v.category).sum ≤ W9) (hdg : decode c.code g.pc = .ok (.invokestatic index, 3))
    (hpre : ∀ vm₁, s.WarmedH vm₁ → Pre ⟨T.setVm vm₁, locs, cells, slots⟩ argsL.toArray) :
    (∃ (v : Option Value) (vm₁ : Vm) (B : Pt), s.WarmedH vm₁ ∧ Stand p l e R s m args below meth c B.U B.locs B.cells B.slots ∧ Post ⟨T.setVm vm₁, locs, cells, slots⟩ argsL.toArray v B ∧
      ∀ target, Steps p.tables e below (B.U.setTop { g with pc := g.pc + 3, stack := v.toList ++ rest }) target → Steps p.tables e below (T.setTop g) target) ∨
    (∃ (q : Addr) (vm₁ : Vm) (B : Pt), s.WarmedH vm₁ ∧ Stand p l e R s m args below meth c B.U B.locs B.cells B.slots ∧ PostX ⟨T.setVm vm₁, locs, cells, slots⟩ argsL.toArray q B ∧
      Steps p.tables e below (T.setTop g) ((B.U.setTop { g with stack := rest }).pushFrame (.throwing q))) := by
  obtain ⟨mk, methM, cM, hnamed, hmethM, -, -, -, -, -, -, hsigM⟩ := Cond.codeWith_spec hcode
  have hstatic : methM.isStatic = true := Cond.static_spec hnamed hmethM hstat
  obtain ⟨kP, hkP, -⟩ := className_of_methodNamed hnamed
  have hinitP : kP.init = .initialized := Cond.initialized_spec (findClass_of_methodNamed hnamed) hkP hinit
  obtain ⟨vm₁, X₁, hstep₁⟩ := X.invokestatic hexec hown hlink hnamed hmethM hstatic hkP hinitP hy (g := g) hg (argsL := argsL) (rest := rest) (hlen _ hsigM) hstack hdg
  rcases hK m meth c ⟨T.setVm vm₁, locs, cells, slots⟩ { g with stack := rest } (.invokestatic index) mk argsL.toArray X₁ hg hsize hdg hW (X₁.named hnamed) (hpre vm₁ X₁.warmed) with ⟨v, B, X', hpost, hsteps⟩ | ⟨q, B, X', hpost, hsteps⟩
  · exact Or.inl ⟨v, vm₁, B, X₁.warmed, X', hpost, fun target h => hstep₁ _ fun acts => by rw [doInvoke_state]; exact hsteps.trans h⟩
  · exact Or.inr ⟨q, vm₁, B, X₁.warmed, X', hpost, hstep₁ _ fun acts => by rw [doInvoke_state]; exact hsteps⟩
theorem vx_callVW (X : Stand p l e R s m args below meth c T locs cells slots) (hexec : p.tables.exec = Jvm.exec) {own C : String} {index : Nat} {y : MethodName} {bytes : ByteArray} {maxL : Nat} {ret : Option FieldType} {hh : List (Nat × Nat × Nat × Nat)}
    (hown : s.vm.findClass own = some m.cls) (hlink : (Cond.methodLink own index y).before args s = true) (hinst : (Cond.instanceMethod y).before args s = true) (hsel : (Cond.selects C y y).before args s = true)
    (hcode : (Cond.codeWith y bytes maxL ret hh).before args s = true) (hy : y.cls ≠ "java/lang/invoke/MethodHandle" ∧ y.cls ≠ "java/lang/invoke/VarHandle")
    {W9 : Nat} {Pre : Pt → Array Value → Prop} {Post : Pt → Array Value → Option Value → Pt → Prop} (hK : Back l R p e below s args y 3 W9 Pre Post)
    {b : Addr} {cellB : Cell} (hcell : T.heap[b]? = some cellB) (hobj : cellB.vm.isStatics = false) (hcls : s.vm.findClass C = some cellB.cls)
    {g : JFrame} (hg : g.method = m) (hsize : g.locals.size = c.maxLocals) {argsL rest : List Value} (hlen : ∀ sig, parseMethodDescriptor y.desc = some sig → argsL.length = sig.parameters.length)
    (hstack : g.stack = argsL.reverse ++ .ref b :: rest) (hW : 2 * g.monitorRoom + (rest.map fun v => v.category).sum ≤ W9) (hdg : decode c.code g.pc = .ok (.invokevirtual index, 3))
    (hpre : ∀ vm₁, s.WarmedH vm₁ → Pre ⟨T.setVm vm₁, locs, cells, slots⟩ (Value.ref b :: argsL).toArray) :
    ∃ (v : Option Value) (vm₁ : Vm) (B : Pt), s.WarmedH vm₁ ∧ Stand p l e R s m args below meth c B.U B.locs B.cells B.slots ∧ Post ⟨T.setVm vm₁, locs, cells, slots⟩ (Value.ref b :: argsL).toArray v B ∧
      ∀ target, Steps p.tables e below (B.U.setTop { g with pc := g.pc + 3, stack := v.toList ++ rest }) target → Steps p.tables e below (T.setTop g) target := by
  obtain ⟨mk, methM, hnamed, hmethM, hstM, habM⟩ := Cond.instanceMethod_spec hinst
  obtain ⟨m8, methM', cM, hn8, hmethM', -, -, -, -, -, -, hsigM⟩ := Cond.codeWith_spec hcode
  cases Option.some.inj (hn8.symm.trans hnamed)
  cases hmethM.symm.trans hmethM'
  obtain ⟨c2, r2, m2, q1, q2, q3, q4, kP, hkP, hkPi⟩ := Cond.selects_spec hsel
  cases hcls.symm.trans q1
  cases (State.methodFound?_of_named hnamed hy).symm.trans q2
  cases hnamed.symm.trans q3
  have hselP : selectMethod e.platform s.vm cellB.cls mk = .method mk := by rw [Launch.admits_selectMethod X.admits]; exact q4
  obtain ⟨vm₁, X₁, hstep₁⟩ := X.invokevirtual hexec hown hlink hnamed hmethM hstM hkP hkPi hy (a := b) (cell := cellB) hcell
    (fun z h => by rw [h] at hobj; cases hobj) hselP hmethM habM hkP hkPi (g := g) hg (argsL := argsL) (rest := rest) (hlen _ hsigM) hstack hdg
  obtain ⟨v, B, X', hpost, hsteps⟩ := hK m meth c ⟨T.setVm vm₁, locs, cells, slots⟩ { g with stack := rest } (.invokevirtual index) mk (Value.ref b :: argsL).toArray X₁ hg hsize hdg hW (X₁.named hnamed) (hpre vm₁ X₁.warmed)
  exact ⟨v, vm₁, B, X₁.warmed, X', hpost, fun target h => hstep₁ _ fun acts => by rw [doInvoke_state]; exact hsteps.trans h⟩
abbrev vx_CVW (R : Room) (s : State) (args : Array Value) (own C : String) (index : Nat) (y : MethodName) (bytes : ByteArray) (maxL : Nat) (ret : Option FieldType) (hh : List (Nat × Nat × Nat × Nat)) (ws : List Cond) (rm : Room) (mc ms n : Nat) : Prop :=
  (rm.cells = mc ∧ rm.slots = ms ∧ rm.frames + 1 ≤ R.frames ∧ 8 + (maxL + 11) + rm.locals ≤ R.locals ∧ (∀ w ∈ ws, ∀ (a' : Array Value) (U : State), s.WarmedH U.vm → w.before a' U = true) ∧ Cond.codeWith y bytes maxL ret hh ∈ ws) ∧
  (Cond.codeWith y bytes maxL ret hh).before args s = true ∧ (Cond.initialized y.cls).before args s = true ∧ (y.cls ≠ "java/lang/invoke/MethodHandle" ∧ y.cls ≠ "java/lang/invoke/VarHandle") ∧
  (∀ sig, parseMethodDescriptor y.desc = some sig → n = sig.parameters.length) ∧ (Cond.methodLink own index y).before args s = true ∧ (Cond.instanceMethod y).before args s = true ∧ (Cond.selects C y y).before args s = true
theorem vx_cwVW {own C : String} {index maxL mc ms : Nat} {y : MethodName} {bytes : ByteArray} {ret : Option FieldType} {hh : List (Nat × Nat × Nat × Nat)} {Ts ws ws' : List Cond} {rm : Room} (n : Nat) (ht : ∀ w ∈ Ts, w.before args s = true) (hT : GoodIn Ts (wsV own index C y ws)) (hw : ws = Cond.codeWith y bytes maxL ret hh :: ws') (hrc : rm.cells = mc) (hrs : rm.slots = ms)
    (hd : y.cls = C ∧ y.cls ≠ "java/lang/invoke/MethodHandle" ∧ y.cls ≠ "java/lang/invoke/VarHandle" ∧ (parseMethodDescriptor y.desc).map (fun d => d.parameters.length) = some n) (hR : rm.frames + 1 ≤ R.frames ∧ 8 + (maxL + 11) + rm.locals ≤ R.locals) :
    vx_CVW R s args own C index y bytes maxL ret hh ws rm mc ms n := by
  obtain ⟨hC, hd⟩ := hd
  subst hC
  have ok : ∀ w ∈ wsV own index y.cls y ws, w.before args s = true := fun w h => ht w (hT w h).1
  have hG : GoodIn Ts ws := fun w h => hT w (by unfold wsV; exact List.mem_append_right _ h)
  have hc : Cond.codeWith y bytes maxL ret hh ∈ ws := by rw [hw]; exact List.mem_cons_self
  refine ⟨⟨hrc, hrs, hR.1, hR.2, pay_in ht hG, hc⟩, ht _ (hG _ hc).1, ok _ (by simp [wsV]), ⟨hd.1, hd.2.1⟩, fun sig h => ?_, ok _ (by simp [wsV]), ok _ (by simp [wsV]), ok _ (by simp [wsV])⟩
  have h2 := hd.2.2
  rw [h] at h2
  exact (Option.some.inj h2).symm
theorem vx_runVW {y : MethodName} {bytes cc : ByteArray} {maxL nL mc ms n index : Nat} {ret : Option FieldType} {hh : List (Nat × Nat × Nat × Nat)} {ws : List Cond} {rm : Room} {Pc : Array Value → State → Prop} {Qc : Array Value → State → Outcome → State → Prop} {free : Addr → Prop} {Ts : List Cond} {own C : String} {b : Addr} {As rest : List Value} {g : JFrame}
    (S : CallFix p m c cc nL s args Ts own) (hM : Met l y ws rm Pc Qc mc ms free) (cw : vx_CVW R s args own C index y bytes maxL ret hh ws rm mc ms n) (hp : PreV s H C b Pc As)
    (hg : g.method = m) (hn : As.length = n) (hsize : g.locals.size = nL) (hstack : g.stack = As.reverse ++ .ref b :: rest) (hW : 2 * g.monitorRoom + (rest.map fun v => v.category).sum ≤ 8) (hdg : decode cc g.pc = .ok (.invokevirtual index, 3)) (hf : cells + mc ≤ R.cells ∧ slots + ms ≤ R.slots) :
    va_Run p l e R s m args below meth c H locs cells slots mc ms g rest (Qc (Value.ref b :: As).toArray) free := by
  obtain ⟨⟨hrc, hrs, hfr, hlo, hws, hcw⟩, hcode, hini, hy, hlen, hl, hin, hse⟩ := cw
  have hK : Back l R p e below s args y 3 8 (PreOf R mc ms Pc) (PostOf Qc mc ms free) := va_backW (hh := hh) (bytes := bytes) (maxL := maxL) (ret := ret) hM hp.1 hrc hrs hfr hlo hws hcw (fun a' U hW => word_at hW (Or.inl (by first | rfl | simp [Cond.onTables, Cond.keeps, Cond.steady])) hini)
  obtain ⟨hx, hb, hml, ho, -⟩ := S
  obtain ⟨-, ⟨cellB, hcB, hoB, hclB⟩, hPc⟩ := hp
  intro T hT X
  obtain ⟨v, vm₁, ⟨U', l2, c2, s2⟩, hW₁, X', ⟨g', mk, t, L, e1, e2, hq, h1, hL, h2, h3⟩, st⟩ := vx_callVW X hx (C := C) (hh := hh) (bytes := bytes) (maxL := maxL) (ret := ret) ho hl hin hse hcode hy hK (by rw [hT]; exact hcB) hoB hclB hg (hsize.trans hml.symm) (argsL := As) (rest := rest) (fun sig h => hn.trans (hlen sig h)) hstack hW (by rw [hb]; exact hdg)
    (fun vm₁ hW₁ => ⟨hf.1, hf.2, hPc (T.setVm vm₁) hT hW₁⟩)
  dsimp only [Pt.U, Pt.locs, Pt.cells, Pt.slots] at X' e1 e2 h1 h2 h3 st
  subst h1; subst h2; subst h3
  exact ⟨v, (T.setVm vm₁).calling g' mk (Value.ref b :: As).toArray, t, U', L, hT, X', hL, e1, e2, hq, st⟩
section
variable {y : MethodName} {bytes cc : ByteArray} {maxL nL mc ms n index : Nat} {ret : Option FieldType} {ws : List Cond} {rm : Room} {Pc : Array Value → State → Prop} {Qc : Array Value → State → Outcome → State → Prop} {XC : Addr → String → State → State → Prop} {free : Addr → Prop} {Ts : List Cond} {own C : String} {b : Addr} {As rest : List Value} {g : JFrame}
theorem vx_runVX {hh : List (Nat × Nat × Nat × Nat)} (S : CallFix p m c cc nL s args Ts own) (hM : vx_Met l y ws rm Pc Qc XC mc ms free) (cw : vx_CVW R s args own C index y bytes maxL ret hh ws rm mc ms n) (hp : PreV s H C b Pc As)
    (hg : g.method = m) (hn : As.length = n) (hsize : g.locals.size = nL) (hstack : g.stack = As.reverse ++ .ref b :: rest) (hW : 2 * g.monitorRoom + (rest.map fun v => v.category).sum ≤ 8) (hdg : decode cc g.pc = .ok (.invokevirtual index, 3)) (hf : cells + mc ≤ R.cells ∧ slots + ms ≤ R.slots) :
    vx_Run p l e R s m args below meth c H locs cells slots mc ms g rest (Qc (Value.ref b :: As).toArray) XC free := by
  obtain ⟨⟨hrc, hrs, hfr, hlo, hws, hcw⟩, hcode, hini, hy, hlen, hl, hin, hse⟩ := cw
  have hK : vx_Back l R p e below s args y 3 8 (PreOf R mc ms Pc) (PostOf Qc mc ms free) (vx_Post XC mc ms free) := vx_backW (hh := hh) (bytes := bytes) (maxL := maxL) (ret := ret) hM hp.1 hrc hrs hfr hlo hws hcw (fun a' U hW => word_at hW (Or.inl (by first | rfl | simp [Cond.onTables, Cond.keeps, Cond.steady])) hini)
  obtain ⟨hx, hb, hml, ho, -⟩ := S
  obtain ⟨-, ⟨cellB, hcB, hoB, hclB⟩, hPc⟩ := hp
  intro T hT X
  rcases vx_callVX X hx (C := C) (hh := hh) (bytes := bytes) (maxL := maxL) (ret := ret) ho hl hin hse hcode hy hK (by rw [hT]; exact hcB) hoB hclB hg (hsize.trans hml.symm) (argsL := As) (rest := rest) (fun sig h => hn.trans (hlen sig h)) hstack hW (by rw [hb]; exact hdg)
    (fun vm₁ hW₁ => ⟨hf.1, hf.2, hPc (T.setVm vm₁) hT hW₁⟩) with ⟨v, vm₁, ⟨U', l2, c2, s2⟩, hW₁, X', ⟨g', mk, t, L, e1, e2, hq, h1, hL, h2, h3⟩, st⟩ | ⟨q, vm₁, ⟨U', l2, c2, s2⟩, hW₁, X', ⟨g', mk, t, L, E, ce, e1, e2, hq, hce, hcv, hcl, h1, hL, h2, h3⟩, st⟩
  · dsimp only [Pt.U, Pt.locs, Pt.cells, Pt.slots] at X' e1 e2 h1 h2 h3 st
    subst h1; subst h2; subst h3
    exact Or.inl ⟨v, (T.setVm vm₁).calling g' mk (Value.ref b :: As).toArray, t, U', L, hT, X', hL, e1, e2, hq, st⟩
  · dsimp only [Pt.U, Pt.locs, Pt.cells, Pt.slots] at X' e1 e2 h1 h2 h3 st hcl
    subst h1; subst h2; subst h3
    exact Or.inr ⟨q, (T.setVm vm₁).calling g' mk (Value.ref b :: As).toArray, t, U', L, E, ce, hT, X', hL, e1, e2, hq, hce, hcv, vx_cls hW₁ hcl, st⟩
end
end VXH
section VXA2
variable {p : Program} {l : Launch} {e : Env} {R : Room} {s : State} {m : MethodId} {args : Array Value} {below : List Frame} {meth : Method} {c : Code} {H : Heap} {locs : List Loc} {cells slots : Nat} {Q : State → Prop} {ls : Array Slot} {rest : List Value}
theorem vx_athrow {cc : ByteArray} {pc : Nat} (hexec : p.tables.exec = Jvm.exec) (hb : c.code = cc) {q : Addr} (hdg : decode cc pc = .ok (.athrow, 1)) (k : vx_W p l e R s m args below meth c H locs cells slots Q (F0 m pc ls rest) q) : W p l e R s m args below meth c H locs cells slots Q (F0 m pc ls (.ref q :: rest)) := by
  intro T hT X
  obtain ⟨t, st, hq⟩ := k T hT X
  refine ⟨t, ?_, hq⟩
  have hdg' : decode c.code pc = .ok (.athrow, 1) := by rw [hb]; exact hdg
  jvm_step X.here [X.here.top, hexec, hdg', athrow.wp_sem]
  exact st
end VXA2
/-! the constructor of RuntimeException on an object of a class below it that has a field of its own (follows vx_ctorMade0) -/
section XW
variable {p : Program} {l : Launch} {e : Env} {R : Room} {s : State} {m₀ : MethodId} {args : Array Value} {below : List Frame} {meth : Method} {c : Code} {W : State} {locs : List Loc} {cells slots : Nat}
set_option maxHeartbeats 1000000 in
theorem xw_ctor0 (X : Stand p l e R s m₀ args below meth c W locs cells slots) (hexec : p.tables.exec = Jvm.exec) (htr : e.platform.stackTraces = false) {own cls XO : String} {names : List String} {ic : Nat}
    (hown : s.vm.findClass own = some m₀.cls) (hcls : Bundle.fit cls = true) (hnames : ∀ n ∈ names, Bundle.fit n = true)
    (ht : ∀ a ∈ Bundle.throwableAtoms, a.before args s = true) (hch : ∀ a ∈ Bundle.chain0Atoms cls names, a.before args s = true)
    (hml : (Cond.methodLink own ic (Bundle.init0 cls)).before args s = true) (his : (Cond.instanceMethod (Bundle.init0 cls)).before args s = true) (hcd : (Cond.code (Bundle.init0 cls) Bundle.five 1 none).before args s = true)
    (hs0 : (Cond.selects XO Bundle.tFill0 Bundle.tFill0).before args s = true) (hs1 : (Cond.selects XO Bundle.tFill Bundle.tFill).before args s = true)
    (hlC : (Cond.lays XO Bundle.tN "cause" "Ljava/lang/Throwable;").before args s = true) (hlS : (Cond.lays XO Bundle.tN "stackTrace" Bundle.steD).before args s = true) (hlP : (Cond.lays XO Bundle.tN "suppressedExceptions" Bundle.listD).before args s = true) (hlB : (Cond.lays XO Bundle.tN "backtrace" "Ljava/lang/Object;").before args s = true)
    (hrU : (Cond.isRef (.static Bundle.tN "UNASSIGNED_STACK" Bundle.steD)).before args s = true) (hrN : (Cond.isRef (.static Bundle.tN "SUPPRESSED_SENTINEL" Bundle.listD)).before args s = true)
    (hf198 : (Cond.fieldLink Bundle.tN 198 Bundle.tN "backtrace" "Ljava/lang/Object;").before args s = true) (hlB0 : (Cond.lays Bundle.tN Bundle.tN "backtrace" "Ljava/lang/Object;").before args s = true)
    (hlocs : ∀ x ∈ locs, ∀ cell, s.heap[x.base]? = some cell → cell.vm.isStatics = false)
    {a : Addr} {cX : ClassId} {kX : Class} (hfoundX : s.vm.findClass XO = some cX) (hk : s.vm.classes[cX]? = some kX) (hord : kX.kind = .ordinary) (hcell : W.heap[a]? = some (freshCell cX kX))
    {g : JFrame} (hg : g.method = m₀) (hsize : g.locals.size = c.maxLocals) {rest : List Value} (hstack : g.stack = .ref a :: rest)
    (hd6 : decode c.code g.pc = .ok (.invokespecial ic, 3))
    (hRframes : names.length + 3 < R.frames) (hRlocals : 2 * g.monitorRoom + (rest.map fun v => v.category).sum + (13 * (names.length + 1) + 41) ≤ R.locals) :
    ∃ (V : State) (ce : Cell) (L : List Loc), Stand p l e R s m₀ args below meth c (V.setCell a ce) (locs ++ L) cells slots ∧ (∀ y ∈ L, y.base = a) ∧ V.heap = W.heap ∧ ce.cls = cX ∧ ce.vm = .none ∧ ce.slots.size = (freshCell cX kX).slots.size ∧
      ∀ target, Steps p.tables e below ((V.setCell a ce).setTop { g with stack := rest, pc := g.pc + 3 }) target → Steps p.tables e below (W.setTop g) target := by
  have howns : e.platform.frameOwnsMonitors = true := by rw [X.admits.platform]
  have hfin : e.platform.finalization = false := by rw [X.admits.platform]
  have hpl : e.platform.magicAccessors = ({} : Platform).magicAccessors := by rw [X.admits.platform]
  obtain ⟨T, Z, L, LZ, Y⟩ := ThrowableC.of_atoms (args := args) howns hfin hpl ht
  obtain ⟨P1, Ps, hlen, L1, hL, hP1m, hlink1, hlink⟩ := Bundle.chain0 (args := args) hpl Y.init0 names cls hcls hnames hch
  have hsel0 : selectMethod e.platform s.vm cX T.fill0 = .method T.fill0 := by
    obtain ⟨c2, r2, m2, q1, q2, q3, q4, -⟩ := Cond.selects_spec hs0
    cases Option.some.inj (q1.symm.trans hfoundX)
    cases Option.some.inj (q2.symm.trans (State.methodFound?_of_named Y.fill0 (by decide)))
    cases Option.some.inj (q3.symm.trans Y.fill0)
    rw [Launch.admits_selectMethod X.admits]; exact q4
  have hselF : selectMethod e.platform s.vm cX T.fill = .method T.fill := by
    obtain ⟨c2, r2, m2, q1, q2, q3, q4, -⟩ := Cond.selects_spec hs1
    cases Option.some.inj (q1.symm.trans hfoundX)
    cases Option.some.inj (q2.symm.trans (State.methodFound?_of_named Y.fill (by decide)))
    cases Option.some.inj (q3.symm.trans Y.fill)
    rw [Launch.admits_selectMethod X.admits]; exact q4
  obtain ⟨cellS0, hcS0, hiss⟩ := Y.statics
  obtain ⟨u0, hu0⟩ := Cond.staticRefV Y.unassigned L.unassignedStatic L.statics hcS0 hiss hrU
  obtain ⟨sen, hsen⟩ := Cond.staticRefV Y.sentinel L.sentinelStatic L.statics hcS0 hiss hrN
  obtain ⟨ci198, i198, fB, hk198, hg198, ha198, hsB, -, hnB, htB, hffB⟩ := Cond.ownField (t := .object "java/lang/Object") Y.found L.cls (by decide +kernel) hf198 hlB0 e.platform hpl
  obtain ⟨cellS, hcS', heS, -, hkeep⟩ := X.same.2.2.2.2.2 T.aS cellS0 hcS0
  have hcellS : W.heap[T.aS]? = some cellS := hcS'
  have hout' : ∀ i, (⟨T.aS, i⟩ : Loc) ∉ locs := fun i hmem => by
    have := hlocs _ hmem cellS0 hcS0
    rw [hiss] at this; cases this
  have hknownS : cellS.vm ≠ .unknown := by
    rw [heS]; intro hu
    rw [show cellS0.vm = .unknown from hu] at hiss
    cases hiss
  have hneS : T.aS ≠ a := fun h => by
    rw [h] at hcellS
    cases Option.some.inj (hcellS.symm.trans hcell)
    have h9 := congrArg (fun z : Cell => z.vm.isStatics) heS
    have h10 : false = cellS0.vm.isStatics := h9
    rw [hiss] at h10
    cases h10
  obtain ⟨tyC, dC, hdC, hdnC⟩ := Cond.laysAt hfoundX hk Y.cause hlC
  obtain ⟨tyS, dS, hdS, hdnS⟩ := Cond.laysAt hfoundX hk Y.stack hlS
  obtain ⟨tyP, dP, hdP, hdnP⟩ := Cond.laysAt hfoundX hk Y.supp hlP
  obtain ⟨tyB, dB, hdB, hdnB⟩ := Cond.laysAt hfoundX hk hffB hlB
  have bC := Cond.laysApart hdB hdC hdnB hdnC (by rw [hnB, Y.causeName]; decide)
  have bS := Cond.laysApart hdB hdS hdnB hdnS (by rw [hnB, Y.stackName]; decide)
  have bP := Cond.laysApart hdB hdP hdnB hdnP (by rw [hnB, Y.suppName]; decide)
  have hskip : SkipFacts T e.platform s (fun u => u) u0 ((preparedCellV T.toThrowableT (freshCell cX kX) a u0 sen).withEntry W.cur) :=
    ⟨{ ci198 := ci198, i198 := i198, fBack := fB }, ⟨hk198, hg198, ha198, hsB⟩, by
      have := fresh_default (c := cX) tyB
      rw [htB] at this
      simpa [preparedCellV, Cell.setSlot, Cell.withEntry, Array.getElem?_setIfInBounds, bC, bS, bP, bC.symm, bS.symm, bP.symm, defaultValue] using this, fun _ _ => rfl⟩
  obtain ⟨tm, methC, cdC, kC, vm₁, hnC, -, -, -, -, -, -, -, hW₁, st1⟩ := Steps.initCold (tb := p.tables) (e := e) (below := below) (s := s) (U := W) X.here hexec X.warmed hpl hown (t := Bundle.init0 cls) rfl rfl (Bundle.fit_spec hcls).2
    hml his (bytes := Bundle.five) (maxL := 1) hcd
    (f := g) hg (a := a) (rest := rest) hstack hd6
  cases Option.some.inj (hnC.symm.trans hP1m)
  have X₁ := X.noted hW₁
  obtain ⟨vm₂, X₂, st2⟩ := X₁.ctorPlainOffV hexec (g := { g with stack := rest }) hg hsize T L Z LZ (P1 :: Ps)
    (fun P hP => by rcases List.mem_cons.mp hP with rfl | hP; exact L1; exact hL P hP) ⟨hlink1, hlink⟩ (u0 := u0) (sen := sen) (self := a) (cell := freshCell cX kX) (cellS := cellS)
    hcell (fun _ => by simp) (by simp) rfl rfl hsel0 hselF hcellS hneS hknownS (by rw [hkeep _ (hout' _)]; exact hu0) (by rw [hkeep _ (hout' _)]; exact hsen)
    (Takes.of_laid hk hord tyC (by rw [Y.causeType]; rfl)) (Takes.of_laid hk hord tyS (by rw [Y.stackType]; exact fits_refV_array _ u0)) (Takes.of_laid hk hord tyP (by rw [Y.suppType]; exact fits_refV_object _ sen)) Y.objLocals hskip htr [] hd6
    (by simp only [List.length_cons, hlen]; omega) (by simp only [List.length_cons, hlen]; exact hRlocals)
  refine ⟨(W.setVm vm₁).setVm vm₂, _, _, X₂, fun y hy => ?_, rfl, rfl, rfl, ?_, fun target hwalk => st1 _ (fun acts => ?_)⟩
  · simp only [List.mem_cons, List.not_mem_nil, or_false] at hy
    rcases hy with rfl | rfl | rfl | rfl <;> rfl
  · simp [preparedCellV, Cell.setSlot]
  · rw [doInvoke_state]
    exact st2 _ hwalk
end XW

/-! contracts of methods that throw a Wrong in the state at hand -/
def ZQ (A : Nat → Prop) (U : State) (H : Heap) : Prop := vx_Zq Bundle.tN "UNASSIGNED_STACK" Bundle.steD A U H ∧ vx_Zq Bundle.tN "SUPPRESSED_SENTINEL" Bundle.listD A U H
theorem ZQ.kept {A : Nat → Prop} {U : State} {H H1 : Heap} (h : ZQ A U H) (hq : ∀ a : Nat, a < H.size → ¬ A a → H1[a]? = H[a]?) : ZQ A U H1 := ⟨h.1.kept hq, h.2.kept hq⟩
theorem ZQ.narrow {A B : Nat → Prop} {U : State} {H : Heap} (h : ZQ A U H) (hAB : ∀ q, B q → A q) : ZQ B U H := ⟨h.1.narrow hAB, h.2.narrow hAB⟩
theorem ZQ.moved {A : Nat → Prop} {u U : State} {H : Heap} (hvm : u.vm.Alike U.vm) (h : ZQ A u H) : ZQ A U H := ⟨h.1.moved hvm, h.2.moved hvm⟩
def PreZ (D : va_G) (ct : Nat → ClassId) (ws : va_W) (sz : Nat) (U : State) : Prop := PreC D ct ws sz U ∧ ZQ (va_A ws sz) U U.heap
theorem blindZ {av : List Value} {D : va_G} {ct : Nat → ClassId} {wc : va_W} {sz : Nat} : FrameBlind (va_Pc av (PreZ D ct wc sz)) := fun a U g mk q => by
  obtain ⟨q0, q1, q2⟩ := q
  exact ⟨q0, (blindC a U g mk ⟨q0, q1⟩).2, ZQ.moved (u := U) (U := U.calling g mk a) (Vm.Alike.refl U.vm) q2⟩
theorem preZ_of {s : State} {H : Heap} {locs : List Loc} {av : List Value} {D : va_G} {ct : Nat → ClassId} {wc : va_W} {A A' : Nat → Prop} (hP : va_P D vwCl wc H) (hK : va_K D vwCl (TY ct) s) (hD : va_D A' wc) (hn : nwOK s) (hZ : ZQ A s s.heap) (hS : va_S A s.heap H locs) (hF : ∀ q, va_A wc H.size q → A q) : ∀ U : State, U.heap = H → s.WarmedH U.vm → va_Pc av (PreZ D ct wc H.size) av.toArray U := fun U hU hW =>
  ⟨rfl, (preC_of (av := av) hP hK hD hn U hU hW).2, by rw [hU]; exact ((hZ.kept hS.2.1).narrow hF).moved hW.alike⟩
abbrev pxW : List Value → Prop := fun fs => fs.length = 7 ∧ fs[6]? = some (.int 0)
def BXw (D : va_G) (A : Nat → Prop) (w1 : va_W) : Addr → String → List Value → State → Prop := fun q E fs t => E = RX15 ∧ va_P D vwCl (w1 ++ [(q, .inr (15, fs))]) t.heap ∧ va_D A (w1 ++ [(q, .inr (15, fs))])
abbrev QF : Array Value → State → Outcome → State → Prop := fun _ _ _ _ => False
abbrev KX (l : Launch) (y : MethodName) (b : ByteArray) (nL : Nat) (ret : Option FieldType) (fr lo : Nat) (D : va_G) (ct : Nat → ClassId) (av : List Value) (wc : va_W) (mc ms : Nat) (w1 : va_W) : Prop :=
  ∀ sz : Nat, vx_Met l y [Cond.code y b nL ret] ({ frames := fr, cells := mc, slots := ms, locals := lo }) (va_Pc av (PreZ D ct wc sz)) QF (vx_X pxW (BXw D (va_A wc sz) w1) (va_A wc sz)) mc ms (va_A wc sz)
theorem KX_of {l : Launch} {y : MethodName} {b : ByteArray} {nL : Nat} {ret : Option FieldType} {fr lo mc ms : Nat} {D : va_G} {ct : Nat → ClassId} {av : List Value} {wc w1 : va_W} (hy : plainName y.cls = true) (hlen : (lg_sl av).length ≤ nL)
    (body : ∀ (p : Program) (e : Env) (s : State) (m : MethodId) (below : List Frame) (meth : Method) (c : Code) (A : Nat → Prop), CxB p s m meth c y b nL ret D ct → (∀ x ∈ c.exceptionTable.toList, False) → ZQ A s s.heap → (∀ q, s.heap.size ≤ q → A q) → va_S A s.heap s.heap [] → va_P D vwCl wc s.heap → va_D A wc → ∀ ls : Array Slot, lv_has ls nL (lv_args 0 av) →
      W p l e ({ frames := fr, cells := mc, slots := ms, locals := lo }) s m av.toArray below meth c s.heap [] 0 0 (vx_MQ below QF (vx_X pxW (BXw D A w1) A) av.toArray s mc ms A) (F0 m 0 ls [])) :
    KX l y b nL ret fr lo D ct av wc mc ms w1 := by
  intro sz
  refine vx_ofW (cc := b) (maxL := nL) (ret := ret) hy rfl ?_
  intro p e s m args below meth c s₁ B hml htab hv
  obtain ⟨rfl, ⟨hsz, hP, hK, hD0, hn⟩, hZ⟩ := hv
  have hown : s.vm.findClass y.cls = some m.cls := findClass_of_methodNamed B.named
  have hin : meth.name = y.name := (name_of_methodNamed B.named B.method).1
  subst hsz
  have hD := hD0.self (sz := s.heap.size)
  have hl := lv_entry av (n := nL) hlen
  rw [lg_entry_eq]
  exact body p e s m below meth c (va_A wc s.heap.size) ⟨B.exec, B.bytes, B.returns, hown, hin, hml, B.notSynchronized, hn, hK⟩ htab hZ (fun q h => Or.inr h) va_S.rf hP hD _ hl
section XCALLS
variable {p : Program} {l : Launch} {e : Env} {R : Room} {s : State} {m : MethodId} {args : Array Value} {below : List Frame} {meth : Method} {c : Code} {H H0 : Heap} {locs : List Loc} {cells slots : Nat} {Q : State → Prop} {A : Nat → Prop}
variable {D : va_G} {ct : Nat → ClassId} {ws wc wr w1 : va_W} {own : String} {index nL maxL mc ms fr lo n k1 n1 pc : Nat} {y : MethodName} {bytes cc : ByteArray} {ret : Option FieldType} {b : Addr} {As rest st0 : List Value} {ls : Array Slot}
theorem rx_V {Qc : Array Value → State → Outcome → State → Prop} {XC : Addr → String → State → State → Prop} {free : Addr → Prop} (hM : vx_Met l y [Cond.code y bytes maxL ret] ({ frames := fr, cells := mc, slots := ms, locals := lo }) (va_Pc (Value.ref b :: As) (PreZ D ct wc H.size)) Qc XC mc ms free)
    (cb : CallB R s args own index y bytes maxL ret [Cond.code y bytes maxL ret] ({ frames := fr, cells := mc, slots := ms, locals := lo }) mc ms n)
    (hx : p.tables.exec = Jvm.exec) (hb : c.code = cc) (hml : c.maxLocals = nL) (hown : s.vm.findClass own = some m.cls) (hn : nwOK s) (hK : va_K D vwCl (TY ct) s) (hPc : va_P D vwCl wc H) (hDc : va_D A wc) (hZ : ZQ A s s.heap) (hS : va_S A s.heap H locs) (hF : ∀ q, va_A wc H.size q → A q)
    (hinst : Cond.instanceMethod y ∈ lw_tbl) (hsel : Cond.selects y.cls y y ∈ lw_tbl) {ci q0 : Nat} {q : vw_C} {fs : List Value} (hc : vwCl[ci]? = some q) (hq : q.1 = y.cls) (he : wc[q0]? = some (b, .inr (ci, fs)))
    (hln : As.length = n) (hsize : ls.size = nL) (hW : (rest.map fun v => v.category).sum ≤ 8) (hdg : decode cc pc = .ok (.invokevirtual index, 3)) (hf : cells + mc ≤ R.cells ∧ slots + ms ≤ R.slots) :
    vx_Run p l e R s m args below meth c H locs cells slots mc ms (F0 m pc ls (As.reverse ++ .ref b :: rest)) rest (Qc (Value.ref b :: As).toArray) XC free := by
  refine vx_runV (C := y.cls) (fix0 hx hb hml hown) hM ⟨cb, hn.get hinst rfl, hn.get hsel rfl⟩ ⟨blindZ, ?_, preZ_of hPc hK hDc hn hZ hS hF⟩ rfl hln hsize rfl (lv_room hW) hdg hf
  have h := va_recv hK hPc hc he
  rw [hq] at h
  exact h
theorem exc_cell {q : Addr} {fs : List Value} (hK : va_K D vwCl (TY ct) s) (hP : va_P D vwCl ws H) {k : Nat} (hk : ws[k]? = some ((q, .inr (15, fs)) : Nat × va_E)) : ∃ ce : Cell, H[q]? = some ce ∧ ce.vm = .none ∧ s.vm.findClass RX15 = some ce.cls := by
  obtain ⟨r, hr, cell, h1, h2, h3, -⟩ := hP k _ hk
  have h4 := (hK.1 15 (RX15, TX15, 7) rfl).2
  exact ⟨cell, h1, h3, by rw [h2]; exact h4.1⟩
theorem go_x {a : Array Value} (isC isR : List Nat) (hr : vx_Run p l e R s m args below meth c H locs cells slots mc ms (F0 m pc ls st0) rest (QF a) (vx_X pxW (BXw D (va_A wc H.size) w1) (va_A wc H.size)) (va_A wc H.size))
    (hP : va_P D vwCl ws H) (hD : va_D A ws) (hS : va_S A H0 H locs) (hA : ∀ q, H0.size ≤ q → A q) (hC : isC.map (fun i => ws[i]?) = wc.map some) (hR : isR.map (fun i => ws[i]?) = wr.map some) (hnd : va_nd isR = true) (hdis : ∀ i ∈ isR, i ∉ isC) (h1 : cells + mc ≤ k1) (h2 : slots + ms ≤ n1)
    (kx : ∀ (q : Addr) (fs : List Value) (H1 : Heap) (locs1 : List Loc), fs.length = 7 → fs[6]? = some (.int 0) → va_P D vwCl (wr ++ (w1 ++ [(q, .inr (15, fs))])) H1 → va_D A (wr ++ (w1 ++ [(q, .inr (15, fs))])) → va_S A H0 H1 locs1 → vx_W p l e R s m args below meth c H1 locs1 k1 n1 Q (F0 m pc ls rest) q) : W p l e R s m args below meth c H locs cells slots Q (F0 m pc ls st0) := by
  have hF := va_free hD hS hA isC hC
  intro T hT X
  rcases hr T hT X with ⟨v, st₀, t, T', L, h0, X', hL, e1, e2, hq, st⟩ | ⟨q, st₀, t, T', L, E, ce, h0, X', hL, e1, e2, ⟨u, hp, hb, hF1⟩, hce, hcv, hcl, st⟩
  · exact absurd hq id
  · obtain ⟨k1', k2, k3⟩ := vx_keep h0 e1 hS (fun q _ h => hF q h) hF hL hF1
    obtain ⟨hE, hP1, hD1⟩ := hb
    rw [← e1] at hP1
    obtain ⟨hP2, hD2⟩ := va_join hP hD isC isR hC hR hnd hdis k2 hF hP1 hD1
    obtain ⟨t2, a1, b1⟩ := vx_widen h1 h2 (kx q u T'.heap (locs ++ L) hp.1 hp.2 hP2 hD2 k3) T' rfl X'
    exact ⟨t2, st.trans a1, b1⟩
theorem x_out {q : Addr} {fs : List Value} (hout : ∀ x ∈ c.exceptionTable.toList, False) (hlocks : meth.locks = false) (hK : va_K D vwCl (TY ct) s) (hP : va_P D vwCl ws H) (hD : va_D A ws) (hS : va_S A s.heap H locs) (h7 : fs.length = 7) (h6 : fs[6]? = some (.int 0)) (is : List Nat) (hs : is.filterMap (fun i => ws[i]?) = w1 ++ ([(q, .inr (15, fs))] : va_W)) (hnd : va_nd is = true) (hs2 : is.map (fun i => ws[i]?) = (w1 ++ ([(q, .inr (15, fs))] : va_W)).map some) {kq : Nat} (hkq : ws[kq]? = some ((q, .inr (15, fs)) : Nat × va_E)) (h1 : cells ≤ mc) (h2 : slots ≤ ms) :
    vx_W p l e R s m args below meth c H locs cells slots (vx_MQ below QF (vx_X pxW (BXw D A w1) A) args s mc ms A) (F0 m pc ls rest) q := by
  obtain ⟨ce, e1, e2, e3⟩ := exc_cell (ct := ct) hK hP hkq
  exact vx_out (fun x hx => absurd (hout x hx) id) hlocks e1 e2 e3 (fun t ht hvm => ⟨fs, ⟨h7, h6⟩, ⟨rfl, by rw [ht]; exact hP.sub is hs, hD.sub is hnd hs2⟩, hS.F ht⟩) hS.2.2 h1 h2
end XCALLS

/-! new Wrong(int) -/
abbrev fs0W : List Value := [.null, .null, .null, .null, .null, .int 0, .int 0]
def PreN (D : va_G) (ct : Nat → ClassId) (h0 : Nat) (sz : Nat) (U : State) : Prop := PreC D ct [(h0, .inr (15, fs0W))] sz U ∧ (∃ kX : Class, U.vm.classes[D.1 15]? = some kX ∧ U.heap[h0]? = some (freshCell (D.1 15) kX)) ∧ ZQ (va_A [(h0, .inr (15, fs0W))] sz) U U.heap
theorem blindN {av : List Value} {D : va_G} {ct : Nat → ClassId} {h0 : Nat} {sz : Nat} : FrameBlind (va_Pc av (PreN D ct h0 sz)) := fun a U g mk q => by
  obtain ⟨q0, q1, q2, q3⟩ := q
  exact ⟨q0, (blindC a U g mk ⟨q0, q1⟩).2, q2, ZQ.moved (u := U) (U := U.calling g mk a) (Vm.Alike.refl U.vm) q3⟩
theorem in_r {big : List Cond} (ws : List Cond) (ps : List Nat) (hp : ws = ps.filterMap (fun i => big[i]?)) : ∀ w ∈ ws, w ∈ big := fun w hw => by
  rw [hp] at hw
  obtain ⟨i, -, hi⟩ := List.mem_filterMap.mp hw
  exact List.mem_of_getElem? hi
def lsW (w : Cond) : Bool := match w with
  | .laysStatic .. => true
  | _ => false
theorem thW_in : ∀ w ∈ Bundle.throwableAtoms, w ∈ lw_tbl := in_r _ [306, 2144, 2153, 2156, 2159, 2161, 2145, 2146, 322, 323, 2147, 2152, 2157, 2173, 2134, 2174, 2136, 2175, 2138, 2148, 2149, 2150, 2151, 2140] (by decide +kernel)
theorem chW_in : ∀ w ∈ Bundle.chain0Atoms "java/lang/RuntimeException" ["java/lang/Exception"], w ∈ lw_tbl := in_r _ [2166, 2167, 2168, 2169, 2127, 2169, 2170, 2171, 2145, 2129] (by decide +kernel)
theorem chW_ok : ∀ w ∈ Bundle.chain0Atoms "java/lang/RuntimeException" ["java/lang/Exception"], okW w = true := by decide +kernel
theorem thW_ok : ∀ w ∈ Bundle.throwableAtoms, okW w = true ∨ w = .laysStatic Bundle.tN "UNASSIGNED_STACK" Bundle.steD ∨ w = .laysStatic Bundle.tN "SUPPRESSED_SENTINEL" Bundle.listD := by decide +kernel
theorem xw_0 : Cond.methodLink RX15 1 (Bundle.init0 "java/lang/RuntimeException") ∈ lw_tbl := List.mem_append_right _ (List.mem_of_getElem? (i := 1939) (by decide +kernel))
theorem xw_1 : Cond.instanceMethod (Bundle.init0 "java/lang/RuntimeException") ∈ lw_tbl := List.mem_append_right _ (List.mem_of_getElem? (i := 1878) (by decide +kernel))
theorem xw_2 : Cond.code (Bundle.init0 "java/lang/RuntimeException") Bundle.five 1 none ∈ lw_tbl := List.mem_append_right _ (List.mem_of_getElem? (i := 1879) (by decide +kernel))
theorem xw_3 : Cond.selects RX15 Bundle.tFill0 Bundle.tFill0 ∈ lw_tbl := List.mem_append_right _ (List.mem_of_getElem? (i := 1930) (by decide +kernel))
theorem xw_4 : Cond.selects RX15 Bundle.tFill Bundle.tFill ∈ lw_tbl := List.mem_append_right _ (List.mem_of_getElem? (i := 1867) (by decide +kernel))
theorem xw_5 : Cond.lays RX15 Bundle.tN "cause" "Ljava/lang/Throwable;" ∈ lw_tbl := List.mem_append_right _ (List.mem_of_getElem? (i := 1931) (by decide +kernel))
theorem xw_6 : Cond.lays RX15 Bundle.tN "stackTrace" Bundle.steD ∈ lw_tbl := List.mem_append_right _ (List.mem_of_getElem? (i := 1932) (by decide +kernel))
theorem xw_7 : Cond.lays RX15 Bundle.tN "suppressedExceptions" Bundle.listD ∈ lw_tbl := List.mem_append_right _ (List.mem_of_getElem? (i := 1933) (by decide +kernel))
theorem xw_8 : Cond.lays RX15 Bundle.tN "backtrace" "Ljava/lang/Object;" ∈ lw_tbl := List.mem_append_right _ (List.mem_of_getElem? (i := 1935) (by decide +kernel))
theorem xw_9 : Cond.fieldLink Bundle.tN 198 Bundle.tN "backtrace" "Ljava/lang/Object;" ∈ lw_tbl := List.mem_append_right _ (List.mem_of_getElem? (i := 1855) (by decide +kernel))
theorem xw_10 : Cond.lays Bundle.tN Bundle.tN "backtrace" "Ljava/lang/Object;" ∈ lw_tbl := List.mem_append_right _ (List.mem_of_getElem? (i := 1854) (by decide +kernel))
set_option maxHeartbeats 4000000 in
set_option maxRecDepth 100000 in
/-- Wrong(p): the object's last field is p -/
theorem c_X15_init (l : Launch) (hst : l.stackTraces = false) (D : va_G) (ct : Nat → ClassId) (h0 : Nat) (p0 : Int32) : ∀ sz : Nat, Met l yX15_init [Cond.code yX15_init cX15_init 2 none] ({ frames := 6, cells := 0, slots := 0, locals := 120 }) (va_Pc [.ref h0, .int p0] (PreN D ct h0 sz)) (va_Qv (fun fs : List Value => fs.length = 7 ∧ fs[6]? = some (.int p0)) (PoC D (va_A [(h0, .inr (15, fs0W))] sz) (fun fs : List Value => [(h0, .inr (15, fs))])) (va_A [(h0, .inr (15, fs0W))] sz)) 0 0 (va_A [(h0, .inr (15, fs0W))] sz) := by
  intro sz
  refine Met.ofW (cc := cX15_init) (maxL := 2) (ret := none) (by decide) rfl ?_
  intro p e s m args below meth c s₁ B hml hv
  obtain ⟨rfl, ⟨hsz, hP, hK, hD0, hn⟩, ⟨kX, hkX, hfr⟩, hZ⟩ := hv
  have hown : s.vm.findClass RX15 = some m.cls := findClass_of_methodNamed B.named
  have hin : meth.name = "<init>" := (name_of_methodNamed B.named B.method).1
  subst hsz
  have hD := hD0.self (sz := s.heap.size)
  have hx := B.exec
  have hb := B.bytes
  have hr := B.returns
  have hlocks := B.notSynchronized
  generalize hAe : va_A [(h0, .inr (15, fs0W))] s.heap.size = A at hD hZ ⊢
  have hl := lv_entry ([.ref h0, .int p0]) (n := 2) (Nat.le_of_ble_eq_true rfl)
  rw [lg_entry_eq]
  generalize (lg_sl ([.ref h0, .int p0]) ++ List.replicate (2 - (lg_sl ([.ref h0, .int p0])).length) Slot.unset).toArray = ls at hl ⊢
  have hl : lv_has ls 2 [(0, .ref h0), (1, .int p0)] := hl
  refine lv_aload_n hx hb dX15_init_0 rfl (lv_at hl 0 rfl) ?_
  intro T hT X
  have htr : e.platform.stackTraces = false := (show e.platform.stackTraces = l.stackTraces by rw [X.admits.platform]).trans hst
  have hKw := (hK.1 15 (RX15, TX15, 7) rfl)
  obtain ⟨c1, kX', hc1, hk1, hord, -, -, -⟩ := Cond.instantiable_spec (hn.get (args := #[]) mw_1928 rfl)
  cases Option.some.inj (hc1.symm.trans hKw.2.1)
  cases Option.some.inj (hk1.symm.trans hkX)
  obtain ⟨V, ce, L, X2, hLb, hV, e1, e2, e3, st⟩ := xw_ctor0 X hx htr (own := RX15) (cls := "java/lang/RuntimeException") (XO := RX15) (names := ["java/lang/Exception"]) (ic := 1) (a := h0) hown (by decide +kernel) (by decide +kernel)
    (fun a ha => by
      rcases thW_ok a ha with h | h | h
      · exact hn.get (thW_in a ha) h
      · rw [h]; exact hZ.1.2.word
      · rw [h]; exact hZ.2.2.word)
    (fun a ha => hn.get (chW_in a ha) (chW_ok a ha))
    (hn.get xw_0 rfl) (hn.get xw_1 rfl) (hn.get xw_2 rfl) (hn.get xw_3 rfl) (hn.get xw_4 rfl) (hn.get xw_5 rfl) (hn.get xw_6 rfl) (hn.get xw_7 rfl) (hn.get xw_8 rfl)
    (vx_isRefq hZ.1.1) (vx_isRefq hZ.2.1) (hn.get xw_9 rfl) (hn.get xw_10 rfl) (fun x hx9 => nomatch hx9) hKw.2.1 hkX hord (by rw [hT]; exact hfr)
    (g := F0 m (0 + 1) ls [.ref h0]) rfl (by rw [hml]; exact hl.1) (rest := []) rfl (by rw [hb]; exact dX15_init_1) (Nat.le_of_ble_eq_true rfl) (Nat.le_of_ble_eq_true rfl)
  have hlt : h0 < s.heap.size := (Array.getElem?_eq_some_iff.mp hfr).1
  have hVs : V.heap = s.heap := by rw [hV, hT]
  have g1 : (V.setCell h0 ce).heap[h0]? = some ce := by
    show (V.heap.setIfInBounds h0 ce)[h0]? = some ce
    rw [hVs]; simp [hlt]
  have g2 : ∀ q : Nat, q ≠ h0 → (V.setCell h0 ce).heap[q]? = s.heap[q]? := fun q hq => by
    show (V.heap.setIfInBounds h0 ce)[q]? = s.heap[q]?
    rw [hVs, Array.getElem?_setIfInBounds_ne (fun h => hq h.symm)]
  have g3 : (V.setCell h0 ce).heap.size = s.heap.size := by
    show (V.heap.setIfInBounds h0 ce).size = s.heap.size
    rw [hVs]; simp
  generalize hH1 : (V.setCell h0 ce).heap = H1 at g1 g2 g3
  obtain ⟨vf, hvf⟩ : ∃ vf : Nat → Value, ∀ k, k < 7 → ce.slots[D.2 15 k]? = some (vf k) := by
    refine ⟨fun k => ce.slots.getD (D.2 15 k) .null, fun k hk => ?_⟩
    obtain ⟨r, hr9, cell, f1, f2, f3, f4⟩ := hP 0 _ rfl
    cases hr9
    have f5 := f4 k hk
    cases Option.some.inj (f1.symm.trans hfr)
    have f6 : D.2 15 k < ce.slots.size := by rw [e3]; exact (Array.getElem?_eq_some_iff.mp f5).1
    simp [Array.getD, f6]
  have hP1 : va_P D vwCl [(h0, .inr (15, [vf 0, vf 1, vf 2, vf 3, vf 4, vf 5, vf 6]))] H1 := fun k q hq => by
    match k, hq with
    | 0, hq =>
      cases hq
      refine ⟨_, rfl, ce, g1, e1, e2, fun k hk => ?_⟩
      match k, hk with
      | 0, _ => exact hvf 0 (by decide)
      | 1, _ => exact hvf 1 (by decide)
      | 2, _ => exact hvf 2 (by decide)
      | 3, _ => exact hvf 3 (by decide)
      | 4, _ => exact hvf 4 (by decide)
      | 5, _ => exact hvf 5 (by decide)
      | 6, _ => exact hvf 6 (by decide)
    | k + 1, hq => simp at hq
  have hAh : A h0 := by rw [← hAe]; exact Or.inl ⟨0, _, rfl⟩
  have hD1 : va_D A [(h0, .inr (15, [vf 0, vf 1, vf 2, vf 3, vf 4, vf 5, vf 6]))] := ⟨fun i j p q hi hj _ => by
    have a1 := (List.getElem?_eq_some_iff.mp hi).1
    have a2 := (List.getElem?_eq_some_iff.mp hj).1
    simp at a1 a2
    omega, fun k q hq => by
    match k, hq with
    | 0, hq => cases hq; exact hAh
    | k + 1, hq => simp at hq⟩
  have hS1 : va_S A s.heap H1 ([] ++ L) := ⟨by rw [g3]; exact Nat.le_refl _, fun q hq hnA => g2 q (fun h => hnA (by rw [h]; exact hAh)), fun z hz => by rw [hLb z (by simpa using hz)]; exact hAh⟩
  have K : W p l e ({ frames := 6, cells := 0, slots := 0, locals := 120 }) s m #[.ref h0, .int p0] below meth c H1 ([] ++ L) 0 0 (MQ below (va_Qv (fun fs : List Value => fs.length = 7 ∧ fs[6]? = some (.int p0)) (PoC D A (fun fs : List Value => [(h0, .inr (15, fs))])) A) #[.ref h0, .int p0] s 0 0 A) (F0 m 4 ls []) := by
    have hP := hP1
    have hD := hD1
    have hS := hS1
    refine lv_aload_n hx hb dX15_init_4 rfl (lv_at hl 0 rfl) ?_
    refine lv_iload_n hx hb dX15_init_5 rfl (lv_at hl 1 rfl) ?_
    refine va_putF (D := D) (ci := 15) (v := .int p0) (ty := .int) (C := RX15) (T := TX15) (N := 7) hx hb (htX15 hn) (fun _ h => h) tyX15 tyX15_ok nmX15 hown hK hP hD hS 0 rfl rfl 6 (by decide) (hn.get mw_1940 rfl) (fun _ h9 => h9) rfl hin rfl (by decide +kernel) rfl rfl (Nat.le_of_ble_eq_true rfl) dX15_init_6 (fun H locs hP hD hS => ?_)
    have hP : va_P D vwCl [(h0, .inr (15, [vf 0, vf 1, vf 2, vf 3, vf 4, vf 5, .int p0]))] _ := hP
    have hD : va_D A [(h0, .inr (15, [vf 0, vf 1, vf 2, vf 3, vf 4, vf 5, .int p0]))] := hD
    exact end_v hx hb hr hlocks dX15_init_9 [vf 0, vf 1, vf 2, vf 3, vf 4, vf 5, .int p0] ⟨rfl, rfl⟩ hP hD hS [0] rfl (by decide) rfl (Nat.le_refl _) (Nat.le_refl _)
  obtain ⟨t, a1, b1⟩ := K (V.setCell h0 ce) hH1 X2
  exact ⟨t, st t a1, b1⟩
section NEWW
variable {p : Program} {l : Launch} {e : Env} {R : Room} {s : State} {m : MethodId} {args : Array Value} {below : List Frame} {meth : Method} {c : Code} {H H0 : Heap} {locs : List Loc} {cells slots : Nat} {Q : State → Prop} {A : Nat → Prop}
variable {D : va_G} {ct : Nat → ClassId} {ws : va_W} {own : String} {index k1 n1 pc : Nat} {cc : ByteArray} {rest : List Value} {ls : Array Slot}
theorem nw_W (hexec : p.tables.exec = Jvm.exec) (hb : c.code = cc) (hn : nwOK s) (hown : s.vm.findClass own = some m.cls) (hcl : Cond.classLink own index RX15 ∈ lw_tbl) (hinst : Cond.instantiable RX15 7 ∈ lw_tbl) (hini : Cond.initialized RX15 ∈ lw_tbl)
    (hK : va_K D vwCl (TY ct) s) (hP : va_P D vwCl ws H) (hD : va_D A ws) (hS : va_S A H0 H locs) (hA : ∀ q, H0.size ≤ q → A q) (h1 : cells + 1 ≤ k1) (h2 : slots + 7 ≤ n1) (hcells : k1 ≤ R.cells) (hslots : n1 ≤ R.slots) (hdg : decode cc pc = .ok (.new index, 3))
    (kk : ∀ (q : Nat) (H1 : Heap), (∃ kX : Class, s.vm.classes[D.1 15]? = some kX ∧ H1[q]? = some (freshCell (D.1 15) kX)) → va_P D vwCl (ws ++ [(q, .inr (15, fs0W))]) H1 → va_D A (ws ++ [(q, .inr (15, fs0W))]) → va_S A H0 H1 locs →
      W p l e R s m args below meth c H1 locs k1 n1 Q (F0 m (pc + 3) ls (.ref q :: rest))) : W p l e R s m args below meth c H locs cells slots Q (F0 m pc ls rest) := by
  have hKn := hK.1 15 (RX15, TX15, 7) rfl
  refine W.newcK hexec hb hown (hn.get hcl rfl) (hn.get hinst rfl) (hn.get hini rfl) rfl hdg (Nat.le_trans h1 hcells) (Nat.le_trans h2 hslots) hKn.2.1 rfl fun H1 kC hkC e1 z1 o1 => ?_
  have hk : ∀ (k : Nat) (x : Nat × va_E), ws[k]? = some x → H1[x.1]? = H[x.1]? := fun k x hx => o1 x.1 ((hP k x hx).lt)
  refine W.widen h1 h2 (kk H.size H1 ⟨kC, hkC, e1⟩ ((hP.kept hk).app (fun k x hx => ?_)) (hD.push hP rfl (hA _ hS.1)) ⟨Nat.le_trans hS.1 (by omega), fun x h1 h2 => (o1 x (Nat.lt_of_lt_of_le h1 hS.1)).trans (hS.2.1 x h1 h2), hS.2.2⟩)
  have hz : k < 1 := (List.getElem?_eq_some_iff.mp hx).1
  rw [show k = 0 by omega] at hx
  cases hx
  exact ⟨_, rfl, (u_born tyX15 (htX15 hn (args := args)) (fun _ h => h) hKn hkC e1 tyX15_ok).to dfX15⟩
theorem preN_of {av : List Value} {q : Nat} (hPc : va_P D vwCl [(q, .inr (15, fs0W))] H) (hK : va_K D vwCl (TY ct) s) {A' : Nat → Prop} (hDc : va_D A' [(q, .inr (15, fs0W))]) (hn : nwOK s) (hZ : ZQ A s s.heap) (hS : va_S A s.heap H locs) (hF : ∀ x, va_A [(q, .inr (15, fs0W))] H.size x → A x) (hfr : ∃ kX : Class, s.vm.classes[D.1 15]? = some kX ∧ H[q]? = some (freshCell (D.1 15) kX)) :
    ∀ U : State, U.heap = H → s.WarmedH U.vm → va_Pc av (PreN D ct q H.size) av.toArray U := fun U hU hW => by
  refine ⟨rfl, (preC_of (av := av) hPc hK hDc hn U hU hW).2, ?_, by rw [hU]; exact ((hZ.kept hS.2.1).narrow hF).moved hW.alike⟩
  obtain ⟨kX, h1, h2⟩ := hfr
  obtain ⟨k', hk', he⟩ := hW.alike.2.2 _ _ h1
  refine ⟨k', hk', ?_⟩
  rw [hU, h2, he]
end NEWW

section LDCW
variable {p : Program} {l : Launch} {e : Env} {R : Room} {s : State} {m : MethodId} {args : Array Value} {below : List Frame} {meth : Method} {c : Code} {H : Heap} {locs : List Loc} {cells slots : Nat} {Q : State → Prop}
theorem va_ldcwS {cc : ByteArray} {pc : Nat} {ls : Array Slot} {rest : List Value} (hexec : p.tables.exec = Jvm.exec) (hb : c.code = cc) {own tx : String} {index q : Nat} (hown : s.vm.findClass own = some m.cls) (hZ : vk_R own index tx q s) (hdg : decode cc pc = .ok (.ldc_w index, 3))
    (k : W p l e R s m args below meth c H locs cells slots Q (F0 m (pc + 3) ls (.ref q :: rest))) : W p l e R s m args below meth c H locs cells slots Q (F0 m pc ls rest) := by
  intro T hT X
  obtain ⟨t, a1, b1⟩ := k T hT X
  exact ⟨t, X.ldcStringW hexec hown (text := tx) (a := q) hZ.1 hZ.2 (g := F0 m pc ls rest) rfl (by rw [hb]; exact hdg) t a1, b1⟩
end LDCW
theorem KIW_of {S : Type} {l : Launch} {y : MethodName} {b : ByteArray} {nL : Nat} {ret : Option FieldType} {hh : List (Nat × Nat × Nat × Nat)} {fr lo mc ms : Nat} {D : va_G} {ct : Nat → ClassId} {av : List Value} {wc : va_W} {post : Int32 → S → Prop} {w1 : S → va_W} (hy : plainName y.cls = true) (hlen : (lg_sl av).length ≤ nL)
    (body : ∀ (p : Program) (e : Env) (s : State) (m : MethodId) (below : List Frame) (meth : Method) (c : Code) (A : Nat → Prop), CxB p s m meth c y b nL ret D ct → c.exceptionTable.toList = tableOf hh → ZQ A s s.heap → (∀ q, s.heap.size ≤ q → A q) → va_S A s.heap s.heap [] → va_P D vwCl wc s.heap → va_D A wc → ∀ ls : Array Slot, lv_has ls nL (lv_args 0 av) →
      W p l e ({ frames := fr, cells := mc, slots := ms, locals := lo }) s m av.toArray below meth c s.heap [] 0 0 (MQ below (va_Qi post (PoC D A w1) A) av.toArray s mc ms A) (F0 m 0 ls [])) :
    ∀ sz : Nat, Met l y [Cond.codeWith y b nL ret hh] ({ frames := fr, cells := mc, slots := ms, locals := lo }) (va_Pc av (PreZ D ct wc sz)) (va_Qi post (PoC D (va_A wc sz) w1) (va_A wc sz)) mc ms (va_A wc sz) := by
  intro sz
  refine va_MetW (cc := b) (maxL := nL) (ret := ret) (hh := hh) hy rfl ?_
  intro p e s m args below meth c s₁ B hml hv
  obtain ⟨rfl, ⟨hsz, hP, hK, hD0, hn⟩, hZ⟩ := hv
  have hown : s.vm.findClass y.cls = some m.cls := findClass_of_methodNamed B.named
  have hin : meth.name = y.name := (name_of_methodNamed B.named B.method).1
  have htab := vx_table (x := y) (hh := hh) B (atoms_spec (ws := [Cond.codeWith y b nL ret hh]) B.pre _ List.mem_cons_self)
  subst hsz
  have hD := hD0.self (sz := s.heap.size)
  have hl := lv_entry av (n := nL) hlen
  rw [lg_entry_eq]
  exact body p e s m below meth c (va_A wc s.heap.size) ⟨B.exec, B.bytes, B.returns, hown, hin, hml, B.notSynchronized, hn, hK⟩ htab hZ (fun q h => Or.inr h) va_S.rf hP hD _ hl
end
section
set_option maxHeartbeats 4000000 in
set_option maxRecDepth 100000 in
theorem c_X16_is_q (l : Launch) (D : va_G) (ct : Nat → ClassId) (mm : Nat) (b0 : Nat) (b2 : Nat) (b3 : Nat) (b12 : Nat) (b14 : Nat) (b16 : Nat) (b17 : Nat) (b20 : Nat) (b21 : Nat) (b22 : Nat) (b24 : Nat) (b26 : Nat) (b28 : Nat) (b30 : Nat) (b31 : Nat) (b33 : Nat) (b34 : Nat) (b39 : Nat) (b40 : Nat) (b41 : Nat) (b42 : Nat) (b43 : Nat) (b44 : Nat) (b45 : Nat) (b55 : Nat) (b56 : Nat) (b57 : Nat) (b58 : Nat) (b59 : Nat) (b61 : Nat) (b62 : Nat) (b63 : Nat) (b64 : Nat) (b65 : Nat) (b66 : Nat) (b67 : Nat) (b69 : Nat) (b72 : Nat) (b74 : Nat) (sx : Nat)  : KI (S := Unit) l yX16_is cX16_is 4 (some .boolean) 1 20 D ct [.ref mm, .ref sx] [(mm, .inr (16, [.ref b0, .int 0, .ref b2, .ref b3, .int 0, .int 0, .int 0, .int 0, .int 0, .int 0, .int 0, .int (-1), .ref b12, .int 0, .ref b14, .int 0, .ref b16, .ref b17, .int 0, .int 0, .ref b20, .ref b21, .ref b22, .int 0, .ref b24, .int 0, .ref b26, .int 0, .ref b28, .int 0, .ref b30, .ref b31, .int 0, .ref b33, .ref b34, .int 0, .int 0, .int 0, .int 0, .ref b39, .ref b40, .ref b41, .ref b42, .ref b43, .ref b44, .ref b45, .int (-1), .long 0, .long 0, .long 0, .long 0, .long 0, .long 0, .long 0, .long 0, .ref b55, .ref b56, .ref b57, .ref b58, .ref b59, .long 0, .ref b61, .ref b62, .ref b63, .ref b64, .ref b65, .ref b66, .ref b67, .int (-1), .ref b69, .int 0, .int 0, .ref b72, .int 0, .ref b74, .long 0, .int 0, .int 0]))] 0 0 (fun r _ => r = 0) (fun (_ : Unit) => [(mm, .inr (16, [.ref b0, .int 0, .ref b2, .ref b3, .int 0, .int 0, .int 0, .int 0, .int 0, .int 0, .int 0, .int (-1), .ref b12, .int 0, .ref b14, .int 0, .ref b16, .ref b17, .int 0, .int 0, .ref b20, .ref b21, .ref b22, .int 0, .ref b24, .int 0, .ref b26, .int 0, .ref b28, .int 0, .ref b30, .ref b31, .int 0, .ref b33, .ref b34, .int 0, .int 0, .int 0, .int 0, .ref b39, .ref b40, .ref b41, .ref b42, .ref b43, .ref b44, .ref b45, .int (-1), .long 0, .long 0, .long 0, .long 0, .long 0, .long 0, .long 0, .long 0, .ref b55, .ref b56, .ref b57, .ref b58, .ref b59, .long 0, .ref b61, .ref b62, .ref b63, .ref b64, .ref b65, .ref b66, .ref b67, .int (-1), .ref b69, .int 0, .int 0, .ref b72, .int 0, .ref b74, .long 0, .int 0, .int 0]))]) := by
  refine KI_of (by decide) (Nat.le_of_ble_eq_true rfl) (fun p e s m below meth c A C0 hA hS hP hD ls hl => ?_)
  obtain ⟨hx, hb, hr, hown, hin, hml, hlocks, hn, hK⟩ := C0
  have hl : lv_has ls 4 [(0, .ref mm), (1, .ref sx)] := hl
  refine lv_aload_n hx hb dX16_is_0 rfl (lv_at hl 0 rfl) ?_
  refine va_get (D := D) (ci := 16) (v := .int 0) (C := RX16) (T := TX16) (N := 78) hx hb (htX16 hn) (fun _ h => h) hown hK hP 0 rfl rfl 5 (by decide) (hn.get mw_1544 rfl) (fun _ h9 => h9) rfl dX16_is_1 ?_
  refine lv_if_eq (tgt := 27) hx hb dX16_is_4 (by decide) (fun c_1 => ?_) (fun c_1 => absurd (by decide) c_1)
  refine lv_iconst (v := 0) hx hb dX16_is_27 (by decide) ?_
  refine lv_istore_n (lv' := [(2, .int 0), (0, .ref mm), (1, .ref sx)]) hx hb dX16_is_28 rfl hl (by decide) rfl (fun ls hl => ?_)
  refine lv_iconst (v := 0) hx hb dX16_is_29 (by decide) ?_
  refine lv_istore_n (lv' := [(3, .int 0), (2, .int 0), (0, .ref mm), (1, .ref sx)]) hx hb dX16_is_30 rfl hl (by decide) rfl (fun ls hl => ?_)
  refine lv_iload_n hx hb dX16_is_31 rfl (lv_at hl 1 rfl) ?_
  refine lv_if_eq (tgt := 74) hx hb dX16_is_32 (by decide) (fun c_2 => ?_) (fun c_2 => absurd (by decide) c_2)
  refine lv_iload_n hx hb dX16_is_74 rfl (lv_at hl 1 rfl) ?_
  exact end_i hx hb hr hlocks dX16_is_75 (by decide) () rfl hP hD hS [0] rfl (by decide) rfl (Nat.le_of_ble_eq_true rfl) (Nat.le_of_ble_eq_true rfl)
set_option maxHeartbeats 4000000 in
set_option maxRecDepth 100000 in
theorem c_X16_accessOf_q (l : Launch) (D : va_G) (ct : Nat → ClassId) (mm : Nat) (b0 : Nat) (b2 : Nat) (b3 : Nat) (b12 : Nat) (b14 : Nat) (b16 : Nat) (b17 : Nat) (b20 : Nat) (b21 : Nat) (b22 : Nat) (b24 : Nat) (b26 : Nat) (b28 : Nat) (b30 : Nat) (b31 : Nat) (b33 : Nat) (b34 : Nat) (b39 : Nat) (b40 : Nat) (b41 : Nat) (b42 : Nat) (b43 : Nat) (b44 : Nat) (b45 : Nat) (b55 : Nat) (b56 : Nat) (b57 : Nat) (b58 : Nat) (b59 : Nat) (b61 : Nat) (b62 : Nat) (b63 : Nat) (b64 : Nat) (b65 : Nat) (b66 : Nat) (b67 : Nat) (b69 : Nat) (b72 : Nat) (b74 : Nat)  : KI (S := Unit) l yX16_accessOf cX16_accessOf 1 (some .int) 2 43 D ct [.ref mm] [(mm, .inr (16, [.ref b0, .int 0, .ref b2, .ref b3, .int 0, .int 0, .int 0, .int 0, .int 0, .int 0, .int 0, .int (-1), .ref b12, .int 0, .ref b14, .int 0, .ref b16, .ref b17, .int 0, .int 0, .ref b20, .ref b21, .ref b22, .int 0, .ref b24, .int 0, .ref b26, .int 0, .ref b28, .int 0, .ref b30, .ref b31, .int 0, .ref b33, .ref b34, .int 0, .int 0, .int 0, .int 0, .ref b39, .ref b40, .ref b41, .ref b42, .ref b43, .ref b44, .ref b45, .int (-1), .long 0, .long 0, .long 0, .long 0, .long 0, .long 0, .long 0, .long 0, .ref b55, .ref b56, .ref b57, .ref b58, .ref b59, .long 0, .ref b61, .ref b62, .ref b63, .ref b64, .ref b65, .ref b66, .ref b67, .int (-1), .ref b69, .int 0, .int 0, .ref b72, .int 0, .ref b74, .long 0, .int 0, .int 0]))] 0 0 (fun r _ => r = -1) (fun (_ : Unit) => [(mm, .inr (16, [.ref b0, .int 0, .ref b2, .ref b3, .int 0, .int 0, .int 0, .int 0, .int 0, .int 0, .int 0, .int (-1), .ref b12, .int 0, .ref b14, .int 0, .ref b16, .ref b17, .int 0, .int 0, .ref b20, .ref b21, .ref b22, .int 0, .ref b24, .int 0, .ref b26, .int 0, .ref b28, .int 0, .ref b30, .ref b31, .int 0, .ref b33, .ref b34, .int 0, .int 0, .int 0, .int 0, .ref b39, .ref b40, .ref b41, .ref b42, .ref b43, .ref b44, .ref b45, .int (-1), .long 0, .long 0, .long 0, .long 0, .long 0, .long 0, .long 0, .long 0, .ref b55, .ref b56, .ref b57, .ref b58, .ref b59, .long 0, .ref b61, .ref b62, .ref b63, .ref b64, .ref b65, .ref b66, .ref b67, .int (-1), .ref b69, .int 0, .int 0, .ref b72, .int 0, .ref b74, .long 0, .int 0, .int 0]))]) := by
  refine KI_of (by decide) (Nat.le_of_ble_eq_true rfl) (fun p e s m below meth c A C0 hA hS hP hD ls hl => ?_)
  obtain ⟨hx, hb, hr, hown, hin, hml, hlocks, hn, hK⟩ := C0
  have hl : lv_has ls 1 [(0, .ref mm)] := hl
  refine lv_aload_n hx hb dX16_accessOf_0 rfl (lv_at hl 0 rfl) ?_
  obtain ⟨sq_1, hsq_1⟩ := hn.2.1 _ _ _ mw_x2012
  refine va_ldcwS hx hb hown hsq_1 dX16_accessOf_1 ?_
  have hPc := hP.sub (ws' := [(mm, .inr (16, [.ref b0, .int 0, .ref b2, .ref b3, .int 0, .int 0, .int 0, .int 0, .int 0, .int 0, .int 0, .int (-1), .ref b12, .int 0, .ref b14, .int 0, .ref b16, .ref b17, .int 0, .int 0, .ref b20, .ref b21, .ref b22, .int 0, .ref b24, .int 0, .ref b26, .int 0, .ref b28, .int 0, .ref b30, .ref b31, .int 0, .ref b33, .ref b34, .int 0, .int 0, .int 0, .int 0, .ref b39, .ref b40, .ref b41, .ref b42, .ref b43, .ref b44, .ref b45, .int (-1), .long 0, .long 0, .long 0, .long 0, .long 0, .long 0, .long 0, .long 0, .ref b55, .ref b56, .ref b57, .ref b58, .ref b59, .long 0, .ref b61, .ref b62, .ref b63, .ref b64, .ref b65, .ref b66, .ref b67, .int (-1), .ref b69, .int 0, .int 0, .ref b72, .int 0, .ref b74, .long 0, .int 0, .int 0]))]) [0] rfl
  have hDc := hD.sub (ws' := [(mm, .inr (16, [.ref b0, .int 0, .ref b2, .ref b3, .int 0, .int 0, .int 0, .int 0, .int 0, .int 0, .int 0, .int (-1), .ref b12, .int 0, .ref b14, .int 0, .ref b16, .ref b17, .int 0, .int 0, .ref b20, .ref b21, .ref b22, .int 0, .ref b24, .int 0, .ref b26, .int 0, .ref b28, .int 0, .ref b30, .ref b31, .int 0, .ref b33, .ref b34, .int 0, .int 0, .int 0, .int 0, .ref b39, .ref b40, .ref b41, .ref b42, .ref b43, .ref b44, .ref b45, .int (-1), .long 0, .long 0, .long 0, .long 0, .long 0, .long 0, .long 0, .long 0, .ref b55, .ref b56, .ref b57, .ref b58, .ref b59, .long 0, .ref b61, .ref b62, .ref b63, .ref b64, .ref b65, .ref b66, .ref b67, .int (-1), .ref b69, .int 0, .int 0, .ref b72, .int 0, .ref b74, .long 0, .int 0, .int 0]))]) [0] (by decide) rfl
  refine go_i (k1 := 0) (n1 := 0) (wr := []) [0] [] (rn_V (As := [.ref sq_1]) (rest := []) (c_X16_is_q l D ct mm b0 b2 b3 b12 b14 b16 b17 b20 b21 b22 b24 b26 b28 b30 b31 b33 b34 b39 b40 b41 b42 b43 b44 b45 b55 b56 b57 b58 b59 b61 b62 b63 b64 b65 b66 b67 b69 b72 b74 sq_1  _) (cb_of (n := 1) hn mw_1962 mw_13 mw_1959 mhX16_is ⟨Nat.le_of_ble_eq_true rfl, Nat.le_of_ble_eq_true rfl⟩) hx hb hml hown hn hK hPc hDc mw_1961 mw_s186 (ci := 16) (q0 := 0) rfl rfl rfl rfl hl.1 (Nat.le_of_ble_eq_true rfl) dX16_accessOf_4 ⟨(Nat.le_of_ble_eq_true rfl), (Nat.le_of_ble_eq_true rfl)⟩) hP hD hS hA rfl rfl (by decide) (by decide) (Nat.le_of_ble_eq_true rfl) (Nat.le_of_ble_eq_true rfl) (fun r_2 u_3 H locs hp_4 hP hD hS => ?_)
  have hr_2 := hp_4
  rw [show r_2 = 0 from hr_2]
  have hP : va_P D vwCl [(mm, .inr (16, [.ref b0, .int 0, .ref b2, .ref b3, .int 0, .int 0, .int 0, .int 0, .int 0, .int 0, .int 0, .int (-1), .ref b12, .int 0, .ref b14, .int 0, .ref b16, .ref b17, .int 0, .int 0, .ref b20, .ref b21, .ref b22, .int 0, .ref b24, .int 0, .ref b26, .int 0, .ref b28, .int 0, .ref b30, .ref b31, .int 0, .ref b33, .ref b34, .int 0, .int 0, .int 0, .int 0, .ref b39, .ref b40, .ref b41, .ref b42, .ref b43, .ref b44, .ref b45, .int (-1), .long 0, .long 0, .long 0, .long 0, .long 0, .long 0, .long 0, .long 0, .ref b55, .ref b56, .ref b57, .ref b58, .ref b59, .long 0, .ref b61, .ref b62, .ref b63, .ref b64, .ref b65, .ref b66, .ref b67, .int (-1), .ref b69, .int 0, .int 0, .ref b72, .int 0, .ref b74, .long 0, .int 0, .int 0]))] _ := hP
  have hD : va_D A [(mm, .inr (16, [.ref b0, .int 0, .ref b2, .ref b3, .int 0, .int 0, .int 0, .int 0, .int 0, .int 0, .int 0, .int (-1), .ref b12, .int 0, .ref b14, .int 0, .ref b16, .ref b17, .int 0, .int 0, .ref b20, .ref b21, .ref b22, .int 0, .ref b24, .int 0, .ref b26, .int 0, .ref b28, .int 0, .ref b30, .ref b31, .int 0, .ref b33, .ref b34, .int 0, .int 0, .int 0, .int 0, .ref b39, .ref b40, .ref b41, .ref b42, .ref b43, .ref b44, .ref b45, .int (-1), .long 0, .long 0, .long 0, .long 0, .long 0, .long 0, .long 0, .long 0, .ref b55, .ref b56, .ref b57, .ref b58, .ref b59, .long 0, .ref b61, .ref b62, .ref b63, .ref b64, .ref b65, .ref b66, .ref b67, .int (-1), .ref b69, .int 0, .int 0, .ref b72, .int 0, .ref b74, .long 0, .int 0, .int 0]))] := hD
  refine lv_if_eq (tgt := 14) hx hb dX16_accessOf_7 (by decide) (fun c_5 => ?_) (fun c_5 => absurd (by decide) c_5)
  refine lv_aload_n hx hb dX16_accessOf_14 rfl (lv_at hl 0 rfl) ?_
  obtain ⟨sq_6, hsq_6⟩ := hn.2.1 _ _ _ mw_x2013
  refine va_ldcwS hx hb hown hsq_6 dX16_accessOf_15 ?_
  have hPc := hP.sub (ws' := [(mm, .inr (16, [.ref b0, .int 0, .ref b2, .ref b3, .int 0, .int 0, .int 0, .int 0, .int 0, .int 0, .int 0, .int (-1), .ref b12, .int 0, .ref b14, .int 0, .ref b16, .ref b17, .int 0, .int 0, .ref b20, .ref b21, .ref b22, .int 0, .ref b24, .int 0, .ref b26, .int 0, .ref b28, .int 0, .ref b30, .ref b31, .int 0, .ref b33, .ref b34, .int 0, .int 0, .int 0, .int 0, .ref b39, .ref b40, .ref b41, .ref b42, .ref b43, .ref b44, .ref b45, .int (-1), .long 0, .long 0, .long 0, .long 0, .long 0, .long 0, .long 0, .long 0, .ref b55, .ref b56, .ref b57, .ref b58, .ref b59, .long 0, .ref b61, .ref b62, .ref b63, .ref b64, .ref b65, .ref b66, .ref b67, .int (-1), .ref b69, .int 0, .int 0, .ref b72, .int 0, .ref b74, .long 0, .int 0, .int 0]))]) [0] rfl
  have hDc := hD.sub (ws' := [(mm, .inr (16, [.ref b0, .int 0, .ref b2, .ref b3, .int 0, .int 0, .int 0, .int 0, .int 0, .int 0, .int 0, .int (-1), .ref b12, .int 0, .ref b14, .int 0, .ref b16, .ref b17, .int 0, .int 0, .ref b20, .ref b21, .ref b22, .int 0, .ref b24, .int 0, .ref b26, .int 0, .ref b28, .int 0, .ref b30, .ref b31, .int 0, .ref b33, .ref b34, .int 0, .int 0, .int 0, .int 0, .ref b39, .ref b40, .ref b41, .ref b42, .ref b43, .ref b44, .ref b45, .int (-1), .long 0, .long 0, .long 0, .long 0, .long 0, .long 0, .long 0, .long 0, .ref b55, .ref b56, .ref b57, .ref b58, .ref b59, .long 0, .ref b61, .ref b62, .ref b63, .ref b64, .ref b65, .ref b66, .ref b67, .int (-1), .ref b69, .int 0, .int 0, .ref b72, .int 0, .ref b74, .long 0, .int 0, .int 0]))]) [0] (by decide) rfl
  refine go_i (k1 := 0) (n1 := 0) (wr := []) [0] [] (rn_V (As := [.ref sq_6]) (rest := []) (c_X16_is_q l D ct mm b0 b2 b3 b12 b14 b16 b17 b20 b21 b22 b24 b26 b28 b30 b31 b33 b34 b39 b40 b41 b42 b43 b44 b45 b55 b56 b57 b58 b59 b61 b62 b63 b64 b65 b66 b67 b69 b72 b74 sq_6  _) (cb_of (n := 1) hn mw_1962 mw_13 mw_1959 mhX16_is ⟨Nat.le_of_ble_eq_true rfl, Nat.le_of_ble_eq_true rfl⟩) hx hb hml hown hn hK hPc hDc mw_1961 mw_s186 (ci := 16) (q0 := 0) rfl rfl rfl rfl hl.1 (Nat.le_of_ble_eq_true rfl) dX16_accessOf_18 ⟨(Nat.le_of_ble_eq_true rfl), (Nat.le_of_ble_eq_true rfl)⟩) hP hD hS hA rfl rfl (by decide) (by decide) (Nat.le_of_ble_eq_true rfl) (Nat.le_of_ble_eq_true rfl) (fun r_7 u_8 H locs hp_9 hP hD hS => ?_)
  have hr_7 := hp_9
  rw [show r_7 = 0 from hr_7]
  have hP : va_P D vwCl [(mm, .inr (16, [.ref b0, .int 0, .ref b2, .ref b3, .int 0, .int 0, .int 0, .int 0, .int 0, .int 0, .int 0, .int (-1), .ref b12, .int 0, .ref b14, .int 0, .ref b16, .ref b17, .int 0, .int 0, .ref b20, .ref b21, .ref b22, .int 0, .ref b24, .int 0, .ref b26, .int 0, .ref b28, .int 0, .ref b30, .ref b31, .int 0, .ref b33, .ref b34, .int 0, .int 0, .int 0, .int 0, .ref b39, .ref b40, .ref b41, .ref b42, .ref b43, .ref b44, .ref b45, .int (-1), .long 0, .long 0, .long 0, .long 0, .long 0, .long 0, .long 0, .long 0, .ref b55, .ref b56, .ref b57, .ref b58, .ref b59, .long 0, .ref b61, .ref b62, .ref b63, .ref b64, .ref b65, .ref b66, .ref b67, .int (-1), .ref b69, .int 0, .int 0, .ref b72, .int 0, .ref b74, .long 0, .int 0, .int 0]))] _ := hP
  have hD : va_D A [(mm, .inr (16, [.ref b0, .int 0, .ref b2, .ref b3, .int 0, .int 0, .int 0, .int 0, .int 0, .int 0, .int 0, .int (-1), .ref b12, .int 0, .ref b14, .int 0, .ref b16, .ref b17, .int 0, .int 0, .ref b20, .ref b21, .ref b22, .int 0, .ref b24, .int 0, .ref b26, .int 0, .ref b28, .int 0, .ref b30, .ref b31, .int 0, .ref b33, .ref b34, .int 0, .int 0, .int 0, .int 0, .ref b39, .ref b40, .ref b41, .ref b42, .ref b43, .ref b44, .ref b45, .int (-1), .long 0, .long 0, .long 0, .long 0, .long 0, .long 0, .long 0, .long 0, .ref b55, .ref b56, .ref b57, .ref b58, .ref b59, .long 0, .ref b61, .ref b62, .ref b63, .ref b64, .ref b65, .ref b66, .ref b67, .int (-1), .ref b69, .int 0, .int 0, .ref b72, .int 0, .ref b74, .long 0, .int 0, .int 0]))] := hD
  refine lv_if_eq (tgt := 28) hx hb dX16_accessOf_21 (by decide) (fun c_10 => ?_) (fun c_10 => absurd (by decide) c_10)
  refine lv_aload_n hx hb dX16_accessOf_28 rfl (lv_at hl 0 rfl) ?_
  obtain ⟨sq_11, hsq_11⟩ := hn.2.1 _ _ _ mw_x2014
  refine va_ldcwS hx hb hown hsq_11 dX16_accessOf_29 ?_
  have hPc := hP.sub (ws' := [(mm, .inr (16, [.ref b0, .int 0, .ref b2, .ref b3, .int 0, .int 0, .int 0, .int 0, .int 0, .int 0, .int 0, .int (-1), .ref b12, .int 0, .ref b14, .int 0, .ref b16, .ref b17, .int 0, .int 0, .ref b20, .ref b21, .ref b22, .int 0, .ref b24, .int 0, .ref b26, .int 0, .ref b28, .int 0, .ref b30, .ref b31, .int 0, .ref b33, .ref b34, .int 0, .int 0, .int 0, .int 0, .ref b39, .ref b40, .ref b41, .ref b42, .ref b43, .ref b44, .ref b45, .int (-1), .long 0, .long 0, .long 0, .long 0, .long 0, .long 0, .long 0, .long 0, .ref b55, .ref b56, .ref b57, .ref b58, .ref b59, .long 0, .ref b61, .ref b62, .ref b63, .ref b64, .ref b65, .ref b66, .ref b67, .int (-1), .ref b69, .int 0, .int 0, .ref b72, .int 0, .ref b74, .long 0, .int 0, .int 0]))]) [0] rfl
  have hDc := hD.sub (ws' := [(mm, .inr (16, [.ref b0, .int 0, .ref b2, .ref b3, .int 0, .int 0, .int 0, .int 0, .int 0, .int 0, .int 0, .int (-1), .ref b12, .int 0, .ref b14, .int 0, .ref b16, .ref b17, .int 0, .int 0, .ref b20, .ref b21, .ref b22, .int 0, .ref b24, .int 0, .ref b26, .int 0, .ref b28, .int 0, .ref b30, .ref b31, .int 0, .ref b33, .ref b34, .int 0, .int 0, .int 0, .int 0, .ref b39, .ref b40, .ref b41, .ref b42, .ref b43, .ref b44, .ref b45, .int (-1), .long 0, .long 0, .long 0, .long 0, .long 0, .long 0, .long 0, .long 0, .ref b55, .ref b56, .ref b57, .ref b58, .ref b59, .long 0, .ref b61, .ref b62, .ref b63, .ref b64, .ref b65, .ref b66, .ref b67, .int (-1), .ref b69, .int 0, .int 0, .ref b72, .int 0, .ref b74, .long 0, .int 0, .int 0]))]) [0] (by decide) rfl
  refine go_i (k1 := 0) (n1 := 0) (wr := []) [0] [] (rn_V (As := [.ref sq_11]) (rest := []) (c_X16_is_q l D ct mm b0 b2 b3 b12 b14 b16 b17 b20 b21 b22 b24 b26 b28 b30 b31 b33 b34 b39 b40 b41 b42 b43 b44 b45 b55 b56 b57 b58 b59 b61 b62 b63 b64 b65 b66 b67 b69 b72 b74 sq_11  _) (cb_of (n := 1) hn mw_1962 mw_13 mw_1959 mhX16_is ⟨Nat.le_of_ble_eq_true rfl, Nat.le_of_ble_eq_true rfl⟩) hx hb hml hown hn hK hPc hDc mw_1961 mw_s186 (ci := 16) (q0 := 0) rfl rfl rfl rfl hl.1 (Nat.le_of_ble_eq_true rfl) dX16_accessOf_32 ⟨(Nat.le_of_ble_eq_true rfl), (Nat.le_of_ble_eq_true rfl)⟩) hP hD hS hA rfl rfl (by decide) (by decide) (Nat.le_of_ble_eq_true rfl) (Nat.le_of_ble_eq_true rfl) (fun r_12 u_13 H locs hp_14 hP hD hS => ?_)
  have hr_12 := hp_14
  rw [show r_12 = 0 from hr_12]
  have hP : va_P D vwCl [(mm, .inr (16, [.ref b0, .int 0, .ref b2, .ref b3, .int 0, .int 0, .int 0, .int 0, .int 0, .int 0, .int 0, .int (-1), .ref b12, .int 0, .ref b14, .int 0, .ref b16, .ref b17, .int 0, .int 0, .ref b20, .ref b21, .ref b22, .int 0, .ref b24, .int 0, .ref b26, .int 0, .ref b28, .int 0, .ref b30, .ref b31, .int 0, .ref b33, .ref b34, .int 0, .int 0, .int 0, .int 0, .ref b39, .ref b40, .ref b41, .ref b42, .ref b43, .ref b44, .ref b45, .int (-1), .long 0, .long 0, .long 0, .long 0, .long 0, .long 0, .long 0, .long 0, .ref b55, .ref b56, .ref b57, .ref b58, .ref b59, .long 0, .ref b61, .ref b62, .ref b63, .ref b64, .ref b65, .ref b66, .ref b67, .int (-1), .ref b69, .int 0, .int 0, .ref b72, .int 0, .ref b74, .long 0, .int 0, .int 0]))] _ := hP
  have hD : va_D A [(mm, .inr (16, [.ref b0, .int 0, .ref b2, .ref b3, .int 0, .int 0, .int 0, .int 0, .int 0, .int 0, .int 0, .int (-1), .ref b12, .int 0, .ref b14, .int 0, .ref b16, .ref b17, .int 0, .int 0, .ref b20, .ref b21, .ref b22, .int 0, .ref b24, .int 0, .ref b26, .int 0, .ref b28, .int 0, .ref b30, .ref b31, .int 0, .ref b33, .ref b34, .int 0, .int 0, .int 0, .int 0, .ref b39, .ref b40, .ref b41, .ref b42, .ref b43, .ref b44, .ref b45, .int (-1), .long 0, .long 0, .long 0, .long 0, .long 0, .long 0, .long 0, .long 0, .ref b55, .ref b56, .ref b57, .ref b58, .ref b59, .long 0, .ref b61, .ref b62, .ref b63, .ref b64, .ref b65, .ref b66, .ref b67, .int (-1), .ref b69, .int 0, .int 0, .ref b72, .int 0, .ref b74, .long 0, .int 0, .int 0]))] := hD
  refine lv_if_eq (tgt := 42) hx hb dX16_accessOf_35 (by decide) (fun c_15 => ?_) (fun c_15 => absurd (by decide) c_15)
  refine lv_aload_n hx hb dX16_accessOf_42 rfl (lv_at hl 0 rfl) ?_
  obtain ⟨sq_16, hsq_16⟩ := hn.2.1 _ _ _ mw_x2015
  refine va_ldcwS hx hb hown hsq_16 dX16_accessOf_43 ?_
  have hPc := hP.sub (ws' := [(mm, .inr (16, [.ref b0, .int 0, .ref b2, .ref b3, .int 0, .int 0, .int 0, .int 0, .int 0, .int 0, .int 0, .int (-1), .ref b12, .int 0, .ref b14, .int 0, .ref b16, .ref b17, .int 0, .int 0, .ref b20, .ref b21, .ref b22, .int 0, .ref b24, .int 0, .ref b26, .int 0, .ref b28, .int 0, .ref b30, .ref b31, .int 0, .ref b33, .ref b34, .int 0, .int 0, .int 0, .int 0, .ref b39, .ref b40, .ref b41, .ref b42, .ref b43, .ref b44, .ref b45, .int (-1), .long 0, .long 0, .long 0, .long 0, .long 0, .long 0, .long 0, .long 0, .ref b55, .ref b56, .ref b57, .ref b58, .ref b59, .long 0, .ref b61, .ref b62, .ref b63, .ref b64, .ref b65, .ref b66, .ref b67, .int (-1), .ref b69, .int 0, .int 0, .ref b72, .int 0, .ref b74, .long 0, .int 0, .int 0]))]) [0] rfl
  have hDc := hD.sub (ws' := [(mm, .inr (16, [.ref b0, .int 0, .ref b2, .ref b3, .int 0, .int 0, .int 0, .int 0, .int 0, .int 0, .int 0, .int (-1), .ref b12, .int 0, .ref b14, .int 0, .ref b16, .ref b17, .int 0, .int 0, .ref b20, .ref b21, .ref b22, .int 0, .ref b24, .int 0, .ref b26, .int 0, .ref b28, .int 0, .ref b30, .ref b31, .int 0, .ref b33, .ref b34, .int 0, .int 0, .int 0, .int 0, .ref b39, .ref b40, .ref b41, .ref b42, .ref b43, .ref b44, .ref b45, .int (-1), .long 0, .long 0, .long 0, .long 0, .long 0, .long 0, .long 0, .long 0, .ref b55, .ref b56, .ref b57, .ref b58, .ref b59, .long 0, .ref b61, .ref b62, .ref b63, .ref b64, .ref b65, .ref b66, .ref b67, .int (-1), .ref b69, .int 0, .int 0, .ref b72, .int 0, .ref b74, .long 0, .int 0, .int 0]))]) [0] (by decide) rfl
  refine go_i (k1 := 0) (n1 := 0) (wr := []) [0] [] (rn_V (As := [.ref sq_16]) (rest := []) (c_X16_is_q l D ct mm b0 b2 b3 b12 b14 b16 b17 b20 b21 b22 b24 b26 b28 b30 b31 b33 b34 b39 b40 b41 b42 b43 b44 b45 b55 b56 b57 b58 b59 b61 b62 b63 b64 b65 b66 b67 b69 b72 b74 sq_16  _) (cb_of (n := 1) hn mw_1962 mw_13 mw_1959 mhX16_is ⟨Nat.le_of_ble_eq_true rfl, Nat.le_of_ble_eq_true rfl⟩) hx hb hml hown hn hK hPc hDc mw_1961 mw_s186 (ci := 16) (q0 := 0) rfl rfl rfl rfl hl.1 (Nat.le_of_ble_eq_true rfl) dX16_accessOf_46 ⟨(Nat.le_of_ble_eq_true rfl), (Nat.le_of_ble_eq_true rfl)⟩) hP hD hS hA rfl rfl (by decide) (by decide) (Nat.le_of_ble_eq_true rfl) (Nat.le_of_ble_eq_true rfl) (fun r_17 u_18 H locs hp_19 hP hD hS => ?_)
  have hr_17 := hp_19
  rw [show r_17 = 0 from hr_17]
  have hP : va_P D vwCl [(mm, .inr (16, [.ref b0, .int 0, .ref b2, .ref b3, .int 0, .int 0, .int 0, .int 0, .int 0, .int 0, .int 0, .int (-1), .ref b12, .int 0, .ref b14, .int 0, .ref b16, .ref b17, .int 0, .int 0, .ref b20, .ref b21, .ref b22, .int 0, .ref b24, .int 0, .ref b26, .int 0, .ref b28, .int 0, .ref b30, .ref b31, .int 0, .ref b33, .ref b34, .int 0, .int 0, .int 0, .int 0, .ref b39, .ref b40, .ref b41, .ref b42, .ref b43, .ref b44, .ref b45, .int (-1), .long 0, .long 0, .long 0, .long 0, .long 0, .long 0, .long 0, .long 0, .ref b55, .ref b56, .ref b57, .ref b58, .ref b59, .long 0, .ref b61, .ref b62, .ref b63, .ref b64, .ref b65, .ref b66, .ref b67, .int (-1), .ref b69, .int 0, .int 0, .ref b72, .int 0, .ref b74, .long 0, .int 0, .int 0]))] _ := hP
  have hD : va_D A [(mm, .inr (16, [.ref b0, .int 0, .ref b2, .ref b3, .int 0, .int 0, .int 0, .int 0, .int 0, .int 0, .int 0, .int (-1), .ref b12, .int 0, .ref b14, .int 0, .ref b16, .ref b17, .int 0, .int 0, .ref b20, .ref b21, .ref b22, .int 0, .ref b24, .int 0, .ref b26, .int 0, .ref b28, .int 0, .ref b30, .ref b31, .int 0, .ref b33, .ref b34, .int 0, .int 0, .int 0, .int 0, .ref b39, .ref b40, .ref b41, .ref b42, .ref b43, .ref b44, .ref b45, .int (-1), .long 0, .long 0, .long 0, .long 0, .long 0, .long 0, .long 0, .long 0, .ref b55, .ref b56, .ref b57, .ref b58, .ref b59, .long 0, .ref b61, .ref b62, .ref b63, .ref b64, .ref b65, .ref b66, .ref b67, .int (-1), .ref b69, .int 0, .int 0, .ref b72, .int 0, .ref b74, .long 0, .int 0, .int 0]))] := hD
  refine lv_if_eq (tgt := 56) hx hb dX16_accessOf_49 (by decide) (fun c_20 => ?_) (fun c_20 => absurd (by decide) c_20)
  refine lv_aload_n hx hb dX16_accessOf_56 rfl (lv_at hl 0 rfl) ?_
  obtain ⟨sq_21, hsq_21⟩ := hn.2.1 _ _ _ mw_x2016
  refine va_ldcwS hx hb hown hsq_21 dX16_accessOf_57 ?_
  have hPc := hP.sub (ws' := [(mm, .inr (16, [.ref b0, .int 0, .ref b2, .ref b3, .int 0, .int 0, .int 0, .int 0, .int 0, .int 0, .int 0, .int (-1), .ref b12, .int 0, .ref b14, .int 0, .ref b16, .ref b17, .int 0, .int 0, .ref b20, .ref b21, .ref b22, .int 0, .ref b24, .int 0, .ref b26, .int 0, .ref b28, .int 0, .ref b30, .ref b31, .int 0, .ref b33, .ref b34, .int 0, .int 0, .int 0, .int 0, .ref b39, .ref b40, .ref b41, .ref b42, .ref b43, .ref b44, .ref b45, .int (-1), .long 0, .long 0, .long 0, .long 0, .long 0, .long 0, .long 0, .long 0, .ref b55, .ref b56, .ref b57, .ref b58, .ref b59, .long 0, .ref b61, .ref b62, .ref b63, .ref b64, .ref b65, .ref b66, .ref b67, .int (-1), .ref b69, .int 0, .int 0, .ref b72, .int 0, .ref b74, .long 0, .int 0, .int 0]))]) [0] rfl
  have hDc := hD.sub (ws' := [(mm, .inr (16, [.ref b0, .int 0, .ref b2, .ref b3, .int 0, .int 0, .int 0, .int 0, .int 0, .int 0, .int 0, .int (-1), .ref b12, .int 0, .ref b14, .int 0, .ref b16, .ref b17, .int 0, .int 0, .ref b20, .ref b21, .ref b22, .int 0, .ref b24, .int 0, .ref b26, .int 0, .ref b28, .int 0, .ref b30, .ref b31, .int 0, .ref b33, .ref b34, .int 0, .int 0, .int 0, .int 0, .ref b39, .ref b40, .ref b41, .ref b42, .ref b43, .ref b44, .ref b45, .int (-1), .long 0, .long 0, .long 0, .long 0, .long 0, .long 0, .long 0, .long 0, .ref b55, .ref b56, .ref b57, .ref b58, .ref b59, .long 0, .ref b61, .ref b62, .ref b63, .ref b64, .ref b65, .ref b66, .ref b67, .int (-1), .ref b69, .int 0, .int 0, .ref b72, .int 0, .ref b74, .long 0, .int 0, .int 0]))]) [0] (by decide) rfl
  refine go_i (k1 := 0) (n1 := 0) (wr := []) [0] [] (rn_V (As := [.ref sq_21]) (rest := []) (c_X16_is_q l D ct mm b0 b2 b3 b12 b14 b16 b17 b20 b21 b22 b24 b26 b28 b30 b31 b33 b34 b39 b40 b41 b42 b43 b44 b45 b55 b56 b57 b58 b59 b61 b62 b63 b64 b65 b66 b67 b69 b72 b74 sq_21  _) (cb_of (n := 1) hn mw_1962 mw_13 mw_1959 mhX16_is ⟨Nat.le_of_ble_eq_true rfl, Nat.le_of_ble_eq_true rfl⟩) hx hb hml hown hn hK hPc hDc mw_1961 mw_s186 (ci := 16) (q0 := 0) rfl rfl rfl rfl hl.1 (Nat.le_of_ble_eq_true rfl) dX16_accessOf_60 ⟨(Nat.le_of_ble_eq_true rfl), (Nat.le_of_ble_eq_true rfl)⟩) hP hD hS hA rfl rfl (by decide) (by decide) (Nat.le_of_ble_eq_true rfl) (Nat.le_of_ble_eq_true rfl) (fun r_22 u_23 H locs hp_24 hP hD hS => ?_)
  have hr_22 := hp_24
  rw [show r_22 = 0 from hr_22]
  have hP : va_P D vwCl [(mm, .inr (16, [.ref b0, .int 0, .ref b2, .ref b3, .int 0, .int 0, .int 0, .int 0, .int 0, .int 0, .int 0, .int (-1), .ref b12, .int 0, .ref b14, .int 0, .ref b16, .ref b17, .int 0, .int 0, .ref b20, .ref b21, .ref b22, .int 0, .ref b24, .int 0, .ref b26, .int 0, .ref b28, .int 0, .ref b30, .ref b31, .int 0, .ref b33, .ref b34, .int 0, .int 0, .int 0, .int 0, .ref b39, .ref b40, .ref b41, .ref b42, .ref b43, .ref b44, .ref b45, .int (-1), .long 0, .long 0, .long 0, .long 0, .long 0, .long 0, .long 0, .long 0, .ref b55, .ref b56, .ref b57, .ref b58, .ref b59, .long 0, .ref b61, .ref b62, .ref b63, .ref b64, .ref b65, .ref b66, .ref b67, .int (-1), .ref b69, .int 0, .int 0, .ref b72, .int 0, .ref b74, .long 0, .int 0, .int 0]))] _ := hP
  have hD : va_D A [(mm, .inr (16, [.ref b0, .int 0, .ref b2, .ref b3, .int 0, .int 0, .int 0, .int 0, .int 0, .int 0, .int 0, .int (-1), .ref b12, .int 0, .ref b14, .int 0, .ref b16, .ref b17, .int 0, .int 0, .ref b20, .ref b21, .ref b22, .int 0, .ref b24, .int 0, .ref b26, .int 0, .ref b28, .int 0, .ref b30, .ref b31, .int 0, .ref b33, .ref b34, .int 0, .int 0, .int 0, .int 0, .ref b39, .ref b40, .ref b41, .ref b42, .ref b43, .ref b44, .ref b45, .int (-1), .long 0, .long 0, .long 0, .long 0, .long 0, .long 0, .long 0, .long 0, .ref b55, .ref b56, .ref b57, .ref b58, .ref b59, .long 0, .ref b61, .ref b62, .ref b63, .ref b64, .ref b65, .ref b66, .ref b67, .int (-1), .ref b69, .int 0, .int 0, .ref b72, .int 0, .ref b74, .long 0, .int 0, .int 0]))] := hD
  refine lv_if_eq (tgt := 70) hx hb dX16_accessOf_63 (by decide) (fun c_25 => ?_) (fun c_25 => absurd (by decide) c_25)
  refine lv_aload_n hx hb dX16_accessOf_70 rfl (lv_at hl 0 rfl) ?_
  obtain ⟨sq_26, hsq_26⟩ := hn.2.1 _ _ _ mw_x2017
  refine va_ldcwS hx hb hown hsq_26 dX16_accessOf_71 ?_
  have hPc := hP.sub (ws' := [(mm, .inr (16, [.ref b0, .int 0, .ref b2, .ref b3, .int 0, .int 0, .int 0, .int 0, .int 0, .int 0, .int 0, .int (-1), .ref b12, .int 0, .ref b14, .int 0, .ref b16, .ref b17, .int 0, .int 0, .ref b20, .ref b21, .ref b22, .int 0, .ref b24, .int 0, .ref b26, .int 0, .ref b28, .int 0, .ref b30, .ref b31, .int 0, .ref b33, .ref b34, .int 0, .int 0, .int 0, .int 0, .ref b39, .ref b40, .ref b41, .ref b42, .ref b43, .ref b44, .ref b45, .int (-1), .long 0, .long 0, .long 0, .long 0, .long 0, .long 0, .long 0, .long 0, .ref b55, .ref b56, .ref b57, .ref b58, .ref b59, .long 0, .ref b61, .ref b62, .ref b63, .ref b64, .ref b65, .ref b66, .ref b67, .int (-1), .ref b69, .int 0, .int 0, .ref b72, .int 0, .ref b74, .long 0, .int 0, .int 0]))]) [0] rfl
  have hDc := hD.sub (ws' := [(mm, .inr (16, [.ref b0, .int 0, .ref b2, .ref b3, .int 0, .int 0, .int 0, .int 0, .int 0, .int 0, .int 0, .int (-1), .ref b12, .int 0, .ref b14, .int 0, .ref b16, .ref b17, .int 0, .int 0, .ref b20, .ref b21, .ref b22, .int 0, .ref b24, .int 0, .ref b26, .int 0, .ref b28, .int 0, .ref b30, .ref b31, .int 0, .ref b33, .ref b34, .int 0, .int 0, .int 0, .int 0, .ref b39, .ref b40, .ref b41, .ref b42, .ref b43, .ref b44, .ref b45, .int (-1), .long 0, .long 0, .long 0, .long 0, .long 0, .long 0, .long 0, .long 0, .ref b55, .ref b56, .ref b57, .ref b58, .ref b59, .long 0, .ref b61, .ref b62, .ref b63, .ref b64, .ref b65, .ref b66, .ref b67, .int (-1), .ref b69, .int 0, .int 0, .ref b72, .int 0, .ref b74, .long 0, .int 0, .int 0]))]) [0] (by decide) rfl
  refine go_i (k1 := 0) (n1 := 0) (wr := []) [0] [] (rn_V (As := [.ref sq_26]) (rest := []) (c_X16_is_q l D ct mm b0 b2 b3 b12 b14 b16 b17 b20 b21 b22 b24 b26 b28 b30 b31 b33 b34 b39 b40 b41 b42 b43 b44 b45 b55 b56 b57 b58 b59 b61 b62 b63 b64 b65 b66 b67 b69 b72 b74 sq_26  _) (cb_of (n := 1) hn mw_1962 mw_13 mw_1959 mhX16_is ⟨Nat.le_of_ble_eq_true rfl, Nat.le_of_ble_eq_true rfl⟩) hx hb hml hown hn hK hPc hDc mw_1961 mw_s186 (ci := 16) (q0 := 0) rfl rfl rfl rfl hl.1 (Nat.le_of_ble_eq_true rfl) dX16_accessOf_74 ⟨(Nat.le_of_ble_eq_true rfl), (Nat.le_of_ble_eq_true rfl)⟩) hP hD hS hA rfl rfl (by decide) (by decide) (Nat.le_of_ble_eq_true rfl) (Nat.le_of_ble_eq_true rfl) (fun r_27 u_28 H locs hp_29 hP hD hS => ?_)
  have hr_27 := hp_29
  rw [show r_27 = 0 from hr_27]
  have hP : va_P D vwCl [(mm, .inr (16, [.ref b0, .int 0, .ref b2, .ref b3, .int 0, .int 0, .int 0, .int 0, .int 0, .int 0, .int 0, .int (-1), .ref b12, .int 0, .ref b14, .int 0, .ref b16, .ref b17, .int 0, .int 0, .ref b20, .ref b21, .ref b22, .int 0, .ref b24, .int 0, .ref b26, .int 0, .ref b28, .int 0, .ref b30, .ref b31, .int 0, .ref b33, .ref b34, .int 0, .int 0, .int 0, .int 0, .ref b39, .ref b40, .ref b41, .ref b42, .ref b43, .ref b44, .ref b45, .int (-1), .long 0, .long 0, .long 0, .long 0, .long 0, .long 0, .long 0, .long 0, .ref b55, .ref b56, .ref b57, .ref b58, .ref b59, .long 0, .ref b61, .ref b62, .ref b63, .ref b64, .ref b65, .ref b66, .ref b67, .int (-1), .ref b69, .int 0, .int 0, .ref b72, .int 0, .ref b74, .long 0, .int 0, .int 0]))] _ := hP
  have hD : va_D A [(mm, .inr (16, [.ref b0, .int 0, .ref b2, .ref b3, .int 0, .int 0, .int 0, .int 0, .int 0, .int 0, .int 0, .int (-1), .ref b12, .int 0, .ref b14, .int 0, .ref b16, .ref b17, .int 0, .int 0, .ref b20, .ref b21, .ref b22, .int 0, .ref b24, .int 0, .ref b26, .int 0, .ref b28, .int 0, .ref b30, .ref b31, .int 0, .ref b33, .ref b34, .int 0, .int 0, .int 0, .int 0, .ref b39, .ref b40, .ref b41, .ref b42, .ref b43, .ref b44, .ref b45, .int (-1), .long 0, .long 0, .long 0, .long 0, .long 0, .long 0, .long 0, .long 0, .ref b55, .ref b56, .ref b57, .ref b58, .ref b59, .long 0, .ref b61, .ref b62, .ref b63, .ref b64, .ref b65, .ref b66, .ref b67, .int (-1), .ref b69, .int 0, .int 0, .ref b72, .int 0, .ref b74, .long 0, .int 0, .int 0]))] := hD
  refine lv_if_eq (tgt := 84) hx hb dX16_accessOf_77 (by decide) (fun c_30 => ?_) (fun c_30 => absurd (by decide) c_30)
  refine lv_aload_n hx hb dX16_accessOf_84 rfl (lv_at hl 0 rfl) ?_
  obtain ⟨sq_31, hsq_31⟩ := hn.2.1 _ _ _ mw_x2018
  refine va_ldcwS hx hb hown hsq_31 dX16_accessOf_85 ?_
  have hPc := hP.sub (ws' := [(mm, .inr (16, [.ref b0, .int 0, .ref b2, .ref b3, .int 0, .int 0, .int 0, .int 0, .int 0, .int 0, .int 0, .int (-1), .ref b12, .int 0, .ref b14, .int 0, .ref b16, .ref b17, .int 0, .int 0, .ref b20, .ref b21, .ref b22, .int 0, .ref b24, .int 0, .ref b26, .int 0, .ref b28, .int 0, .ref b30, .ref b31, .int 0, .ref b33, .ref b34, .int 0, .int 0, .int 0, .int 0, .ref b39, .ref b40, .ref b41, .ref b42, .ref b43, .ref b44, .ref b45, .int (-1), .long 0, .long 0, .long 0, .long 0, .long 0, .long 0, .long 0, .long 0, .ref b55, .ref b56, .ref b57, .ref b58, .ref b59, .long 0, .ref b61, .ref b62, .ref b63, .ref b64, .ref b65, .ref b66, .ref b67, .int (-1), .ref b69, .int 0, .int 0, .ref b72, .int 0, .ref b74, .long 0, .int 0, .int 0]))]) [0] rfl
  have hDc := hD.sub (ws' := [(mm, .inr (16, [.ref b0, .int 0, .ref b2, .ref b3, .int 0, .int 0, .int 0, .int 0, .int 0, .int 0, .int 0, .int (-1), .ref b12, .int 0, .ref b14, .int 0, .ref b16, .ref b17, .int 0, .int 0, .ref b20, .ref b21, .ref b22, .int 0, .ref b24, .int 0, .ref b26, .int 0, .ref b28, .int 0, .ref b30, .ref b31, .int 0, .ref b33, .ref b34, .int 0, .int 0, .int 0, .int 0, .ref b39, .ref b40, .ref b41, .ref b42, .ref b43, .ref b44, .ref b45, .int (-1), .long 0, .long 0, .long 0, .long 0, .long 0, .long 0, .long 0, .long 0, .ref b55, .ref b56, .ref b57, .ref b58, .ref b59, .long 0, .ref b61, .ref b62, .ref b63, .ref b64, .ref b65, .ref b66, .ref b67, .int (-1), .ref b69, .int 0, .int 0, .ref b72, .int 0, .ref b74, .long 0, .int 0, .int 0]))]) [0] (by decide) rfl
  refine go_i (k1 := 0) (n1 := 0) (wr := []) [0] [] (rn_V (As := [.ref sq_31]) (rest := []) (c_X16_is_q l D ct mm b0 b2 b3 b12 b14 b16 b17 b20 b21 b22 b24 b26 b28 b30 b31 b33 b34 b39 b40 b41 b42 b43 b44 b45 b55 b56 b57 b58 b59 b61 b62 b63 b64 b65 b66 b67 b69 b72 b74 sq_31  _) (cb_of (n := 1) hn mw_1962 mw_13 mw_1959 mhX16_is ⟨Nat.le_of_ble_eq_true rfl, Nat.le_of_ble_eq_true rfl⟩) hx hb hml hown hn hK hPc hDc mw_1961 mw_s186 (ci := 16) (q0 := 0) rfl rfl rfl rfl hl.1 (Nat.le_of_ble_eq_true rfl) dX16_accessOf_88 ⟨(Nat.le_of_ble_eq_true rfl), (Nat.le_of_ble_eq_true rfl)⟩) hP hD hS hA rfl rfl (by decide) (by decide) (Nat.le_of_ble_eq_true rfl) (Nat.le_of_ble_eq_true rfl) (fun r_32 u_33 H locs hp_34 hP hD hS => ?_)
  have hr_32 := hp_34
  rw [show r_32 = 0 from hr_32]
  have hP : va_P D vwCl [(mm, .inr (16, [.ref b0, .int 0, .ref b2, .ref b3, .int 0, .int 0, .int 0, .int 0, .int 0, .int 0, .int 0, .int (-1), .ref b12, .int 0, .ref b14, .int 0, .ref b16, .ref b17, .int 0, .int 0, .ref b20, .ref b21, .ref b22, .int 0, .ref b24, .int 0, .ref b26, .int 0, .ref b28, .int 0, .ref b30, .ref b31, .int 0, .ref b33, .ref b34, .int 0, .int 0, .int 0, .int 0, .ref b39, .ref b40, .ref b41, .ref b42, .ref b43, .ref b44, .ref b45, .int (-1), .long 0, .long 0, .long 0, .long 0, .long 0, .long 0, .long 0, .long 0, .ref b55, .ref b56, .ref b57, .ref b58, .ref b59, .long 0, .ref b61, .ref b62, .ref b63, .ref b64, .ref b65, .ref b66, .ref b67, .int (-1), .ref b69, .int 0, .int 0, .ref b72, .int 0, .ref b74, .long 0, .int 0, .int 0]))] _ := hP
  have hD : va_D A [(mm, .inr (16, [.ref b0, .int 0, .ref b2, .ref b3, .int 0, .int 0, .int 0, .int 0, .int 0, .int 0, .int 0, .int (-1), .ref b12, .int 0, .ref b14, .int 0, .ref b16, .ref b17, .int 0, .int 0, .ref b20, .ref b21, .ref b22, .int 0, .ref b24, .int 0, .ref b26, .int 0, .ref b28, .int 0, .ref b30, .ref b31, .int 0, .ref b33, .ref b34, .int 0, .int 0, .int 0, .int 0, .ref b39, .ref b40, .ref b41, .ref b42, .ref b43, .ref b44, .ref b45, .int (-1), .long 0, .long 0, .long 0, .long 0, .long 0, .long 0, .long 0, .long 0, .ref b55, .ref b56, .ref b57, .ref b58, .ref b59, .long 0, .ref b61, .ref b62, .ref b63, .ref b64, .ref b65, .ref b66, .ref b67, .int (-1), .ref b69, .int 0, .int 0, .ref b72, .int 0, .ref b74, .long 0, .int 0, .int 0]))] := hD
  refine lv_if_eq (tgt := 99) hx hb dX16_accessOf_91 (by decide) (fun c_35 => ?_) (fun c_35 => absurd (by decide) c_35)
  refine lv_iconst (v := (-1)) hx hb dX16_accessOf_99 (by decide) ?_
  exact end_i hx hb hr hlocks dX16_accessOf_100 rfl () rfl hP hD hS [0] rfl (by decide) rfl (Nat.le_of_ble_eq_true rfl) (Nat.le_of_ble_eq_true rfl)
set_option maxHeartbeats 4000000 in
set_option maxRecDepth 100000 in
theorem c_X16_number_q (l : Launch) (D : va_G) (ct : Nat → ClassId) (mm : Nat) (b0 : Nat) (b2 : Nat) (b3 : Nat) (b12 : Nat) (b14 : Nat) (b16 : Nat) (b17 : Nat) (b20 : Nat) (b21 : Nat) (b22 : Nat) (b24 : Nat) (b26 : Nat) (b28 : Nat) (b30 : Nat) (b31 : Nat) (b33 : Nat) (b34 : Nat) (b39 : Nat) (b40 : Nat) (b41 : Nat) (b42 : Nat) (b43 : Nat) (b44 : Nat) (b45 : Nat) (b55 : Nat) (b56 : Nat) (b57 : Nat) (b58 : Nat) (b59 : Nat) (b61 : Nat) (b62 : Nat) (b63 : Nat) (b64 : Nat) (b65 : Nat) (b66 : Nat) (b67 : Nat) (b69 : Nat) (b72 : Nat) (b74 : Nat)  : KL (S := Unit) l yX16_number cX16_number 8 (some .long) 1 20 D ct [.ref mm] [(mm, .inr (16, [.ref b0, .int 0, .ref b2, .ref b3, .int 0, .int 0, .int 0, .int 0, .int 0, .int 0, .int 0, .int (-1), .ref b12, .int 0, .ref b14, .int 0, .ref b16, .ref b17, .int 0, .int 0, .ref b20, .ref b21, .ref b22, .int 0, .ref b24, .int 0, .ref b26, .int 0, .ref b28, .int 0, .ref b30, .ref b31, .int 0, .ref b33, .ref b34, .int 0, .int 0, .int 0, .int 0, .ref b39, .ref b40, .ref b41, .ref b42, .ref b43, .ref b44, .ref b45, .int (-1), .long 0, .long 0, .long 0, .long 0, .long 0, .long 0, .long 0, .long 0, .ref b55, .ref b56, .ref b57, .ref b58, .ref b59, .long 0, .ref b61, .ref b62, .ref b63, .ref b64, .ref b65, .ref b66, .ref b67, .int (-1), .ref b69, .int 0, .int 0, .ref b72, .int 0, .ref b74, .long 0, .int 0, .int 0]))] 0 0 (fun r _ => r = -1) (fun (_ : Unit) => [(mm, .inr (16, [.ref b0, .int 0, .ref b2, .ref b3, .int 0, .int 0, .int 0, .int 0, .int 0, .int 0, .int 0, .int (-1), .ref b12, .int 0, .ref b14, .int 0, .ref b16, .ref b17, .int 0, .int 0, .ref b20, .ref b21, .ref b22, .int 0, .ref b24, .int 0, .ref b26, .int 0, .ref b28, .int 0, .ref b30, .ref b31, .int 0, .ref b33, .ref b34, .int 0, .int 0, .int 0, .int 0, .ref b39, .ref b40, .ref b41, .ref b42, .ref b43, .ref b44, .ref b45, .int (-1), .long 0, .long 0, .long 0, .long 0, .long 0, .long 0, .long 0, .long 0, .ref b55, .ref b56, .ref b57, .ref b58, .ref b59, .long 0, .ref b61, .ref b62, .ref b63, .ref b64, .ref b65, .ref b66, .ref b67, .int (-1), .ref b69, .int 0, .int 0, .ref b72, .int 0, .ref b74, .long 0, .int 0, .int 0]))]) := by
  refine KL_of (by decide) (Nat.le_of_ble_eq_true rfl) (fun p e s m below meth c A C0 hA hS hP hD ls hl => ?_)
  obtain ⟨hx, hb, hr, hown, hin, hml, hlocks, hn, hK⟩ := C0
  have hl : lv_has ls 8 [(0, .ref mm)] := hl
  refine lv_aload_n hx hb dX16_number_0 rfl (lv_at hl 0 rfl) ?_
  refine va_get (D := D) (ci := 16) (v := .int 0) (C := RX16) (T := TX16) (N := 78) hx hb (htX16 hn) (fun _ h => h) hown hK hP 0 rfl rfl 5 (by decide) (hn.get mw_1544 rfl) (fun _ h9 => h9) rfl dX16_number_1 ?_
  refine lv_iconst (v := 1) hx hb dX16_number_4 (by decide) ?_
  refine lv_icmp_eq (tgt := 12) hx hb dX16_number_5 (by decide) (fun c_1 => absurd c_1 (by decide)) (fun c_1 => ?_)
  refine lv_ldc2 (v := (-1)) hx hb hown (hn.get mw_1798 rfl) dX16_number_8 ?_
  exact end_l hx hb hr hlocks dX16_number_11 () rfl hP hD hS [0] rfl (by decide) rfl (Nat.le_of_ble_eq_true rfl) (Nat.le_of_ble_eq_true rfl)
set_option maxHeartbeats 4000000 in
set_option maxRecDepth 100000 in
theorem c_X16_next_q (l : Launch) (D : va_G) (ct : Nat → ClassId) (mm : Nat) (b0 : Nat) (b2 : Nat) (b3 : Nat) (b12 : Nat) (b14 : Nat) (b16 : Nat) (b17 : Nat) (b20 : Nat) (b21 : Nat) (b22 : Nat) (b24 : Nat) (b26 : Nat) (b28 : Nat) (b30 : Nat) (b31 : Nat) (b33 : Nat) (b34 : Nat) (b39 : Nat) (b40 : Nat) (b41 : Nat) (b42 : Nat) (b43 : Nat) (b44 : Nat) (b45 : Nat) (b55 : Nat) (b56 : Nat) (b57 : Nat) (b58 : Nat) (b59 : Nat) (b61 : Nat) (b62 : Nat) (b63 : Nat) (b64 : Nat) (b65 : Nat) (b66 : Nat) (b67 : Nat) (b69 : Nat) (b72 : Nat) (b74 : Nat)  : KV (S := Unit) l yX16_next cX16_next 6 none 1 20 D ct [.ref mm] [(mm, .inr (16, [.ref b0, .int 0, .ref b2, .ref b3, .int 0, .int 0, .int 0, .int 0, .int 0, .int 0, .int 0, .int (-1), .ref b12, .int 0, .ref b14, .int 0, .ref b16, .ref b17, .int 0, .int 0, .ref b20, .ref b21, .ref b22, .int 0, .ref b24, .int 0, .ref b26, .int 0, .ref b28, .int 0, .ref b30, .ref b31, .int 0, .ref b33, .ref b34, .int 0, .int 0, .int 0, .int 0, .ref b39, .ref b40, .ref b41, .ref b42, .ref b43, .ref b44, .ref b45, .int (-1), .long 0, .long 0, .long 0, .long 0, .long 0, .long 0, .long 0, .long 0, .ref b55, .ref b56, .ref b57, .ref b58, .ref b59, .long 0, .ref b61, .ref b62, .ref b63, .ref b64, .ref b65, .ref b66, .ref b67, .int (-1), .ref b69, .int 0, .int 0, .ref b72, .int 0, .ref b74, .long 0, .int 0, .int 0]))] 0 0 (fun _ => True) (fun (_ : Unit) => [(mm, .inr (16, [.ref b0, .int 0, .ref b2, .ref b3, .int 0, .int 0, .int 0, .int 0, .int 0, .int 0, .int 0, .int (-1), .ref b12, .int 0, .ref b14, .int 0, .ref b16, .ref b17, .int 0, .int 0, .ref b20, .ref b21, .ref b22, .int 0, .ref b24, .int 0, .ref b26, .int 0, .ref b28, .int 0, .ref b30, .ref b31, .int 0, .ref b33, .ref b34, .int 0, .int 0, .int 0, .int 0, .ref b39, .ref b40, .ref b41, .ref b42, .ref b43, .ref b44, .ref b45, .int (-1), .long 0, .long 0, .long 0, .long 0, .long 0, .long 0, .long 0, .long 0, .ref b55, .ref b56, .ref b57, .ref b58, .ref b59, .long 0, .ref b61, .ref b62, .ref b63, .ref b64, .ref b65, .ref b66, .ref b67, .int (-1), .ref b69, .int 0, .int 0, .ref b72, .int 0, .ref b74, .long 0, .int 0, .int 0]))]) := by
  refine KV_of (by decide) (Nat.le_of_ble_eq_true rfl) (fun p e s m below meth c A C0 hA hS hP hD ls hl => ?_)
  obtain ⟨hx, hb, hr, hown, hin, hml, hlocks, hn, hK⟩ := C0
  have hl : lv_has ls 6 [(0, .ref mm)] := hl
  refine lv_aload_n hx hb dX16_next_0 rfl (lv_at hl 0 rfl) ?_
  refine va_get (D := D) (ci := 16) (v := .int 0) (C := RX16) (T := TX16) (N := 78) hx hb (htX16 hn) (fun _ h => h) hown hK hP 0 rfl rfl 7 (by decide) (hn.get mw_1546 rfl) (fun _ h9 => h9) rfl dX16_next_1 ?_
  refine lv_istore_n (lv' := [(1, .int 0), (0, .ref mm)]) hx hb dX16_next_4 rfl hl (by decide) rfl (fun ls hl => ?_)
  refine lv_iload_n hx hb dX16_next_5 rfl (lv_at hl 0 rfl) ?_
  refine lv_aload_n hx hb dX16_next_6 rfl (lv_at hl 1 rfl) ?_
  refine va_get (D := D) (ci := 16) (v := .int 0) (C := RX16) (T := TX16) (N := 78) hx hb (htX16 hn) (fun _ h => h) hown hK hP 0 rfl rfl 8 (by decide) (hn.get mw_1547 rfl) (fun _ h9 => h9) rfl dX16_next_7 ?_
  refine lv_icmp_ge (tgt := 41) hx hb dX16_next_10 (by decide) (fun c_1 => ?_) (fun c_1 => absurd (by decide) c_1)
  refine lv_aload_n hx hb dX16_next_41 rfl (lv_at hl 1 rfl) ?_
  refine lv_iload_n hx hb dX16_next_42 rfl (lv_at hl 0 rfl) ?_
  refine va_put (D := D) (ci := 16) (v := .int 0) (ty := .int) (C := RX16) (T := TX16) (N := 78) hx hb (htX16 hn) (fun _ h => h) tyX16 tyX16_ok nmX16 hown hK hP hD hS 0 rfl rfl 6 (by decide) (hn.get mw_1545 rfl) (fun _ h9 => h9) rfl (by decide +kernel) rfl rfl (Nat.le_of_ble_eq_true rfl) dX16_next_43 (fun H locs hP hD hS => ?_)
  have hP : va_P D vwCl [(mm, .inr (16, [.ref b0, .int 0, .ref b2, .ref b3, .int 0, .int 0, .int 0, .int 0, .int 0, .int 0, .int 0, .int (-1), .ref b12, .int 0, .ref b14, .int 0, .ref b16, .ref b17, .int 0, .int 0, .ref b20, .ref b21, .ref b22, .int 0, .ref b24, .int 0, .ref b26, .int 0, .ref b28, .int 0, .ref b30, .ref b31, .int 0, .ref b33, .ref b34, .int 0, .int 0, .int 0, .int 0, .ref b39, .ref b40, .ref b41, .ref b42, .ref b43, .ref b44, .ref b45, .int (-1), .long 0, .long 0, .long 0, .long 0, .long 0, .long 0, .long 0, .long 0, .ref b55, .ref b56, .ref b57, .ref b58, .ref b59, .long 0, .ref b61, .ref b62, .ref b63, .ref b64, .ref b65, .ref b66, .ref b67, .int (-1), .ref b69, .int 0, .int 0, .ref b72, .int 0, .ref b74, .long 0, .int 0, .int 0]))] _ := hP
  have hD : va_D A [(mm, .inr (16, [.ref b0, .int 0, .ref b2, .ref b3, .int 0, .int 0, .int 0, .int 0, .int 0, .int 0, .int 0, .int (-1), .ref b12, .int 0, .ref b14, .int 0, .ref b16, .ref b17, .int 0, .int 0, .ref b20, .ref b21, .ref b22, .int 0, .ref b24, .int 0, .ref b26, .int 0, .ref b28, .int 0, .ref b30, .ref b31, .int 0, .ref b33, .ref b34, .int 0, .int 0, .int 0, .int 0, .ref b39, .ref b40, .ref b41, .ref b42, .ref b43, .ref b44, .ref b45, .int (-1), .long 0, .long 0, .long 0, .long 0, .long 0, .long 0, .long 0, .long 0, .ref b55, .ref b56, .ref b57, .ref b58, .ref b59, .long 0, .ref b61, .ref b62, .ref b63, .ref b64, .ref b65, .ref b66, .ref b67, .int (-1), .ref b69, .int 0, .int 0, .ref b72, .int 0, .ref b74, .long 0, .int 0, .int 0]))] := hD
  refine lv_iload_n hx hb dX16_next_46 rfl (lv_at hl 0 rfl) ?_
  refine lv_aload_n hx hb dX16_next_47 rfl (lv_at hl 1 rfl) ?_
  refine va_get (D := D) (ci := 16) (v := .int 0) (C := RX16) (T := TX16) (N := 78) hx hb (htX16 hn) (fun _ h => h) hown hK hP 0 rfl rfl 8 (by decide) (hn.get mw_1547 rfl) (fun _ h9 => h9) rfl dX16_next_48 ?_
  refine lv_icmp_ne (tgt := 60) hx hb dX16_next_51 (by decide) (fun c_2 => absurd (by decide) c_2) (fun c_2 => ?_)
  refine lv_aload_n hx hb dX16_next_54 rfl (lv_at hl 1 rfl) ?_
  refine lv_iconst (v := 0) hx hb dX16_next_55 (by decide) ?_
  refine va_put (D := D) (ci := 16) (v := .int 0) (ty := .int) (C := RX16) (T := TX16) (N := 78) hx hb (htX16 hn) (fun _ h => h) tyX16 tyX16_ok nmX16 hown hK hP hD hS 0 rfl rfl 5 (by decide) (hn.get mw_1544 rfl) (fun _ h9 => h9) rfl (by decide +kernel) rfl rfl (Nat.le_of_ble_eq_true rfl) dX16_next_56 (fun H locs hP hD hS => ?_)
  have hP : va_P D vwCl [(mm, .inr (16, [.ref b0, .int 0, .ref b2, .ref b3, .int 0, .int 0, .int 0, .int 0, .int 0, .int 0, .int 0, .int (-1), .ref b12, .int 0, .ref b14, .int 0, .ref b16, .ref b17, .int 0, .int 0, .ref b20, .ref b21, .ref b22, .int 0, .ref b24, .int 0, .ref b26, .int 0, .ref b28, .int 0, .ref b30, .ref b31, .int 0, .ref b33, .ref b34, .int 0, .int 0, .int 0, .int 0, .ref b39, .ref b40, .ref b41, .ref b42, .ref b43, .ref b44, .ref b45, .int (-1), .long 0, .long 0, .long 0, .long 0, .long 0, .long 0, .long 0, .long 0, .ref b55, .ref b56, .ref b57, .ref b58, .ref b59, .long 0, .ref b61, .ref b62, .ref b63, .ref b64, .ref b65, .ref b66, .ref b67, .int (-1), .ref b69, .int 0, .int 0, .ref b72, .int 0, .ref b74, .long 0, .int 0, .int 0]))] _ := hP
  have hD : va_D A [(mm, .inr (16, [.ref b0, .int 0, .ref b2, .ref b3, .int 0, .int 0, .int 0, .int 0, .int 0, .int 0, .int 0, .int (-1), .ref b12, .int 0, .ref b14, .int 0, .ref b16, .ref b17, .int 0, .int 0, .ref b20, .ref b21, .ref b22, .int 0, .ref b24, .int 0, .ref b26, .int 0, .ref b28, .int 0, .ref b30, .ref b31, .int 0, .ref b33, .ref b34, .int 0, .int 0, .int 0, .int 0, .ref b39, .ref b40, .ref b41, .ref b42, .ref b43, .ref b44, .ref b45, .int (-1), .long 0, .long 0, .long 0, .long 0, .long 0, .long 0, .long 0, .long 0, .ref b55, .ref b56, .ref b57, .ref b58, .ref b59, .long 0, .ref b61, .ref b62, .ref b63, .ref b64, .ref b65, .ref b66, .ref b67, .int (-1), .ref b69, .int 0, .int 0, .ref b72, .int 0, .ref b74, .long 0, .int 0, .int 0]))] := hD
  exact end_v hx hb hr hlocks dX16_next_59 () trivial hP hD hS [0] rfl (by decide) rfl (Nat.le_of_ble_eq_true rfl) (Nat.le_of_ble_eq_true rfl)
set_option maxHeartbeats 4000000 in
set_option maxRecDepth 100000 in
theorem c_X16_must_t (l : Launch) (D : va_G) (ct : Nat → ClassId) (mm : Nat) (b0 : Nat) (b2 : Nat) (b3 : Nat) (b12 : Nat) (b14 : Nat) (b16 : Nat) (b17 : Nat) (b20 : Nat) (b21 : Nat) (b22 : Nat) (b24 : Nat) (b26 : Nat) (b28 : Nat) (b30 : Nat) (b31 : Nat) (b33 : Nat) (b34 : Nat) (b39 : Nat) (b40 : Nat) (b41 : Nat) (b42 : Nat) (b43 : Nat) (b44 : Nat) (b45 : Nat) (b55 : Nat) (b56 : Nat) (b57 : Nat) (b58 : Nat) (b59 : Nat) (b61 : Nat) (b62 : Nat) (b63 : Nat) (b64 : Nat) (b65 : Nat) (b66 : Nat) (b67 : Nat) (b69 : Nat) (b72 : Nat) (b74 : Nat)  : KV (S := Unit) l yX16_must cX16_must 2 none 1 20 D ct [.ref mm, .int 1] [(mm, .inr (16, [.ref b0, .int 0, .ref b2, .ref b3, .int 0, .int 0, .int 0, .int 0, .int 0, .int 0, .int 0, .int (-1), .ref b12, .int 0, .ref b14, .int 0, .ref b16, .ref b17, .int 0, .int 0, .ref b20, .ref b21, .ref b22, .int 0, .ref b24, .int 0, .ref b26, .int 0, .ref b28, .int 0, .ref b30, .ref b31, .int 0, .ref b33, .ref b34, .int 0, .int 0, .int 0, .int 0, .ref b39, .ref b40, .ref b41, .ref b42, .ref b43, .ref b44, .ref b45, .int (-1), .long 0, .long 0, .long 0, .long 0, .long 0, .long 0, .long 0, .long 0, .ref b55, .ref b56, .ref b57, .ref b58, .ref b59, .long 0, .ref b61, .ref b62, .ref b63, .ref b64, .ref b65, .ref b66, .ref b67, .int (-1), .ref b69, .int 0, .int 0, .ref b72, .int 0, .ref b74, .long 0, .int 0, .int 0]))] 0 0 (fun _ => True) (fun (_ : Unit) => [(mm, .inr (16, [.ref b0, .int 0, .ref b2, .ref b3, .int 0, .int 0, .int 0, .int 0, .int 0, .int 0, .int 0, .int (-1), .ref b12, .int 0, .ref b14, .int 0, .ref b16, .ref b17, .int 0, .int 0, .ref b20, .ref b21, .ref b22, .int 0, .ref b24, .int 0, .ref b26, .int 0, .ref b28, .int 0, .ref b30, .ref b31, .int 0, .ref b33, .ref b34, .int 0, .int 0, .int 0, .int 0, .ref b39, .ref b40, .ref b41, .ref b42, .ref b43, .ref b44, .ref b45, .int (-1), .long 0, .long 0, .long 0, .long 0, .long 0, .long 0, .long 0, .long 0, .ref b55, .ref b56, .ref b57, .ref b58, .ref b59, .long 0, .ref b61, .ref b62, .ref b63, .ref b64, .ref b65, .ref b66, .ref b67, .int (-1), .ref b69, .int 0, .int 0, .ref b72, .int 0, .ref b74, .long 0, .int 0, .int 0]))]) := by
  refine KV_of (by decide) (Nat.le_of_ble_eq_true rfl) (fun p e s m below meth c A C0 hA hS hP hD ls hl => ?_)
  obtain ⟨hx, hb, hr, hown, hin, hml, hlocks, hn, hK⟩ := C0
  have hl : lv_has ls 2 [(0, .ref mm), (1, .int 1)] := hl
  refine lv_iload_n hx hb dX16_must_0 rfl (lv_at hl 1 rfl) ?_
  refine lv_if_ne (tgt := 16) hx hb dX16_must_1 (by decide) (fun c_1 => ?_) (fun c_1 => absurd c_1 (by decide))
  exact end_v hx hb hr hlocks dX16_must_16 () trivial hP hD hS [0] rfl (by decide) rfl (Nat.le_of_ble_eq_true rfl) (Nat.le_of_ble_eq_true rfl)
set_option maxHeartbeats 4000000 in
set_option maxRecDepth 100000 in
theorem c_X16_must_x (l : Launch) (hst : l.stackTraces = false) (D : va_G) (ct : Nat → ClassId) (mm : Nat) (b0 : Nat) (b2 : Nat) (b3 : Nat) (b12 : Nat) (b14 : Nat) (b16 : Nat) (b17 : Nat) (b20 : Nat) (b21 : Nat) (b22 : Nat) (b24 : Nat) (b26 : Nat) (b28 : Nat) (b30 : Nat) (b31 : Nat) (b33 : Nat) (b34 : Nat) (b39 : Nat) (b40 : Nat) (b41 : Nat) (b42 : Nat) (b43 : Nat) (b44 : Nat) (b45 : Nat) (b55 : Nat) (b56 : Nat) (b57 : Nat) (b58 : Nat) (b59 : Nat) (b61 : Nat) (b62 : Nat) (b63 : Nat) (b64 : Nat) (b65 : Nat) (b66 : Nat) (b67 : Nat) (b69 : Nat) (b72 : Nat) (b74 : Nat)  : KX l yX16_must cX16_must 2 none 7 200 D ct [.ref mm, .int 0] [(mm, .inr (16, [.ref b0, .int 0, .ref b2, .ref b3, .int 0, .int 0, .int 0, .int 0, .int 0, .int 0, .int 0, .int (-1), .ref b12, .int 0, .ref b14, .int 0, .ref b16, .ref b17, .int 0, .int 0, .ref b20, .ref b21, .ref b22, .int 0, .ref b24, .int 0, .ref b26, .int 0, .ref b28, .int 0, .ref b30, .ref b31, .int 0, .ref b33, .ref b34, .int 0, .int 0, .int 0, .int 0, .ref b39, .ref b40, .ref b41, .ref b42, .ref b43, .ref b44, .ref b45, .int (-1), .long 0, .long 0, .long 0, .long 0, .long 0, .long 0, .long 0, .long 0, .ref b55, .ref b56, .ref b57, .ref b58, .ref b59, .long 0, .ref b61, .ref b62, .ref b63, .ref b64, .ref b65, .ref b66, .ref b67, .int (-1), .ref b69, .int 0, .int 0, .ref b72, .int 0, .ref b74, .long 0, .int 0, .int 0]))] 1 7 [(mm, .inr (16, [.ref b0, .int 0, .ref b2, .ref b3, .int 0, .int 0, .int 0, .int 0, .int 0, .int 0, .int 0, .int (-1), .ref b12, .int 0, .ref b14, .int 0, .ref b16, .ref b17, .int 0, .int 0, .ref b20, .ref b21, .ref b22, .int 0, .ref b24, .int 0, .ref b26, .int 0, .ref b28, .int 0, .ref b30, .ref b31, .int 0, .ref b33, .ref b34, .int 0, .int 0, .int 0, .int 0, .ref b39, .ref b40, .ref b41, .ref b42, .ref b43, .ref b44, .ref b45, .int (-1), .long 0, .long 0, .long 0, .long 0, .long 0, .long 0, .long 0, .long 0, .ref b55, .ref b56, .ref b57, .ref b58, .ref b59, .long 0, .ref b61, .ref b62, .ref b63, .ref b64, .ref b65, .ref b66, .ref b67, .int (-1), .ref b69, .int 0, .int 0, .ref b72, .int 0, .ref b74, .long 0, .int 0, .int 0]))] := by
  refine KX_of (by decide) (Nat.le_of_ble_eq_true rfl) (fun p e s m below meth c A C0 htab hZ hA hS hP hD ls hl => ?_)
  obtain ⟨hx, hb, hr, hown, hin, hml, hlocks, hn, hK⟩ := C0
  have hl : lv_has ls 2 [(0, .ref mm), (1, .int 0)] := hl
  refine lv_iload_n hx hb dX16_must_0 rfl (lv_at hl 1 rfl) ?_
  refine lv_if_ne (tgt := 16) hx hb dX16_must_1 (by decide) (fun c_1 => absurd (by decide) c_1) (fun c_1 => ?_)
  refine nw_W (k1 := 1) (n1 := 7) hx hb hn hown mw_1908 mw_1928 mw_21 hK hP hD hS hA (Nat.le_of_ble_eq_true rfl) (Nat.le_of_ble_eq_true rfl) (Nat.le_of_ble_eq_true rfl) (Nat.le_of_ble_eq_true rfl) dX16_must_4 (fun q_2 H hfr hP hD hS => ?_)
  have hP : va_P D vwCl [(mm, .inr (16, [.ref b0, .int 0, .ref b2, .ref b3, .int 0, .int 0, .int 0, .int 0, .int 0, .int 0, .int 0, .int (-1), .ref b12, .int 0, .ref b14, .int 0, .ref b16, .ref b17, .int 0, .int 0, .ref b20, .ref b21, .ref b22, .int 0, .ref b24, .int 0, .ref b26, .int 0, .ref b28, .int 0, .ref b30, .ref b31, .int 0, .ref b33, .ref b34, .int 0, .int 0, .int 0, .int 0, .ref b39, .ref b40, .ref b41, .ref b42, .ref b43, .ref b44, .ref b45, .int (-1), .long 0, .long 0, .long 0, .long 0, .long 0, .long 0, .long 0, .long 0, .ref b55, .ref b56, .ref b57, .ref b58, .ref b59, .long 0, .ref b61, .ref b62, .ref b63, .ref b64, .ref b65, .ref b66, .ref b67, .int (-1), .ref b69, .int 0, .int 0, .ref b72, .int 0, .ref b74, .long 0, .int 0, .int 0])), (q_2, .inr (15, [.null, .null, .null, .null, .null, .int 0, .int 0]))] _ := hP
  have hD : va_D A [(mm, .inr (16, [.ref b0, .int 0, .ref b2, .ref b3, .int 0, .int 0, .int 0, .int 0, .int 0, .int 0, .int 0, .int (-1), .ref b12, .int 0, .ref b14, .int 0, .ref b16, .ref b17, .int 0, .int 0, .ref b20, .ref b21, .ref b22, .int 0, .ref b24, .int 0, .ref b26, .int 0, .ref b28, .int 0, .ref b30, .ref b31, .int 0, .ref b33, .ref b34, .int 0, .int 0, .int 0, .int 0, .ref b39, .ref b40, .ref b41, .ref b42, .ref b43, .ref b44, .ref b45, .int (-1), .long 0, .long 0, .long 0, .long 0, .long 0, .long 0, .long 0, .long 0, .ref b55, .ref b56, .ref b57, .ref b58, .ref b59, .long 0, .ref b61, .ref b62, .ref b63, .ref b64, .ref b65, .ref b66, .ref b67, .int (-1), .ref b69, .int 0, .int 0, .ref b72, .int 0, .ref b74, .long 0, .int 0, .int 0])), (q_2, .inr (15, [.null, .null, .null, .null, .null, .int 0, .int 0]))] := hD
  refine lv_dup hx hb dX16_must_7 rfl ?_
  refine lv_aload_n hx hb dX16_must_8 rfl (lv_at hl 0 rfl) ?_
  refine va_get (D := D) (ci := 16) (v := .int 0) (C := RX16) (T := TX16) (N := 78) hx hb (htX16 hn) (fun _ h => h) hown hK hP 0 rfl rfl 6 (by decide) (hn.get mw_1545 rfl) (fun _ h9 => h9) rfl dX16_must_9 ?_
  have hPc := hP.sub (ws' := [(q_2, .inr (15, fs0W))]) [1] rfl
  have hDc := hD.sub (ws' := [(q_2, .inr (15, fs0W))]) [1] (by decide) rfl
  have hFc := va_free (wc := [(q_2, .inr (15, fs0W))]) hD hS hA [1] rfl
  refine go_v (wc := [(q_2, .inr (15, fs0W))]) (k1 := 1) (n1 := 7) (wr := [(mm, .inr (16, [.ref b0, .int 0, .ref b2, .ref b3, .int 0, .int 0, .int 0, .int 0, .int 0, .int 0, .int 0, .int (-1), .ref b12, .int 0, .ref b14, .int 0, .ref b16, .ref b17, .int 0, .int 0, .ref b20, .ref b21, .ref b22, .int 0, .ref b24, .int 0, .ref b26, .int 0, .ref b28, .int 0, .ref b30, .ref b31, .int 0, .ref b33, .ref b34, .int 0, .int 0, .int 0, .int 0, .ref b39, .ref b40, .ref b41, .ref b42, .ref b43, .ref b44, .ref b45, .int (-1), .long 0, .long 0, .long 0, .long 0, .long 0, .long 0, .long 0, .long 0, .ref b55, .ref b56, .ref b57, .ref b58, .ref b59, .long 0, .ref b61, .ref b62, .ref b63, .ref b64, .ref b65, .ref b66, .ref b67, .int (-1), .ref b69, .int 0, .int 0, .ref b72, .int 0, .ref b74, .long 0, .int 0, .int 0]))]) [1] [0] (va_runI (As := [.int 0]) (rest := [.ref q_2]) (fix0 hx hb hml hown) (c_X15_init l hst D ct q_2 0 _) ⟨cb_of (n := 1) hn mw_1938 mw_21 mw_1936 mhX15_init ⟨(Nat.le_of_ble_eq_true rfl), (Nat.le_of_ble_eq_true rfl)⟩, rfl, hn.get mw_1937 rfl⟩ ⟨blindN, preN_of hPc hK hDc hn hZ hS hFc hfr⟩ rfl rfl hl.1 rfl (lv_room (Nat.le_of_ble_eq_true rfl)) dX16_must_12 ⟨(Nat.le_of_ble_eq_true rfl), (Nat.le_of_ble_eq_true rfl)⟩) hP hD hS hA rfl rfl (by decide) (by decide) (Nat.le_of_ble_eq_true rfl) (Nat.le_of_ble_eq_true rfl) (fun fs_3 H locs hp9 hP hD hS => ?_)
  obtain ⟨hx7, hx6⟩ := hp9
  have hP : va_P D vwCl [(mm, .inr (16, [.ref b0, .int 0, .ref b2, .ref b3, .int 0, .int 0, .int 0, .int 0, .int 0, .int 0, .int 0, .int (-1), .ref b12, .int 0, .ref b14, .int 0, .ref b16, .ref b17, .int 0, .int 0, .ref b20, .ref b21, .ref b22, .int 0, .ref b24, .int 0, .ref b26, .int 0, .ref b28, .int 0, .ref b30, .ref b31, .int 0, .ref b33, .ref b34, .int 0, .int 0, .int 0, .int 0, .ref b39, .ref b40, .ref b41, .ref b42, .ref b43, .ref b44, .ref b45, .int (-1), .long 0, .long 0, .long 0, .long 0, .long 0, .long 0, .long 0, .long 0, .ref b55, .ref b56, .ref b57, .ref b58, .ref b59, .long 0, .ref b61, .ref b62, .ref b63, .ref b64, .ref b65, .ref b66, .ref b67, .int (-1), .ref b69, .int 0, .int 0, .ref b72, .int 0, .ref b74, .long 0, .int 0, .int 0])), (q_2, .inr (15, fs_3))] _ := hP
  have hD : va_D A [(mm, .inr (16, [.ref b0, .int 0, .ref b2, .ref b3, .int 0, .int 0, .int 0, .int 0, .int 0, .int 0, .int 0, .int (-1), .ref b12, .int 0, .ref b14, .int 0, .ref b16, .ref b17, .int 0, .int 0, .ref b20, .ref b21, .ref b22, .int 0, .ref b24, .int 0, .ref b26, .int 0, .ref b28, .int 0, .ref b30, .ref b31, .int 0, .ref b33, .ref b34, .int 0, .int 0, .int 0, .int 0, .ref b39, .ref b40, .ref b41, .ref b42, .ref b43, .ref b44, .ref b45, .int (-1), .long 0, .long 0, .long 0, .long 0, .long 0, .long 0, .long 0, .long 0, .ref b55, .ref b56, .ref b57, .ref b58, .ref b59, .long 0, .ref b61, .ref b62, .ref b63, .ref b64, .ref b65, .ref b66, .ref b67, .int (-1), .ref b69, .int 0, .int 0, .ref b72, .int 0, .ref b74, .long 0, .int 0, .int 0])), (q_2, .inr (15, fs_3))] := hD
  refine vx_athrow hx hb dX16_must_15 ?_
  exact x_out htab hlocks hK hP hD hS hx7 hx6 [0, 1] rfl (by decide) rfl (kq := 1) rfl (Nat.le_of_ble_eq_true rfl) (Nat.le_of_ble_eq_true rfl)
set_option maxHeartbeats 4000000 in
set_option maxRecDepth 100000 in
theorem c_X16_wantNumber_x (l : Launch) (hst : l.stackTraces = false) (D : va_G) (ct : Nat → ClassId) (mm : Nat) (b0 : Nat) (b2 : Nat) (b3 : Nat) (b12 : Nat) (b14 : Nat) (b16 : Nat) (b17 : Nat) (b20 : Nat) (b21 : Nat) (b22 : Nat) (b24 : Nat) (b26 : Nat) (b28 : Nat) (b30 : Nat) (b31 : Nat) (b33 : Nat) (b34 : Nat) (b39 : Nat) (b40 : Nat) (b41 : Nat) (b42 : Nat) (b43 : Nat) (b44 : Nat) (b45 : Nat) (b55 : Nat) (b56 : Nat) (b57 : Nat) (b58 : Nat) (b59 : Nat) (b61 : Nat) (b62 : Nat) (b63 : Nat) (b64 : Nat) (b65 : Nat) (b66 : Nat) (b67 : Nat) (b69 : Nat) (b72 : Nat) (b74 : Nat)  : KX l yX16_wantNumber cX16_wantNumber 7 (some .long) 8 221 D ct [.ref mm, .long 0, .long 4294967295] [(mm, .inr (16, [.ref b0, .int 0, .ref b2, .ref b3, .int 0, .int 0, .int 0, .int 0, .int 0, .int 0, .int 0, .int (-1), .ref b12, .int 0, .ref b14, .int 0, .ref b16, .ref b17, .int 0, .int 0, .ref b20, .ref b21, .ref b22, .int 0, .ref b24, .int 0, .ref b26, .int 0, .ref b28, .int 0, .ref b30, .ref b31, .int 0, .ref b33, .ref b34, .int 0, .int 0, .int 0, .int 0, .ref b39, .ref b40, .ref b41, .ref b42, .ref b43, .ref b44, .ref b45, .int (-1), .long 0, .long 0, .long 0, .long 0, .long 0, .long 0, .long 0, .long 0, .ref b55, .ref b56, .ref b57, .ref b58, .ref b59, .long 0, .ref b61, .ref b62, .ref b63, .ref b64, .ref b65, .ref b66, .ref b67, .int (-1), .ref b69, .int 0, .int 0, .ref b72, .int 0, .ref b74, .long 0, .int 0, .int 0]))] 1 7 [(mm, .inr (16, [.ref b0, .int 0, .ref b2, .ref b3, .int 0, .int 0, .int 0, .int 0, .int 0, .int 0, .int 0, .int (-1), .ref b12, .int 0, .ref b14, .int 0, .ref b16, .ref b17, .int 0, .int 0, .ref b20, .ref b21, .ref b22, .int 0, .ref b24, .int 0, .ref b26, .int 0, .ref b28, .int 0, .ref b30, .ref b31, .int 0, .ref b33, .ref b34, .int 0, .int 0, .int 0, .int 0, .ref b39, .ref b40, .ref b41, .ref b42, .ref b43, .ref b44, .ref b45, .int (-1), .long 0, .long 0, .long 0, .long 0, .long 0, .long 0, .long 0, .long 0, .ref b55, .ref b56, .ref b57, .ref b58, .ref b59, .long 0, .ref b61, .ref b62, .ref b63, .ref b64, .ref b65, .ref b66, .ref b67, .int (-1), .ref b69, .int 0, .int 0, .ref b72, .int 0, .ref b74, .long 0, .int 0, .int 0]))] := by
  refine KX_of (by decide) (Nat.le_of_ble_eq_true rfl) (fun p e s m below meth c A C0 htab hZ hA hS hP hD ls hl => ?_)
  obtain ⟨hx, hb, hr, hown, hin, hml, hlocks, hn, hK⟩ := C0
  have hl : lv_has ls 7 [(0, .ref mm), (1, .long 0), (3, .long 4294967295)] := hl
  refine lv_aload_n hx hb dX16_wantNumber_0 rfl (lv_at hl 0 rfl) ?_
  have hPc := hP.sub (ws' := [(mm, .inr (16, [.ref b0, .int 0, .ref b2, .ref b3, .int 0, .int 0, .int 0, .int 0, .int 0, .int 0, .int 0, .int (-1), .ref b12, .int 0, .ref b14, .int 0, .ref b16, .ref b17, .int 0, .int 0, .ref b20, .ref b21, .ref b22, .int 0, .ref b24, .int 0, .ref b26, .int 0, .ref b28, .int 0, .ref b30, .ref b31, .int 0, .ref b33, .ref b34, .int 0, .int 0, .int 0, .int 0, .ref b39, .ref b40, .ref b41, .ref b42, .ref b43, .ref b44, .ref b45, .int (-1), .long 0, .long 0, .long 0, .long 0, .long 0, .long 0, .long 0, .long 0, .ref b55, .ref b56, .ref b57, .ref b58, .ref b59, .long 0, .ref b61, .ref b62, .ref b63, .ref b64, .ref b65, .ref b66, .ref b67, .int (-1), .ref b69, .int 0, .int 0, .ref b72, .int 0, .ref b74, .long 0, .int 0, .int 0]))]) [0] rfl
  have hDc := hD.sub (ws' := [(mm, .inr (16, [.ref b0, .int 0, .ref b2, .ref b3, .int 0, .int 0, .int 0, .int 0, .int 0, .int 0, .int 0, .int (-1), .ref b12, .int 0, .ref b14, .int 0, .ref b16, .ref b17, .int 0, .int 0, .ref b20, .ref b21, .ref b22, .int 0, .ref b24, .int 0, .ref b26, .int 0, .ref b28, .int 0, .ref b30, .ref b31, .int 0, .ref b33, .ref b34, .int 0, .int 0, .int 0, .int 0, .ref b39, .ref b40, .ref b41, .ref b42, .ref b43, .ref b44, .ref b45, .int (-1), .long 0, .long 0, .long 0, .long 0, .long 0, .long 0, .long 0, .long 0, .ref b55, .ref b56, .ref b57, .ref b58, .ref b59, .long 0, .ref b61, .ref b62, .ref b63, .ref b64, .ref b65, .ref b66, .ref b67, .int (-1), .ref b69, .int 0, .int 0, .ref b72, .int 0, .ref b74, .long 0, .int 0, .int 0]))]) [0] (by decide) rfl
  refine go_l (k1 := 0) (n1 := 0) (wr := []) [0] [] (rn_V (As := []) (rest := []) (c_X16_number_q l D ct mm b0 b2 b3 b12 b14 b16 b17 b20 b21 b22 b24 b26 b28 b30 b31 b33 b34 b39 b40 b41 b42 b43 b44 b45 b55 b56 b57 b58 b59 b61 b62 b63 b64 b65 b66 b67 b69 b72 b74  _) (cb_of (n := 0) hn mw_2081 mw_13 mw_2078 mhX16_number ⟨Nat.le_of_ble_eq_true rfl, Nat.le_of_ble_eq_true rfl⟩) hx hb hml hown hn hK hPc hDc mw_2080 mw_s197 (ci := 16) (q0 := 0) rfl rfl rfl rfl hl.1 (Nat.le_of_ble_eq_true rfl) dX16_wantNumber_1 ⟨(Nat.le_of_ble_eq_true rfl), (Nat.le_of_ble_eq_true rfl)⟩) hP hD hS hA rfl rfl (by decide) (by decide) (Nat.le_of_ble_eq_true rfl) (Nat.le_of_ble_eq_true rfl) (fun r_1 u_2 H locs hp_3 hP hD hS => ?_)
  have hr_1 := hp_3
  rw [show r_1 = (-1) from hr_1]
  have hP : va_P D vwCl [(mm, .inr (16, [.ref b0, .int 0, .ref b2, .ref b3, .int 0, .int 0, .int 0, .int 0, .int 0, .int 0, .int 0, .int (-1), .ref b12, .int 0, .ref b14, .int 0, .ref b16, .ref b17, .int 0, .int 0, .ref b20, .ref b21, .ref b22, .int 0, .ref b24, .int 0, .ref b26, .int 0, .ref b28, .int 0, .ref b30, .ref b31, .int 0, .ref b33, .ref b34, .int 0, .int 0, .int 0, .int 0, .ref b39, .ref b40, .ref b41, .ref b42, .ref b43, .ref b44, .ref b45, .int (-1), .long 0, .long 0, .long 0, .long 0, .long 0, .long 0, .long 0, .long 0, .ref b55, .ref b56, .ref b57, .ref b58, .ref b59, .long 0, .ref b61, .ref b62, .ref b63, .ref b64, .ref b65, .ref b66, .ref b67, .int (-1), .ref b69, .int 0, .int 0, .ref b72, .int 0, .ref b74, .long 0, .int 0, .int 0]))] _ := hP
  have hD : va_D A [(mm, .inr (16, [.ref b0, .int 0, .ref b2, .ref b3, .int 0, .int 0, .int 0, .int 0, .int 0, .int 0, .int 0, .int (-1), .ref b12, .int 0, .ref b14, .int 0, .ref b16, .ref b17, .int 0, .int 0, .ref b20, .ref b21, .ref b22, .int 0, .ref b24, .int 0, .ref b26, .int 0, .ref b28, .int 0, .ref b30, .ref b31, .int 0, .ref b33, .ref b34, .int 0, .int 0, .int 0, .int 0, .ref b39, .ref b40, .ref b41, .ref b42, .ref b43, .ref b44, .ref b45, .int (-1), .long 0, .long 0, .long 0, .long 0, .long 0, .long 0, .long 0, .long 0, .ref b55, .ref b56, .ref b57, .ref b58, .ref b59, .long 0, .ref b61, .ref b62, .ref b63, .ref b64, .ref b65, .ref b66, .ref b67, .int (-1), .ref b69, .int 0, .int 0, .ref b72, .int 0, .ref b74, .long 0, .int 0, .int 0]))] := hD
  refine lv_lstore (lv' := [(5, .long (-1)), (0, .ref mm), (1, .long 0), (3, .long 4294967295)]) hx hb dX16_wantNumber_4 hl (by decide) rfl (fun ls hl => ?_)
  refine lv_aload_n hx hb dX16_wantNumber_6 rfl (lv_at hl 1 rfl) ?_
  refine lv_lload hx hb dX16_wantNumber_7 (lv_at hl 0 rfl) ?_
  refine lv_lload_n hx hb dX16_wantNumber_9 rfl (lv_at hl 2 rfl) ?_
  refine W.lcmp hx hb dX16_wantNumber_10 ?_
  refine top_c (v := (-1)) (by decide) ?_
  refine lv_if_lt (tgt := 25) hx hb dX16_wantNumber_11 (by decide) (fun c_4 => ?_) (fun c_4 => absurd (by decide) c_4)
  refine lv_iconst (v := 0) hx hb dX16_wantNumber_25 (by decide) ?_
  have hPc := hP.sub (ws' := [(mm, .inr (16, [.ref b0, .int 0, .ref b2, .ref b3, .int 0, .int 0, .int 0, .int 0, .int 0, .int 0, .int 0, .int (-1), .ref b12, .int 0, .ref b14, .int 0, .ref b16, .ref b17, .int 0, .int 0, .ref b20, .ref b21, .ref b22, .int 0, .ref b24, .int 0, .ref b26, .int 0, .ref b28, .int 0, .ref b30, .ref b31, .int 0, .ref b33, .ref b34, .int 0, .int 0, .int 0, .int 0, .ref b39, .ref b40, .ref b41, .ref b42, .ref b43, .ref b44, .ref b45, .int (-1), .long 0, .long 0, .long 0, .long 0, .long 0, .long 0, .long 0, .long 0, .ref b55, .ref b56, .ref b57, .ref b58, .ref b59, .long 0, .ref b61, .ref b62, .ref b63, .ref b64, .ref b65, .ref b66, .ref b67, .int (-1), .ref b69, .int 0, .int 0, .ref b72, .int 0, .ref b74, .long 0, .int 0, .int 0]))]) [0] rfl
  have hDc := hD.sub (ws' := [(mm, .inr (16, [.ref b0, .int 0, .ref b2, .ref b3, .int 0, .int 0, .int 0, .int 0, .int 0, .int 0, .int 0, .int (-1), .ref b12, .int 0, .ref b14, .int 0, .ref b16, .ref b17, .int 0, .int 0, .ref b20, .ref b21, .ref b22, .int 0, .ref b24, .int 0, .ref b26, .int 0, .ref b28, .int 0, .ref b30, .ref b31, .int 0, .ref b33, .ref b34, .int 0, .int 0, .int 0, .int 0, .ref b39, .ref b40, .ref b41, .ref b42, .ref b43, .ref b44, .ref b45, .int (-1), .long 0, .long 0, .long 0, .long 0, .long 0, .long 0, .long 0, .long 0, .ref b55, .ref b56, .ref b57, .ref b58, .ref b59, .long 0, .ref b61, .ref b62, .ref b63, .ref b64, .ref b65, .ref b66, .ref b67, .int (-1), .ref b69, .int 0, .int 0, .ref b72, .int 0, .ref b74, .long 0, .int 0, .int 0]))]) [0] (by decide) rfl
  have hFc := va_free (wc := [(mm, .inr (16, [.ref b0, .int 0, .ref b2, .ref b3, .int 0, .int 0, .int 0, .int 0, .int 0, .int 0, .int 0, .int (-1), .ref b12, .int 0, .ref b14, .int 0, .ref b16, .ref b17, .int 0, .int 0, .ref b20, .ref b21, .ref b22, .int 0, .ref b24, .int 0, .ref b26, .int 0, .ref b28, .int 0, .ref b30, .ref b31, .int 0, .ref b33, .ref b34, .int 0, .int 0, .int 0, .int 0, .ref b39, .ref b40, .ref b41, .ref b42, .ref b43, .ref b44, .ref b45, .int (-1), .long 0, .long 0, .long 0, .long 0, .long 0, .long 0, .long 0, .long 0, .ref b55, .ref b56, .ref b57, .ref b58, .ref b59, .long 0, .ref b61, .ref b62, .ref b63, .ref b64, .ref b65, .ref b66, .ref b67, .int (-1), .ref b69, .int 0, .int 0, .ref b72, .int 0, .ref b74, .long 0, .int 0, .int 0]))]) hD hS hA [0] rfl
  refine go_x (k1 := 1) (n1 := 7) (wr := []) (w1 := [(mm, .inr (16, [.ref b0, .int 0, .ref b2, .ref b3, .int 0, .int 0, .int 0, .int 0, .int 0, .int 0, .int 0, .int (-1), .ref b12, .int 0, .ref b14, .int 0, .ref b16, .ref b17, .int 0, .int 0, .ref b20, .ref b21, .ref b22, .int 0, .ref b24, .int 0, .ref b26, .int 0, .ref b28, .int 0, .ref b30, .ref b31, .int 0, .ref b33, .ref b34, .int 0, .int 0, .int 0, .int 0, .ref b39, .ref b40, .ref b41, .ref b42, .ref b43, .ref b44, .ref b45, .int (-1), .long 0, .long 0, .long 0, .long 0, .long 0, .long 0, .long 0, .long 0, .ref b55, .ref b56, .ref b57, .ref b58, .ref b59, .long 0, .ref b61, .ref b62, .ref b63, .ref b64, .ref b65, .ref b66, .ref b67, .int (-1), .ref b69, .int 0, .int 0, .ref b72, .int 0, .ref b74, .long 0, .int 0, .int 0]))]) [0] [] (rx_V (As := [.int 0]) (rest := []) (c_X16_must_x l hst D ct mm b0 b2 b3 b12 b14 b16 b17 b20 b21 b22 b24 b26 b28 b30 b31 b33 b34 b39 b40 b41 b42 b43 b44 b45 b55 b56 b57 b58 b59 b61 b62 b63 b64 b65 b66 b67 b69 b72 b74  _) (cb_of (n := 1) hn mw_1927 mw_13 mw_1924 mhX16_must ⟨Nat.le_of_ble_eq_true rfl, Nat.le_of_ble_eq_true rfl⟩) hx hb hml hown hn hK hPc hDc hZ hS hFc mw_1926 mw_s182 (ci := 16) (q0 := 0) rfl rfl rfl rfl hl.1 (Nat.le_of_ble_eq_true rfl) dX16_wantNumber_26 ⟨(Nat.le_of_ble_eq_true rfl), (Nat.le_of_ble_eq_true rfl)⟩) hP hD hS hA rfl rfl (by decide) (by decide) (Nat.le_of_ble_eq_true rfl) (Nat.le_of_ble_eq_true rfl) (fun xq_5 xf_6 H locs hx7 hx6 hP hD hS => ?_)
  have hP : va_P D vwCl [(mm, .inr (16, [.ref b0, .int 0, .ref b2, .ref b3, .int 0, .int 0, .int 0, .int 0, .int 0, .int 0, .int 0, .int (-1), .ref b12, .int 0, .ref b14, .int 0, .ref b16, .ref b17, .int 0, .int 0, .ref b20, .ref b21, .ref b22, .int 0, .ref b24, .int 0, .ref b26, .int 0, .ref b28, .int 0, .ref b30, .ref b31, .int 0, .ref b33, .ref b34, .int 0, .int 0, .int 0, .int 0, .ref b39, .ref b40, .ref b41, .ref b42, .ref b43, .ref b44, .ref b45, .int (-1), .long 0, .long 0, .long 0, .long 0, .long 0, .long 0, .long 0, .long 0, .ref b55, .ref b56, .ref b57, .ref b58, .ref b59, .long 0, .ref b61, .ref b62, .ref b63, .ref b64, .ref b65, .ref b66, .ref b67, .int (-1), .ref b69, .int 0, .int 0, .ref b72, .int 0, .ref b74, .long 0, .int 0, .int 0])), (xq_5, .inr (15, xf_6))] _ := hP
  have hD : va_D A [(mm, .inr (16, [.ref b0, .int 0, .ref b2, .ref b3, .int 0, .int 0, .int 0, .int 0, .int 0, .int 0, .int 0, .int (-1), .ref b12, .int 0, .ref b14, .int 0, .ref b16, .ref b17, .int 0, .int 0, .ref b20, .ref b21, .ref b22, .int 0, .ref b24, .int 0, .ref b26, .int 0, .ref b28, .int 0, .ref b30, .ref b31, .int 0, .ref b33, .ref b34, .int 0, .int 0, .int 0, .int 0, .ref b39, .ref b40, .ref b41, .ref b42, .ref b43, .ref b44, .ref b45, .int (-1), .long 0, .long 0, .long 0, .long 0, .long 0, .long 0, .long 0, .long 0, .ref b55, .ref b56, .ref b57, .ref b58, .ref b59, .long 0, .ref b61, .ref b62, .ref b63, .ref b64, .ref b65, .ref b66, .ref b67, .int (-1), .ref b69, .int 0, .int 0, .ref b72, .int 0, .ref b74, .long 0, .int 0, .int 0])), (xq_5, .inr (15, xf_6))] := hD
  exact x_out htab hlocks hK hP hD hS hx7 hx6 [0, 1] rfl (by decide) rfl (kq := 1) rfl (Nat.le_of_ble_eq_true rfl) (Nat.le_of_ble_eq_true rfl)
set_option maxHeartbeats 4000000 in
set_option maxRecDepth 100000 in
theorem c_X16_readAtom_x (l : Launch) (hst : l.stackTraces = false) (D : va_G) (ct : Nat → ClassId) (mm : Nat) (b0 : Nat) (b2 : Nat) (b3 : Nat) (b12 : Nat) (b14 : Nat) (b16 : Nat) (b17 : Nat) (b20 : Nat) (b21 : Nat) (b22 : Nat) (b24 : Nat) (b26 : Nat) (b28 : Nat) (b30 : Nat) (b31 : Nat) (b33 : Nat) (b34 : Nat) (b39 : Nat) (b40 : Nat) (b41 : Nat) (b42 : Nat) (b43 : Nat) (b44 : Nat) (b45 : Nat) (b55 : Nat) (b56 : Nat) (b57 : Nat) (b58 : Nat) (b59 : Nat) (b61 : Nat) (b62 : Nat) (b63 : Nat) (b64 : Nat) (b65 : Nat) (b66 : Nat) (b67 : Nat) (b69 : Nat) (b72 : Nat) (b74 : Nat)  : KX l yX16_readAtom cX16_readAtom 3 (some (.object "FilterForgeModel$Sum")) 9 247 D ct [.ref mm, .int 0] [(mm, .inr (16, [.ref b0, .int 0, .ref b2, .ref b3, .int 0, .int 0, .int 0, .int 0, .int 0, .int 0, .int 0, .int (-1), .ref b12, .int 0, .ref b14, .int 0, .ref b16, .ref b17, .int 0, .int 0, .ref b20, .ref b21, .ref b22, .int 0, .ref b24, .int 0, .ref b26, .int 0, .ref b28, .int 0, .ref b30, .ref b31, .int 0, .ref b33, .ref b34, .int 0, .int 0, .int 0, .int 0, .ref b39, .ref b40, .ref b41, .ref b42, .ref b43, .ref b44, .ref b45, .int (-1), .long 0, .long 0, .long 0, .long 0, .long 0, .long 0, .long 0, .long 0, .ref b55, .ref b56, .ref b57, .ref b58, .ref b59, .long 0, .ref b61, .ref b62, .ref b63, .ref b64, .ref b65, .ref b66, .ref b67, .int (-1), .ref b69, .int 0, .int 0, .ref b72, .int 0, .ref b74, .long 0, .int 0, .int 0]))] 1 7 [(mm, .inr (16, [.ref b0, .int 0, .ref b2, .ref b3, .int 0, .int 0, .int 0, .int 0, .int 0, .int 0, .int 0, .int (-1), .ref b12, .int 0, .ref b14, .int 0, .ref b16, .ref b17, .int 0, .int 0, .ref b20, .ref b21, .ref b22, .int 0, .ref b24, .int 0, .ref b26, .int 0, .ref b28, .int 0, .ref b30, .ref b31, .int 0, .ref b33, .ref b34, .int 0, .int 0, .int 0, .int 0, .ref b39, .ref b40, .ref b41, .ref b42, .ref b43, .ref b44, .ref b45, .int (-1), .long 0, .long 0, .long 0, .long 0, .long 0, .long 0, .long 0, .long 0, .ref b55, .ref b56, .ref b57, .ref b58, .ref b59, .long 0, .ref b61, .ref b62, .ref b63, .ref b64, .ref b65, .ref b66, .ref b67, .int (-1), .ref b69, .int 0, .int 0, .ref b72, .int 0, .ref b74, .long 0, .int 0, .int 0]))] := by
  refine KX_of (by decide) (Nat.le_of_ble_eq_true rfl) (fun p e s m below meth c A C0 htab hZ hA hS hP hD ls hl => ?_)
  obtain ⟨hx, hb, hr, hown, hin, hml, hlocks, hn, hK⟩ := C0
  have hl : lv_has ls 3 [(0, .ref mm), (1, .int 0)] := hl
  refine lv_aload_n hx hb dX16_readAtom_0 rfl (lv_at hl 0 rfl) ?_
  refine va_get (D := D) (ci := 16) (v := .int (-1)) (C := RX16) (T := TX16) (N := 78) hx hb (htX16 hn) (fun _ h => h) hown hK hP 0 rfl rfl 11 (by decide) (hn.get mw_1550 rfl) (fun _ h9 => h9) rfl dX16_readAtom_1 ?_
  refine lv_if_ge (tgt := 55) hx hb dX16_readAtom_4 (by decide) (fun c_1 => absurd c_1 (by decide)) (fun c_1 => ?_)
  refine lv_aload_n hx hb dX16_readAtom_7 rfl (lv_at hl 0 rfl) ?_
  obtain ⟨sq_2, hsq_2⟩ := hn.2.1 _ _ _ mw_x2040
  refine va_ldcwS hx hb hown hsq_2 dX16_readAtom_8 ?_
  have hPc := hP.sub (ws' := [(mm, .inr (16, [.ref b0, .int 0, .ref b2, .ref b3, .int 0, .int 0, .int 0, .int 0, .int 0, .int 0, .int 0, .int (-1), .ref b12, .int 0, .ref b14, .int 0, .ref b16, .ref b17, .int 0, .int 0, .ref b20, .ref b21, .ref b22, .int 0, .ref b24, .int 0, .ref b26, .int 0, .ref b28, .int 0, .ref b30, .ref b31, .int 0, .ref b33, .ref b34, .int 0, .int 0, .int 0, .int 0, .ref b39, .ref b40, .ref b41, .ref b42, .ref b43, .ref b44, .ref b45, .int (-1), .long 0, .long 0, .long 0, .long 0, .long 0, .long 0, .long 0, .long 0, .ref b55, .ref b56, .ref b57, .ref b58, .ref b59, .long 0, .ref b61, .ref b62, .ref b63, .ref b64, .ref b65, .ref b66, .ref b67, .int (-1), .ref b69, .int 0, .int 0, .ref b72, .int 0, .ref b74, .long 0, .int 0, .int 0]))]) [0] rfl
  have hDc := hD.sub (ws' := [(mm, .inr (16, [.ref b0, .int 0, .ref b2, .ref b3, .int 0, .int 0, .int 0, .int 0, .int 0, .int 0, .int 0, .int (-1), .ref b12, .int 0, .ref b14, .int 0, .ref b16, .ref b17, .int 0, .int 0, .ref b20, .ref b21, .ref b22, .int 0, .ref b24, .int 0, .ref b26, .int 0, .ref b28, .int 0, .ref b30, .ref b31, .int 0, .ref b33, .ref b34, .int 0, .int 0, .int 0, .int 0, .ref b39, .ref b40, .ref b41, .ref b42, .ref b43, .ref b44, .ref b45, .int (-1), .long 0, .long 0, .long 0, .long 0, .long 0, .long 0, .long 0, .long 0, .ref b55, .ref b56, .ref b57, .ref b58, .ref b59, .long 0, .ref b61, .ref b62, .ref b63, .ref b64, .ref b65, .ref b66, .ref b67, .int (-1), .ref b69, .int 0, .int 0, .ref b72, .int 0, .ref b74, .long 0, .int 0, .int 0]))]) [0] (by decide) rfl
  refine go_i (k1 := 0) (n1 := 0) (wr := []) [0] [] (rn_V (As := [.ref sq_2]) (rest := []) (c_X16_is_q l D ct mm b0 b2 b3 b12 b14 b16 b17 b20 b21 b22 b24 b26 b28 b30 b31 b33 b34 b39 b40 b41 b42 b43 b44 b45 b55 b56 b57 b58 b59 b61 b62 b63 b64 b65 b66 b67 b69 b72 b74 sq_2  _) (cb_of (n := 1) hn mw_1962 mw_13 mw_1959 mhX16_is ⟨Nat.le_of_ble_eq_true rfl, Nat.le_of_ble_eq_true rfl⟩) hx hb hml hown hn hK hPc hDc mw_1961 mw_s186 (ci := 16) (q0 := 0) rfl rfl rfl rfl hl.1 (Nat.le_of_ble_eq_true rfl) dX16_readAtom_11 ⟨(Nat.le_of_ble_eq_true rfl), (Nat.le_of_ble_eq_true rfl)⟩) hP hD hS hA rfl rfl (by decide) (by decide) (Nat.le_of_ble_eq_true rfl) (Nat.le_of_ble_eq_true rfl) (fun r_3 u_4 H locs hp_5 hP hD hS => ?_)
  have hr_3 := hp_5
  rw [show r_3 = 0 from hr_3]
  have hP : va_P D vwCl [(mm, .inr (16, [.ref b0, .int 0, .ref b2, .ref b3, .int 0, .int 0, .int 0, .int 0, .int 0, .int 0, .int 0, .int (-1), .ref b12, .int 0, .ref b14, .int 0, .ref b16, .ref b17, .int 0, .int 0, .ref b20, .ref b21, .ref b22, .int 0, .ref b24, .int 0, .ref b26, .int 0, .ref b28, .int 0, .ref b30, .ref b31, .int 0, .ref b33, .ref b34, .int 0, .int 0, .int 0, .int 0, .ref b39, .ref b40, .ref b41, .ref b42, .ref b43, .ref b44, .ref b45, .int (-1), .long 0, .long 0, .long 0, .long 0, .long 0, .long 0, .long 0, .long 0, .ref b55, .ref b56, .ref b57, .ref b58, .ref b59, .long 0, .ref b61, .ref b62, .ref b63, .ref b64, .ref b65, .ref b66, .ref b67, .int (-1), .ref b69, .int 0, .int 0, .ref b72, .int 0, .ref b74, .long 0, .int 0, .int 0]))] _ := hP
  have hD : va_D A [(mm, .inr (16, [.ref b0, .int 0, .ref b2, .ref b3, .int 0, .int 0, .int 0, .int 0, .int 0, .int 0, .int 0, .int (-1), .ref b12, .int 0, .ref b14, .int 0, .ref b16, .ref b17, .int 0, .int 0, .ref b20, .ref b21, .ref b22, .int 0, .ref b24, .int 0, .ref b26, .int 0, .ref b28, .int 0, .ref b30, .ref b31, .int 0, .ref b33, .ref b34, .int 0, .int 0, .int 0, .int 0, .ref b39, .ref b40, .ref b41, .ref b42, .ref b43, .ref b44, .ref b45, .int (-1), .long 0, .long 0, .long 0, .long 0, .long 0, .long 0, .long 0, .long 0, .ref b55, .ref b56, .ref b57, .ref b58, .ref b59, .long 0, .ref b61, .ref b62, .ref b63, .ref b64, .ref b65, .ref b66, .ref b67, .int (-1), .ref b69, .int 0, .int 0, .ref b72, .int 0, .ref b74, .long 0, .int 0, .int 0]))] := hD
  refine lv_if_eq (tgt := 55) hx hb dX16_readAtom_14 (by decide) (fun c_6 => ?_) (fun c_6 => absurd (by decide) c_6)
  refine lv_aload_n hx hb dX16_readAtom_55 rfl (lv_at hl 0 rfl) ?_
  refine va_get (D := D) (ci := 16) (v := .int (-1)) (C := RX16) (T := TX16) (N := 78) hx hb (htX16 hn) (fun _ h => h) hown hK hP 0 rfl rfl 11 (by decide) (hn.get mw_1550 rfl) (fun _ h9 => h9) rfl dX16_readAtom_56 ?_
  refine lv_if_ge (tgt := 111) hx hb dX16_readAtom_59 (by decide) (fun c_7 => absurd c_7 (by decide)) (fun c_7 => ?_)
  refine lv_aload_n hx hb dX16_readAtom_62 rfl (lv_at hl 0 rfl) ?_
  obtain ⟨sq_8, hsq_8⟩ := hn.2.1 _ _ _ mw_x2067
  refine va_ldcwS hx hb hown hsq_8 dX16_readAtom_63 ?_
  have hPc := hP.sub (ws' := [(mm, .inr (16, [.ref b0, .int 0, .ref b2, .ref b3, .int 0, .int 0, .int 0, .int 0, .int 0, .int 0, .int 0, .int (-1), .ref b12, .int 0, .ref b14, .int 0, .ref b16, .ref b17, .int 0, .int 0, .ref b20, .ref b21, .ref b22, .int 0, .ref b24, .int 0, .ref b26, .int 0, .ref b28, .int 0, .ref b30, .ref b31, .int 0, .ref b33, .ref b34, .int 0, .int 0, .int 0, .int 0, .ref b39, .ref b40, .ref b41, .ref b42, .ref b43, .ref b44, .ref b45, .int (-1), .long 0, .long 0, .long 0, .long 0, .long 0, .long 0, .long 0, .long 0, .ref b55, .ref b56, .ref b57, .ref b58, .ref b59, .long 0, .ref b61, .ref b62, .ref b63, .ref b64, .ref b65, .ref b66, .ref b67, .int (-1), .ref b69, .int 0, .int 0, .ref b72, .int 0, .ref b74, .long 0, .int 0, .int 0]))]) [0] rfl
  have hDc := hD.sub (ws' := [(mm, .inr (16, [.ref b0, .int 0, .ref b2, .ref b3, .int 0, .int 0, .int 0, .int 0, .int 0, .int 0, .int 0, .int (-1), .ref b12, .int 0, .ref b14, .int 0, .ref b16, .ref b17, .int 0, .int 0, .ref b20, .ref b21, .ref b22, .int 0, .ref b24, .int 0, .ref b26, .int 0, .ref b28, .int 0, .ref b30, .ref b31, .int 0, .ref b33, .ref b34, .int 0, .int 0, .int 0, .int 0, .ref b39, .ref b40, .ref b41, .ref b42, .ref b43, .ref b44, .ref b45, .int (-1), .long 0, .long 0, .long 0, .long 0, .long 0, .long 0, .long 0, .long 0, .ref b55, .ref b56, .ref b57, .ref b58, .ref b59, .long 0, .ref b61, .ref b62, .ref b63, .ref b64, .ref b65, .ref b66, .ref b67, .int (-1), .ref b69, .int 0, .int 0, .ref b72, .int 0, .ref b74, .long 0, .int 0, .int 0]))]) [0] (by decide) rfl
  refine go_i (k1 := 0) (n1 := 0) (wr := []) [0] [] (rn_V (As := [.ref sq_8]) (rest := []) (c_X16_is_q l D ct mm b0 b2 b3 b12 b14 b16 b17 b20 b21 b22 b24 b26 b28 b30 b31 b33 b34 b39 b40 b41 b42 b43 b44 b45 b55 b56 b57 b58 b59 b61 b62 b63 b64 b65 b66 b67 b69 b72 b74 sq_8  _) (cb_of (n := 1) hn mw_1962 mw_13 mw_1959 mhX16_is ⟨Nat.le_of_ble_eq_true rfl, Nat.le_of_ble_eq_true rfl⟩) hx hb hml hown hn hK hPc hDc mw_1961 mw_s186 (ci := 16) (q0 := 0) rfl rfl rfl rfl hl.1 (Nat.le_of_ble_eq_true rfl) dX16_readAtom_66 ⟨(Nat.le_of_ble_eq_true rfl), (Nat.le_of_ble_eq_true rfl)⟩) hP hD hS hA rfl rfl (by decide) (by decide) (Nat.le_of_ble_eq_true rfl) (Nat.le_of_ble_eq_true rfl) (fun r_9 u_10 H locs hp_11 hP hD hS => ?_)
  have hr_9 := hp_11
  rw [show r_9 = 0 from hr_9]
  have hP : va_P D vwCl [(mm, .inr (16, [.ref b0, .int 0, .ref b2, .ref b3, .int 0, .int 0, .int 0, .int 0, .int 0, .int 0, .int 0, .int (-1), .ref b12, .int 0, .ref b14, .int 0, .ref b16, .ref b17, .int 0, .int 0, .ref b20, .ref b21, .ref b22, .int 0, .ref b24, .int 0, .ref b26, .int 0, .ref b28, .int 0, .ref b30, .ref b31, .int 0, .ref b33, .ref b34, .int 0, .int 0, .int 0, .int 0, .ref b39, .ref b40, .ref b41, .ref b42, .ref b43, .ref b44, .ref b45, .int (-1), .long 0, .long 0, .long 0, .long 0, .long 0, .long 0, .long 0, .long 0, .ref b55, .ref b56, .ref b57, .ref b58, .ref b59, .long 0, .ref b61, .ref b62, .ref b63, .ref b64, .ref b65, .ref b66, .ref b67, .int (-1), .ref b69, .int 0, .int 0, .ref b72, .int 0, .ref b74, .long 0, .int 0, .int 0]))] _ := hP
  have hD : va_D A [(mm, .inr (16, [.ref b0, .int 0, .ref b2, .ref b3, .int 0, .int 0, .int 0, .int 0, .int 0, .int 0, .int 0, .int (-1), .ref b12, .int 0, .ref b14, .int 0, .ref b16, .ref b17, .int 0, .int 0, .ref b20, .ref b21, .ref b22, .int 0, .ref b24, .int 0, .ref b26, .int 0, .ref b28, .int 0, .ref b30, .ref b31, .int 0, .ref b33, .ref b34, .int 0, .int 0, .int 0, .int 0, .ref b39, .ref b40, .ref b41, .ref b42, .ref b43, .ref b44, .ref b45, .int (-1), .long 0, .long 0, .long 0, .long 0, .long 0, .long 0, .long 0, .long 0, .ref b55, .ref b56, .ref b57, .ref b58, .ref b59, .long 0, .ref b61, .ref b62, .ref b63, .ref b64, .ref b65, .ref b66, .ref b67, .int (-1), .ref b69, .int 0, .int 0, .ref b72, .int 0, .ref b74, .long 0, .int 0, .int 0]))] := hD
  refine lv_if_eq (tgt := 111) hx hb dX16_readAtom_69 (by decide) (fun c_12 => ?_) (fun c_12 => absurd (by decide) c_12)
  refine lv_aload_n hx hb dX16_readAtom_111 rfl (lv_at hl 0 rfl) ?_
  refine va_get (D := D) (ci := 16) (v := .int (-1)) (C := RX16) (T := TX16) (N := 78) hx hb (htX16 hn) (fun _ h => h) hown hK hP 0 rfl rfl 11 (by decide) (hn.get mw_1550 rfl) (fun _ h9 => h9) rfl dX16_readAtom_112 ?_
  refine lv_if_ge (tgt := 145) hx hb dX16_readAtom_115 (by decide) (fun c_13 => absurd c_13 (by decide)) (fun c_13 => ?_)
  refine lv_aload_n hx hb dX16_readAtom_118 rfl (lv_at hl 0 rfl) ?_
  obtain ⟨sq_14, hsq_14⟩ := hn.2.1 _ _ _ mw_x2073
  refine va_ldcwS hx hb hown hsq_14 dX16_readAtom_119 ?_
  have hPc := hP.sub (ws' := [(mm, .inr (16, [.ref b0, .int 0, .ref b2, .ref b3, .int 0, .int 0, .int 0, .int 0, .int 0, .int 0, .int 0, .int (-1), .ref b12, .int 0, .ref b14, .int 0, .ref b16, .ref b17, .int 0, .int 0, .ref b20, .ref b21, .ref b22, .int 0, .ref b24, .int 0, .ref b26, .int 0, .ref b28, .int 0, .ref b30, .ref b31, .int 0, .ref b33, .ref b34, .int 0, .int 0, .int 0, .int 0, .ref b39, .ref b40, .ref b41, .ref b42, .ref b43, .ref b44, .ref b45, .int (-1), .long 0, .long 0, .long 0, .long 0, .long 0, .long 0, .long 0, .long 0, .ref b55, .ref b56, .ref b57, .ref b58, .ref b59, .long 0, .ref b61, .ref b62, .ref b63, .ref b64, .ref b65, .ref b66, .ref b67, .int (-1), .ref b69, .int 0, .int 0, .ref b72, .int 0, .ref b74, .long 0, .int 0, .int 0]))]) [0] rfl
  have hDc := hD.sub (ws' := [(mm, .inr (16, [.ref b0, .int 0, .ref b2, .ref b3, .int 0, .int 0, .int 0, .int 0, .int 0, .int 0, .int 0, .int (-1), .ref b12, .int 0, .ref b14, .int 0, .ref b16, .ref b17, .int 0, .int 0, .ref b20, .ref b21, .ref b22, .int 0, .ref b24, .int 0, .ref b26, .int 0, .ref b28, .int 0, .ref b30, .ref b31, .int 0, .ref b33, .ref b34, .int 0, .int 0, .int 0, .int 0, .ref b39, .ref b40, .ref b41, .ref b42, .ref b43, .ref b44, .ref b45, .int (-1), .long 0, .long 0, .long 0, .long 0, .long 0, .long 0, .long 0, .long 0, .ref b55, .ref b56, .ref b57, .ref b58, .ref b59, .long 0, .ref b61, .ref b62, .ref b63, .ref b64, .ref b65, .ref b66, .ref b67, .int (-1), .ref b69, .int 0, .int 0, .ref b72, .int 0, .ref b74, .long 0, .int 0, .int 0]))]) [0] (by decide) rfl
  refine go_i (k1 := 0) (n1 := 0) (wr := []) [0] [] (rn_V (As := [.ref sq_14]) (rest := []) (c_X16_is_q l D ct mm b0 b2 b3 b12 b14 b16 b17 b20 b21 b22 b24 b26 b28 b30 b31 b33 b34 b39 b40 b41 b42 b43 b44 b45 b55 b56 b57 b58 b59 b61 b62 b63 b64 b65 b66 b67 b69 b72 b74 sq_14  _) (cb_of (n := 1) hn mw_1962 mw_13 mw_1959 mhX16_is ⟨Nat.le_of_ble_eq_true rfl, Nat.le_of_ble_eq_true rfl⟩) hx hb hml hown hn hK hPc hDc mw_1961 mw_s186 (ci := 16) (q0 := 0) rfl rfl rfl rfl hl.1 (Nat.le_of_ble_eq_true rfl) dX16_readAtom_122 ⟨(Nat.le_of_ble_eq_true rfl), (Nat.le_of_ble_eq_true rfl)⟩) hP hD hS hA rfl rfl (by decide) (by decide) (Nat.le_of_ble_eq_true rfl) (Nat.le_of_ble_eq_true rfl) (fun r_15 u_16 H locs hp_17 hP hD hS => ?_)
  have hr_15 := hp_17
  rw [show r_15 = 0 from hr_15]
  have hP : va_P D vwCl [(mm, .inr (16, [.ref b0, .int 0, .ref b2, .ref b3, .int 0, .int 0, .int 0, .int 0, .int 0, .int 0, .int 0, .int (-1), .ref b12, .int 0, .ref b14, .int 0, .ref b16, .ref b17, .int 0, .int 0, .ref b20, .ref b21, .ref b22, .int 0, .ref b24, .int 0, .ref b26, .int 0, .ref b28, .int 0, .ref b30, .ref b31, .int 0, .ref b33, .ref b34, .int 0, .int 0, .int 0, .int 0, .ref b39, .ref b40, .ref b41, .ref b42, .ref b43, .ref b44, .ref b45, .int (-1), .long 0, .long 0, .long 0, .long 0, .long 0, .long 0, .long 0, .long 0, .ref b55, .ref b56, .ref b57, .ref b58, .ref b59, .long 0, .ref b61, .ref b62, .ref b63, .ref b64, .ref b65, .ref b66, .ref b67, .int (-1), .ref b69, .int 0, .int 0, .ref b72, .int 0, .ref b74, .long 0, .int 0, .int 0]))] _ := hP
  have hD : va_D A [(mm, .inr (16, [.ref b0, .int 0, .ref b2, .ref b3, .int 0, .int 0, .int 0, .int 0, .int 0, .int 0, .int 0, .int (-1), .ref b12, .int 0, .ref b14, .int 0, .ref b16, .ref b17, .int 0, .int 0, .ref b20, .ref b21, .ref b22, .int 0, .ref b24, .int 0, .ref b26, .int 0, .ref b28, .int 0, .ref b30, .ref b31, .int 0, .ref b33, .ref b34, .int 0, .int 0, .int 0, .int 0, .ref b39, .ref b40, .ref b41, .ref b42, .ref b43, .ref b44, .ref b45, .int (-1), .long 0, .long 0, .long 0, .long 0, .long 0, .long 0, .long 0, .long 0, .ref b55, .ref b56, .ref b57, .ref b58, .ref b59, .long 0, .ref b61, .ref b62, .ref b63, .ref b64, .ref b65, .ref b66, .ref b67, .int (-1), .ref b69, .int 0, .int 0, .ref b72, .int 0, .ref b74, .long 0, .int 0, .int 0]))] := hD
  refine lv_if_eq (tgt := 145) hx hb dX16_readAtom_125 (by decide) (fun c_18 => ?_) (fun c_18 => absurd (by decide) c_18)
  refine lv_aload_n hx hb dX16_readAtom_145 rfl (lv_at hl 0 rfl) ?_
  refine va_get (D := D) (ci := 16) (v := .int (-1)) (C := RX16) (T := TX16) (N := 78) hx hb (htX16 hn) (fun _ h => h) hown hK hP 0 rfl rfl 11 (by decide) (hn.get mw_1550 rfl) (fun _ h9 => h9) rfl dX16_readAtom_146 ?_
  refine lv_if_lt (tgt := 159) hx hb dX16_readAtom_149 (by decide) (fun c_19 => ?_) (fun c_19 => absurd (by decide) c_19)
  refine lv_aload_n hx hb dX16_readAtom_159 rfl (lv_at hl 0 rfl) ?_
  have hPc := hP.sub (ws' := [(mm, .inr (16, [.ref b0, .int 0, .ref b2, .ref b3, .int 0, .int 0, .int 0, .int 0, .int 0, .int 0, .int 0, .int (-1), .ref b12, .int 0, .ref b14, .int 0, .ref b16, .ref b17, .int 0, .int 0, .ref b20, .ref b21, .ref b22, .int 0, .ref b24, .int 0, .ref b26, .int 0, .ref b28, .int 0, .ref b30, .ref b31, .int 0, .ref b33, .ref b34, .int 0, .int 0, .int 0, .int 0, .ref b39, .ref b40, .ref b41, .ref b42, .ref b43, .ref b44, .ref b45, .int (-1), .long 0, .long 0, .long 0, .long 0, .long 0, .long 0, .long 0, .long 0, .ref b55, .ref b56, .ref b57, .ref b58, .ref b59, .long 0, .ref b61, .ref b62, .ref b63, .ref b64, .ref b65, .ref b66, .ref b67, .int (-1), .ref b69, .int 0, .int 0, .ref b72, .int 0, .ref b74, .long 0, .int 0, .int 0]))]) [0] rfl
  have hDc := hD.sub (ws' := [(mm, .inr (16, [.ref b0, .int 0, .ref b2, .ref b3, .int 0, .int 0, .int 0, .int 0, .int 0, .int 0, .int 0, .int (-1), .ref b12, .int 0, .ref b14, .int 0, .ref b16, .ref b17, .int 0, .int 0, .ref b20, .ref b21, .ref b22, .int 0, .ref b24, .int 0, .ref b26, .int 0, .ref b28, .int 0, .ref b30, .ref b31, .int 0, .ref b33, .ref b34, .int 0, .int 0, .int 0, .int 0, .ref b39, .ref b40, .ref b41, .ref b42, .ref b43, .ref b44, .ref b45, .int (-1), .long 0, .long 0, .long 0, .long 0, .long 0, .long 0, .long 0, .long 0, .ref b55, .ref b56, .ref b57, .ref b58, .ref b59, .long 0, .ref b61, .ref b62, .ref b63, .ref b64, .ref b65, .ref b66, .ref b67, .int (-1), .ref b69, .int 0, .int 0, .ref b72, .int 0, .ref b74, .long 0, .int 0, .int 0]))]) [0] (by decide) rfl
  refine go_i (k1 := 0) (n1 := 0) (wr := []) [0] [] (rn_V (As := []) (rest := []) (c_X16_accessOf_q l D ct mm b0 b2 b3 b12 b14 b16 b17 b20 b21 b22 b24 b26 b28 b30 b31 b33 b34 b39 b40 b41 b42 b43 b44 b45 b55 b56 b57 b58 b59 b61 b62 b63 b64 b65 b66 b67 b69 b72 b74  _) (cb_of (n := 0) hn mw_2011 mw_13 mw_2008 mhX16_accessOf ⟨Nat.le_of_ble_eq_true rfl, Nat.le_of_ble_eq_true rfl⟩) hx hb hml hown hn hK hPc hDc mw_2010 mw_s189 (ci := 16) (q0 := 0) rfl rfl rfl rfl hl.1 (Nat.le_of_ble_eq_true rfl) dX16_readAtom_160 ⟨(Nat.le_of_ble_eq_true rfl), (Nat.le_of_ble_eq_true rfl)⟩) hP hD hS hA rfl rfl (by decide) (by decide) (Nat.le_of_ble_eq_true rfl) (Nat.le_of_ble_eq_true rfl) (fun r_20 u_21 H locs hp_22 hP hD hS => ?_)
  have hr_20 := hp_22
  rw [show r_20 = (-1) from hr_20]
  have hP : va_P D vwCl [(mm, .inr (16, [.ref b0, .int 0, .ref b2, .ref b3, .int 0, .int 0, .int 0, .int 0, .int 0, .int 0, .int 0, .int (-1), .ref b12, .int 0, .ref b14, .int 0, .ref b16, .ref b17, .int 0, .int 0, .ref b20, .ref b21, .ref b22, .int 0, .ref b24, .int 0, .ref b26, .int 0, .ref b28, .int 0, .ref b30, .ref b31, .int 0, .ref b33, .ref b34, .int 0, .int 0, .int 0, .int 0, .ref b39, .ref b40, .ref b41, .ref b42, .ref b43, .ref b44, .ref b45, .int (-1), .long 0, .long 0, .long 0, .long 0, .long 0, .long 0, .long 0, .long 0, .ref b55, .ref b56, .ref b57, .ref b58, .ref b59, .long 0, .ref b61, .ref b62, .ref b63, .ref b64, .ref b65, .ref b66, .ref b67, .int (-1), .ref b69, .int 0, .int 0, .ref b72, .int 0, .ref b74, .long 0, .int 0, .int 0]))] _ := hP
  have hD : va_D A [(mm, .inr (16, [.ref b0, .int 0, .ref b2, .ref b3, .int 0, .int 0, .int 0, .int 0, .int 0, .int 0, .int 0, .int (-1), .ref b12, .int 0, .ref b14, .int 0, .ref b16, .ref b17, .int 0, .int 0, .ref b20, .ref b21, .ref b22, .int 0, .ref b24, .int 0, .ref b26, .int 0, .ref b28, .int 0, .ref b30, .ref b31, .int 0, .ref b33, .ref b34, .int 0, .int 0, .int 0, .int 0, .ref b39, .ref b40, .ref b41, .ref b42, .ref b43, .ref b44, .ref b45, .int (-1), .long 0, .long 0, .long 0, .long 0, .long 0, .long 0, .long 0, .long 0, .ref b55, .ref b56, .ref b57, .ref b58, .ref b59, .long 0, .ref b61, .ref b62, .ref b63, .ref b64, .ref b65, .ref b66, .ref b67, .int (-1), .ref b69, .int 0, .int 0, .ref b72, .int 0, .ref b74, .long 0, .int 0, .int 0]))] := hD
  refine lv_istore_n (lv' := [(2, .int (-1)), (0, .ref mm), (1, .int 0)]) hx hb dX16_readAtom_163 rfl hl (by decide) rfl (fun ls hl => ?_)
  refine lv_iload_n hx hb dX16_readAtom_164 rfl (lv_at hl 0 rfl) ?_
  refine lv_if_ge (tgt := 180) hx hb dX16_readAtom_165 (by decide) (fun c_23 => absurd c_23 (by decide)) (fun c_23 => ?_)
  refine lv_aload_n hx hb dX16_readAtom_168 rfl (lv_at hl 1 rfl) ?_
  refine lv_lconst (v := 0) hx hb dX16_readAtom_169 (by decide) ?_
  refine lv_ldc2 (v := 4294967295) hx hb hown (hn.get mw_1820 rfl) dX16_readAtom_170 ?_
  have hPc := hP.sub (ws' := [(mm, .inr (16, [.ref b0, .int 0, .ref b2, .ref b3, .int 0, .int 0, .int 0, .int 0, .int 0, .int 0, .int 0, .int (-1), .ref b12, .int 0, .ref b14, .int 0, .ref b16, .ref b17, .int 0, .int 0, .ref b20, .ref b21, .ref b22, .int 0, .ref b24, .int 0, .ref b26, .int 0, .ref b28, .int 0, .ref b30, .ref b31, .int 0, .ref b33, .ref b34, .int 0, .int 0, .int 0, .int 0, .ref b39, .ref b40, .ref b41, .ref b42, .ref b43, .ref b44, .ref b45, .int (-1), .long 0, .long 0, .long 0, .long 0, .long 0, .long 0, .long 0, .long 0, .ref b55, .ref b56, .ref b57, .ref b58, .ref b59, .long 0, .ref b61, .ref b62, .ref b63, .ref b64, .ref b65, .ref b66, .ref b67, .int (-1), .ref b69, .int 0, .int 0, .ref b72, .int 0, .ref b74, .long 0, .int 0, .int 0]))]) [0] rfl
  have hDc := hD.sub (ws' := [(mm, .inr (16, [.ref b0, .int 0, .ref b2, .ref b3, .int 0, .int 0, .int 0, .int 0, .int 0, .int 0, .int 0, .int (-1), .ref b12, .int 0, .ref b14, .int 0, .ref b16, .ref b17, .int 0, .int 0, .ref b20, .ref b21, .ref b22, .int 0, .ref b24, .int 0, .ref b26, .int 0, .ref b28, .int 0, .ref b30, .ref b31, .int 0, .ref b33, .ref b34, .int 0, .int 0, .int 0, .int 0, .ref b39, .ref b40, .ref b41, .ref b42, .ref b43, .ref b44, .ref b45, .int (-1), .long 0, .long 0, .long 0, .long 0, .long 0, .long 0, .long 0, .long 0, .ref b55, .ref b56, .ref b57, .ref b58, .ref b59, .long 0, .ref b61, .ref b62, .ref b63, .ref b64, .ref b65, .ref b66, .ref b67, .int (-1), .ref b69, .int 0, .int 0, .ref b72, .int 0, .ref b74, .long 0, .int 0, .int 0]))]) [0] (by decide) rfl
  have hFc := va_free (wc := [(mm, .inr (16, [.ref b0, .int 0, .ref b2, .ref b3, .int 0, .int 0, .int 0, .int 0, .int 0, .int 0, .int 0, .int (-1), .ref b12, .int 0, .ref b14, .int 0, .ref b16, .ref b17, .int 0, .int 0, .ref b20, .ref b21, .ref b22, .int 0, .ref b24, .int 0, .ref b26, .int 0, .ref b28, .int 0, .ref b30, .ref b31, .int 0, .ref b33, .ref b34, .int 0, .int 0, .int 0, .int 0, .ref b39, .ref b40, .ref b41, .ref b42, .ref b43, .ref b44, .ref b45, .int (-1), .long 0, .long 0, .long 0, .long 0, .long 0, .long 0, .long 0, .long 0, .ref b55, .ref b56, .ref b57, .ref b58, .ref b59, .long 0, .ref b61, .ref b62, .ref b63, .ref b64, .ref b65, .ref b66, .ref b67, .int (-1), .ref b69, .int 0, .int 0, .ref b72, .int 0, .ref b74, .long 0, .int 0, .int 0]))]) hD hS hA [0] rfl
  refine go_x (k1 := 1) (n1 := 7) (wr := []) (w1 := [(mm, .inr (16, [.ref b0, .int 0, .ref b2, .ref b3, .int 0, .int 0, .int 0, .int 0, .int 0, .int 0, .int 0, .int (-1), .ref b12, .int 0, .ref b14, .int 0, .ref b16, .ref b17, .int 0, .int 0, .ref b20, .ref b21, .ref b22, .int 0, .ref b24, .int 0, .ref b26, .int 0, .ref b28, .int 0, .ref b30, .ref b31, .int 0, .ref b33, .ref b34, .int 0, .int 0, .int 0, .int 0, .ref b39, .ref b40, .ref b41, .ref b42, .ref b43, .ref b44, .ref b45, .int (-1), .long 0, .long 0, .long 0, .long 0, .long 0, .long 0, .long 0, .long 0, .ref b55, .ref b56, .ref b57, .ref b58, .ref b59, .long 0, .ref b61, .ref b62, .ref b63, .ref b64, .ref b65, .ref b66, .ref b67, .int (-1), .ref b69, .int 0, .int 0, .ref b72, .int 0, .ref b74, .long 0, .int 0, .int 0]))]) [0] [] (rx_V (As := [.long 0, .long 4294967295]) (rest := []) (c_X16_wantNumber_x l hst D ct mm b0 b2 b3 b12 b14 b16 b17 b20 b21 b22 b24 b26 b28 b30 b31 b33 b34 b39 b40 b41 b42 b43 b44 b45 b55 b56 b57 b58 b59 b61 b62 b63 b64 b65 b66 b67 b69 b72 b74  _) (cb_of (n := 2) hn mw_2077 mw_13 mw_2074 mhX16_wantNumber ⟨Nat.le_of_ble_eq_true rfl, Nat.le_of_ble_eq_true rfl⟩) hx hb hml hown hn hK hPc hDc hZ hS hFc mw_2076 mw_s196 (ci := 16) (q0 := 0) rfl rfl rfl rfl hl.1 (Nat.le_of_ble_eq_true rfl) dX16_readAtom_173 ⟨(Nat.le_of_ble_eq_true rfl), (Nat.le_of_ble_eq_true rfl)⟩) hP hD hS hA rfl rfl (by decide) (by decide) (Nat.le_of_ble_eq_true rfl) (Nat.le_of_ble_eq_true rfl) (fun xq_24 xf_25 H locs hx7 hx6 hP hD hS => ?_)
  have hP : va_P D vwCl [(mm, .inr (16, [.ref b0, .int 0, .ref b2, .ref b3, .int 0, .int 0, .int 0, .int 0, .int 0, .int 0, .int 0, .int (-1), .ref b12, .int 0, .ref b14, .int 0, .ref b16, .ref b17, .int 0, .int 0, .ref b20, .ref b21, .ref b22, .int 0, .ref b24, .int 0, .ref b26, .int 0, .ref b28, .int 0, .ref b30, .ref b31, .int 0, .ref b33, .ref b34, .int 0, .int 0, .int 0, .int 0, .ref b39, .ref b40, .ref b41, .ref b42, .ref b43, .ref b44, .ref b45, .int (-1), .long 0, .long 0, .long 0, .long 0, .long 0, .long 0, .long 0, .long 0, .ref b55, .ref b56, .ref b57, .ref b58, .ref b59, .long 0, .ref b61, .ref b62, .ref b63, .ref b64, .ref b65, .ref b66, .ref b67, .int (-1), .ref b69, .int 0, .int 0, .ref b72, .int 0, .ref b74, .long 0, .int 0, .int 0])), (xq_24, .inr (15, xf_25))] _ := hP
  have hD : va_D A [(mm, .inr (16, [.ref b0, .int 0, .ref b2, .ref b3, .int 0, .int 0, .int 0, .int 0, .int 0, .int 0, .int 0, .int (-1), .ref b12, .int 0, .ref b14, .int 0, .ref b16, .ref b17, .int 0, .int 0, .ref b20, .ref b21, .ref b22, .int 0, .ref b24, .int 0, .ref b26, .int 0, .ref b28, .int 0, .ref b30, .ref b31, .int 0, .ref b33, .ref b34, .int 0, .int 0, .int 0, .int 0, .ref b39, .ref b40, .ref b41, .ref b42, .ref b43, .ref b44, .ref b45, .int (-1), .long 0, .long 0, .long 0, .long 0, .long 0, .long 0, .long 0, .long 0, .ref b55, .ref b56, .ref b57, .ref b58, .ref b59, .long 0, .ref b61, .ref b62, .ref b63, .ref b64, .ref b65, .ref b66, .ref b67, .int (-1), .ref b69, .int 0, .int 0, .ref b72, .int 0, .ref b74, .long 0, .int 0, .int 0])), (xq_24, .inr (15, xf_25))] := hD
  exact x_out htab hlocks hK hP hD hS hx7 hx6 [0, 1] rfl (by decide) rfl (kq := 1) rfl (Nat.le_of_ble_eq_true rfl) (Nat.le_of_ble_eq_true rfl)
set_option maxHeartbeats 4000000 in
set_option maxRecDepth 100000 in
theorem c_X16_readProduct_x (l : Launch) (hst : l.stackTraces = false) (D : va_G) (ct : Nat → ClassId) (mm : Nat) (b0 : Nat) (b2 : Nat) (b3 : Nat) (b12 : Nat) (b14 : Nat) (b16 : Nat) (b17 : Nat) (b20 : Nat) (b21 : Nat) (b22 : Nat) (b24 : Nat) (b26 : Nat) (b28 : Nat) (b30 : Nat) (b31 : Nat) (b33 : Nat) (b34 : Nat) (b39 : Nat) (b40 : Nat) (b41 : Nat) (b42 : Nat) (b43 : Nat) (b44 : Nat) (b45 : Nat) (b55 : Nat) (b56 : Nat) (b57 : Nat) (b58 : Nat) (b59 : Nat) (b61 : Nat) (b62 : Nat) (b63 : Nat) (b64 : Nat) (b65 : Nat) (b66 : Nat) (b67 : Nat) (b69 : Nat) (b72 : Nat) (b74 : Nat)  : KX l yX16_readProduct cX16_readProduct 3 (some (.object "FilterForgeModel$Sum")) 10 269 D ct [.ref mm] [(mm, .inr (16, [.ref b0, .int 0, .ref b2, .ref b3, .int 0, .int 0, .int 0, .int 0, .int 0, .int 0, .int 0, .int (-1), .ref b12, .int 0, .ref b14, .int 0, .ref b16, .ref b17, .int 0, .int 0, .ref b20, .ref b21, .ref b22, .int 0, .ref b24, .int 0, .ref b26, .int 0, .ref b28, .int 0, .ref b30, .ref b31, .int 0, .ref b33, .ref b34, .int 0, .int 0, .int 0, .int 0, .ref b39, .ref b40, .ref b41, .ref b42, .ref b43, .ref b44, .ref b45, .int (-1), .long 0, .long 0, .long 0, .long 0, .long 0, .long 0, .long 0, .long 0, .ref b55, .ref b56, .ref b57, .ref b58, .ref b59, .long 0, .ref b61, .ref b62, .ref b63, .ref b64, .ref b65, .ref b66, .ref b67, .int (-1), .ref b69, .int 0, .int 0, .ref b72, .int 0, .ref b74, .long 0, .int 0, .int 0]))] 1 7 [(mm, .inr (16, [.ref b0, .int 0, .ref b2, .ref b3, .int 0, .int 0, .int 0, .int 0, .int 0, .int 0, .int 0, .int (-1), .ref b12, .int 0, .ref b14, .int 0, .ref b16, .ref b17, .int 0, .int 0, .ref b20, .ref b21, .ref b22, .int 0, .ref b24, .int 0, .ref b26, .int 0, .ref b28, .int 0, .ref b30, .ref b31, .int 0, .ref b33, .ref b34, .int 0, .int 0, .int 0, .int 0, .ref b39, .ref b40, .ref b41, .ref b42, .ref b43, .ref b44, .ref b45, .int (-1), .long 0, .long 0, .long 0, .long 0, .long 0, .long 0, .long 0, .long 0, .ref b55, .ref b56, .ref b57, .ref b58, .ref b59, .long 0, .ref b61, .ref b62, .ref b63, .ref b64, .ref b65, .ref b66, .ref b67, .int (-1), .ref b69, .int 0, .int 0, .ref b72, .int 0, .ref b74, .long 0, .int 0, .int 0]))] := by
  refine KX_of (by decide) (Nat.le_of_ble_eq_true rfl) (fun p e s m below meth c A C0 htab hZ hA hS hP hD ls hl => ?_)
  obtain ⟨hx, hb, hr, hown, hin, hml, hlocks, hn, hK⟩ := C0
  have hl : lv_has ls 3 [(0, .ref mm)] := hl
  refine lv_aload_n hx hb dX16_readProduct_0 rfl (lv_at hl 0 rfl) ?_
  refine lv_iconst (v := 0) hx hb dX16_readProduct_1 (by decide) ?_
  have hPc := hP.sub (ws' := [(mm, .inr (16, [.ref b0, .int 0, .ref b2, .ref b3, .int 0, .int 0, .int 0, .int 0, .int 0, .int 0, .int 0, .int (-1), .ref b12, .int 0, .ref b14, .int 0, .ref b16, .ref b17, .int 0, .int 0, .ref b20, .ref b21, .ref b22, .int 0, .ref b24, .int 0, .ref b26, .int 0, .ref b28, .int 0, .ref b30, .ref b31, .int 0, .ref b33, .ref b34, .int 0, .int 0, .int 0, .int 0, .ref b39, .ref b40, .ref b41, .ref b42, .ref b43, .ref b44, .ref b45, .int (-1), .long 0, .long 0, .long 0, .long 0, .long 0, .long 0, .long 0, .long 0, .ref b55, .ref b56, .ref b57, .ref b58, .ref b59, .long 0, .ref b61, .ref b62, .ref b63, .ref b64, .ref b65, .ref b66, .ref b67, .int (-1), .ref b69, .int 0, .int 0, .ref b72, .int 0, .ref b74, .long 0, .int 0, .int 0]))]) [0] rfl
  have hDc := hD.sub (ws' := [(mm, .inr (16, [.ref b0, .int 0, .ref b2, .ref b3, .int 0, .int 0, .int 0, .int 0, .int 0, .int 0, .int 0, .int (-1), .ref b12, .int 0, .ref b14, .int 0, .ref b16, .ref b17, .int 0, .int 0, .ref b20, .ref b21, .ref b22, .int 0, .ref b24, .int 0, .ref b26, .int 0, .ref b28, .int 0, .ref b30, .ref b31, .int 0, .ref b33, .ref b34, .int 0, .int 0, .int 0, .int 0, .ref b39, .ref b40, .ref b41, .ref b42, .ref b43, .ref b44, .ref b45, .int (-1), .long 0, .long 0, .long 0, .long 0, .long 0, .long 0, .long 0, .long 0, .ref b55, .ref b56, .ref b57, .ref b58, .ref b59, .long 0, .ref b61, .ref b62, .ref b63, .ref b64, .ref b65, .ref b66, .ref b67, .int (-1), .ref b69, .int 0, .int 0, .ref b72, .int 0, .ref b74, .long 0, .int 0, .int 0]))]) [0] (by decide) rfl
  have hFc := va_free (wc := [(mm, .inr (16, [.ref b0, .int 0, .ref b2, .ref b3, .int 0, .int 0, .int 0, .int 0, .int 0, .int 0, .int 0, .int (-1), .ref b12, .int 0, .ref b14, .int 0, .ref b16, .ref b17, .int 0, .int 0, .ref b20, .ref b21, .ref b22, .int 0, .ref b24, .int 0, .ref b26, .int 0, .ref b28, .int 0, .ref b30, .ref b31, .int 0, .ref b33, .ref b34, .int 0, .int 0, .int 0, .int 0, .ref b39, .ref b40, .ref b41, .ref b42, .ref b43, .ref b44, .ref b45, .int (-1), .long 0, .long 0, .long 0, .long 0, .long 0, .long 0, .long 0, .long 0, .ref b55, .ref b56, .ref b57, .ref b58, .ref b59, .long 0, .ref b61, .ref b62, .ref b63, .ref b64, .ref b65, .ref b66, .ref b67, .int (-1), .ref b69, .int 0, .int 0, .ref b72, .int 0, .ref b74, .long 0, .int 0, .int 0]))]) hD hS hA [0] rfl
  refine go_x (k1 := 1) (n1 := 7) (wr := []) (w1 := [(mm, .inr (16, [.ref b0, .int 0, .ref b2, .ref b3, .int 0, .int 0, .int 0, .int 0, .int 0, .int 0, .int 0, .int (-1), .ref b12, .int 0, .ref b14, .int 0, .ref b16, .ref b17, .int 0, .int 0, .ref b20, .ref b21, .ref b22, .int 0, .ref b24, .int 0, .ref b26, .int 0, .ref b28, .int 0, .ref b30, .ref b31, .int 0, .ref b33, .ref b34, .int 0, .int 0, .int 0, .int 0, .ref b39, .ref b40, .ref b41, .ref b42, .ref b43, .ref b44, .ref b45, .int (-1), .long 0, .long 0, .long 0, .long 0, .long 0, .long 0, .long 0, .long 0, .ref b55, .ref b56, .ref b57, .ref b58, .ref b59, .long 0, .ref b61, .ref b62, .ref b63, .ref b64, .ref b65, .ref b66, .ref b67, .int (-1), .ref b69, .int 0, .int 0, .ref b72, .int 0, .ref b74, .long 0, .int 0, .int 0]))]) [0] [] (rx_V (As := [.int 0]) (rest := []) (c_X16_readAtom_x l hst D ct mm b0 b2 b3 b12 b14 b16 b17 b20 b21 b22 b24 b26 b28 b30 b31 b33 b34 b39 b40 b41 b42 b43 b44 b45 b55 b56 b57 b58 b59 b61 b62 b63 b64 b65 b66 b67 b69 b72 b74  _) (cb_of (n := 1) hn mw_2039 mw_13 mw_2036 mhX16_readAtom ⟨Nat.le_of_ble_eq_true rfl, Nat.le_of_ble_eq_true rfl⟩) hx hb hml hown hn hK hPc hDc hZ hS hFc mw_2038 mw_s194 (ci := 16) (q0 := 0) rfl rfl rfl rfl hl.1 (Nat.le_of_ble_eq_true rfl) dX16_readProduct_2 ⟨(Nat.le_of_ble_eq_true rfl), (Nat.le_of_ble_eq_true rfl)⟩) hP hD hS hA rfl rfl (by decide) (by decide) (Nat.le_of_ble_eq_true rfl) (Nat.le_of_ble_eq_true rfl) (fun xq_1 xf_2 H locs hx7 hx6 hP hD hS => ?_)
  have hP : va_P D vwCl [(mm, .inr (16, [.ref b0, .int 0, .ref b2, .ref b3, .int 0, .int 0, .int 0, .int 0, .int 0, .int 0, .int 0, .int (-1), .ref b12, .int 0, .ref b14, .int 0, .ref b16, .ref b17, .int 0, .int 0, .ref b20, .ref b21, .ref b22, .int 0, .ref b24, .int 0, .ref b26, .int 0, .ref b28, .int 0, .ref b30, .ref b31, .int 0, .ref b33, .ref b34, .int 0, .int 0, .int 0, .int 0, .ref b39, .ref b40, .ref b41, .ref b42, .ref b43, .ref b44, .ref b45, .int (-1), .long 0, .long 0, .long 0, .long 0, .long 0, .long 0, .long 0, .long 0, .ref b55, .ref b56, .ref b57, .ref b58, .ref b59, .long 0, .ref b61, .ref b62, .ref b63, .ref b64, .ref b65, .ref b66, .ref b67, .int (-1), .ref b69, .int 0, .int 0, .ref b72, .int 0, .ref b74, .long 0, .int 0, .int 0])), (xq_1, .inr (15, xf_2))] _ := hP
  have hD : va_D A [(mm, .inr (16, [.ref b0, .int 0, .ref b2, .ref b3, .int 0, .int 0, .int 0, .int 0, .int 0, .int 0, .int 0, .int (-1), .ref b12, .int 0, .ref b14, .int 0, .ref b16, .ref b17, .int 0, .int 0, .ref b20, .ref b21, .ref b22, .int 0, .ref b24, .int 0, .ref b26, .int 0, .ref b28, .int 0, .ref b30, .ref b31, .int 0, .ref b33, .ref b34, .int 0, .int 0, .int 0, .int 0, .ref b39, .ref b40, .ref b41, .ref b42, .ref b43, .ref b44, .ref b45, .int (-1), .long 0, .long 0, .long 0, .long 0, .long 0, .long 0, .long 0, .long 0, .ref b55, .ref b56, .ref b57, .ref b58, .ref b59, .long 0, .ref b61, .ref b62, .ref b63, .ref b64, .ref b65, .ref b66, .ref b67, .int (-1), .ref b69, .int 0, .int 0, .ref b72, .int 0, .ref b74, .long 0, .int 0, .int 0])), (xq_1, .inr (15, xf_2))] := hD
  exact x_out htab hlocks hK hP hD hS hx7 hx6 [0, 1] rfl (by decide) rfl (kq := 1) rfl (Nat.le_of_ble_eq_true rfl) (Nat.le_of_ble_eq_true rfl)
set_option maxHeartbeats 4000000 in
set_option maxRecDepth 100000 in
theorem c_X16_readSum_x (l : Launch) (hst : l.stackTraces = false) (D : va_G) (ct : Nat → ClassId) (mm : Nat) (b0 : Nat) (b2 : Nat) (b3 : Nat) (b12 : Nat) (b14 : Nat) (b16 : Nat) (b17 : Nat) (b20 : Nat) (b21 : Nat) (b22 : Nat) (b24 : Nat) (b26 : Nat) (b28 : Nat) (b30 : Nat) (b31 : Nat) (b33 : Nat) (b34 : Nat) (b39 : Nat) (b40 : Nat) (b41 : Nat) (b42 : Nat) (b43 : Nat) (b44 : Nat) (b45 : Nat) (b55 : Nat) (b56 : Nat) (b57 : Nat) (b58 : Nat) (b59 : Nat) (b61 : Nat) (b62 : Nat) (b63 : Nat) (b64 : Nat) (b65 : Nat) (b66 : Nat) (b67 : Nat) (b69 : Nat) (b72 : Nat) (b74 : Nat)  : KX l yX16_readSum cX16_readSum 3 (some (.object "FilterForgeModel$Sum")) 11 291 D ct [.ref mm] [(mm, .inr (16, [.ref b0, .int 0, .ref b2, .ref b3, .int 0, .int 0, .int 0, .int 0, .int 0, .int 0, .int 0, .int (-1), .ref b12, .int 0, .ref b14, .int 0, .ref b16, .ref b17, .int 0, .int 0, .ref b20, .ref b21, .ref b22, .int 0, .ref b24, .int 0, .ref b26, .int 0, .ref b28, .int 0, .ref b30, .ref b31, .int 0, .ref b33, .ref b34, .int 0, .int 0, .int 0, .int 0, .ref b39, .ref b40, .ref b41, .ref b42, .ref b43, .ref b44, .ref b45, .int (-1), .long 0, .long 0, .long 0, .long 0, .long 0, .long 0, .long 0, .long 0, .ref b55, .ref b56, .ref b57, .ref b58, .ref b59, .long 0, .ref b61, .ref b62, .ref b63, .ref b64, .ref b65, .ref b66, .ref b67, .int (-1), .ref b69, .int 0, .int 0, .ref b72, .int 0, .ref b74, .long 0, .int 0, .int 0]))] 1 7 [(mm, .inr (16, [.ref b0, .int 0, .ref b2, .ref b3, .int 0, .int 0, .int 0, .int 0, .int 0, .int 0, .int 0, .int (-1), .ref b12, .int 0, .ref b14, .int 0, .ref b16, .ref b17, .int 0, .int 0, .ref b20, .ref b21, .ref b22, .int 0, .ref b24, .int 0, .ref b26, .int 0, .ref b28, .int 0, .ref b30, .ref b31, .int 0, .ref b33, .ref b34, .int 0, .int 0, .int 0, .int 0, .ref b39, .ref b40, .ref b41, .ref b42, .ref b43, .ref b44, .ref b45, .int (-1), .long 0, .long 0, .long 0, .long 0, .long 0, .long 0, .long 0, .long 0, .ref b55, .ref b56, .ref b57, .ref b58, .ref b59, .long 0, .ref b61, .ref b62, .ref b63, .ref b64, .ref b65, .ref b66, .ref b67, .int (-1), .ref b69, .int 0, .int 0, .ref b72, .int 0, .ref b74, .long 0, .int 0, .int 0]))] := by
  refine KX_of (by decide) (Nat.le_of_ble_eq_true rfl) (fun p e s m below meth c A C0 htab hZ hA hS hP hD ls hl => ?_)
  obtain ⟨hx, hb, hr, hown, hin, hml, hlocks, hn, hK⟩ := C0
  have hl : lv_has ls 3 [(0, .ref mm)] := hl
  refine lv_aload_n hx hb dX16_readSum_0 rfl (lv_at hl 0 rfl) ?_
  have hPc := hP.sub (ws' := [(mm, .inr (16, [.ref b0, .int 0, .ref b2, .ref b3, .int 0, .int 0, .int 0, .int 0, .int 0, .int 0, .int 0, .int (-1), .ref b12, .int 0, .ref b14, .int 0, .ref b16, .ref b17, .int 0, .int 0, .ref b20, .ref b21, .ref b22, .int 0, .ref b24, .int 0, .ref b26, .int 0, .ref b28, .int 0, .ref b30, .ref b31, .int 0, .ref b33, .ref b34, .int 0, .int 0, .int 0, .int 0, .ref b39, .ref b40, .ref b41, .ref b42, .ref b43, .ref b44, .ref b45, .int (-1), .long 0, .long 0, .long 0, .long 0, .long 0, .long 0, .long 0, .long 0, .ref b55, .ref b56, .ref b57, .ref b58, .ref b59, .long 0, .ref b61, .ref b62, .ref b63, .ref b64, .ref b65, .ref b66, .ref b67, .int (-1), .ref b69, .int 0, .int 0, .ref b72, .int 0, .ref b74, .long 0, .int 0, .int 0]))]) [0] rfl
  have hDc := hD.sub (ws' := [(mm, .inr (16, [.ref b0, .int 0, .ref b2, .ref b3, .int 0, .int 0, .int 0, .int 0, .int 0, .int 0, .int 0, .int (-1), .ref b12, .int 0, .ref b14, .int 0, .ref b16, .ref b17, .int 0, .int 0, .ref b20, .ref b21, .ref b22, .int 0, .ref b24, .int 0, .ref b26, .int 0, .ref b28, .int 0, .ref b30, .ref b31, .int 0, .ref b33, .ref b34, .int 0, .int 0, .int 0, .int 0, .ref b39, .ref b40, .ref b41, .ref b42, .ref b43, .ref b44, .ref b45, .int (-1), .long 0, .long 0, .long 0, .long 0, .long 0, .long 0, .long 0, .long 0, .ref b55, .ref b56, .ref b57, .ref b58, .ref b59, .long 0, .ref b61, .ref b62, .ref b63, .ref b64, .ref b65, .ref b66, .ref b67, .int (-1), .ref b69, .int 0, .int 0, .ref b72, .int 0, .ref b74, .long 0, .int 0, .int 0]))]) [0] (by decide) rfl
  have hFc := va_free (wc := [(mm, .inr (16, [.ref b0, .int 0, .ref b2, .ref b3, .int 0, .int 0, .int 0, .int 0, .int 0, .int 0, .int 0, .int (-1), .ref b12, .int 0, .ref b14, .int 0, .ref b16, .ref b17, .int 0, .int 0, .ref b20, .ref b21, .ref b22, .int 0, .ref b24, .int 0, .ref b26, .int 0, .ref b28, .int 0, .ref b30, .ref b31, .int 0, .ref b33, .ref b34, .int 0, .int 0, .int 0, .int 0, .ref b39, .ref b40, .ref b41, .ref b42, .ref b43, .ref b44, .ref b45, .int (-1), .long 0, .long 0, .long 0, .long 0, .long 0, .long 0, .long 0, .long 0, .ref b55, .ref b56, .ref b57, .ref b58, .ref b59, .long 0, .ref b61, .ref b62, .ref b63, .ref b64, .ref b65, .ref b66, .ref b67, .int (-1), .ref b69, .int 0, .int 0, .ref b72, .int 0, .ref b74, .long 0, .int 0, .int 0]))]) hD hS hA [0] rfl
  refine go_x (k1 := 1) (n1 := 7) (wr := []) (w1 := [(mm, .inr (16, [.ref b0, .int 0, .ref b2, .ref b3, .int 0, .int 0, .int 0, .int 0, .int 0, .int 0, .int 0, .int (-1), .ref b12, .int 0, .ref b14, .int 0, .ref b16, .ref b17, .int 0, .int 0, .ref b20, .ref b21, .ref b22, .int 0, .ref b24, .int 0, .ref b26, .int 0, .ref b28, .int 0, .ref b30, .ref b31, .int 0, .ref b33, .ref b34, .int 0, .int 0, .int 0, .int 0, .ref b39, .ref b40, .ref b41, .ref b42, .ref b43, .ref b44, .ref b45, .int (-1), .long 0, .long 0, .long 0, .long 0, .long 0, .long 0, .long 0, .long 0, .ref b55, .ref b56, .ref b57, .ref b58, .ref b59, .long 0, .ref b61, .ref b62, .ref b63, .ref b64, .ref b65, .ref b66, .ref b67, .int (-1), .ref b69, .int 0, .int 0, .ref b72, .int 0, .ref b74, .long 0, .int 0, .int 0]))]) [0] [] (rx_V (As := []) (rest := []) (c_X16_readProduct_x l hst D ct mm b0 b2 b3 b12 b14 b16 b17 b20 b21 b22 b24 b26 b28 b30 b31 b33 b34 b39 b40 b41 b42 b43 b44 b45 b55 b56 b57 b58 b59 b61 b62 b63 b64 b65 b66 b67 b69 b72 b74  _) (cb_of (n := 0) hn mw_2035 mw_13 mw_2032 mhX16_readProduct ⟨Nat.le_of_ble_eq_true rfl, Nat.le_of_ble_eq_true rfl⟩) hx hb hml hown hn hK hPc hDc hZ hS hFc mw_2034 mw_s193 (ci := 16) (q0 := 0) rfl rfl rfl rfl hl.1 (Nat.le_of_ble_eq_true rfl) dX16_readSum_1 ⟨(Nat.le_of_ble_eq_true rfl), (Nat.le_of_ble_eq_true rfl)⟩) hP hD hS hA rfl rfl (by decide) (by decide) (Nat.le_of_ble_eq_true rfl) (Nat.le_of_ble_eq_true rfl) (fun xq_1 xf_2 H locs hx7 hx6 hP hD hS => ?_)
  have hP : va_P D vwCl [(mm, .inr (16, [.ref b0, .int 0, .ref b2, .ref b3, .int 0, .int 0, .int 0, .int 0, .int 0, .int 0, .int 0, .int (-1), .ref b12, .int 0, .ref b14, .int 0, .ref b16, .ref b17, .int 0, .int 0, .ref b20, .ref b21, .ref b22, .int 0, .ref b24, .int 0, .ref b26, .int 0, .ref b28, .int 0, .ref b30, .ref b31, .int 0, .ref b33, .ref b34, .int 0, .int 0, .int 0, .int 0, .ref b39, .ref b40, .ref b41, .ref b42, .ref b43, .ref b44, .ref b45, .int (-1), .long 0, .long 0, .long 0, .long 0, .long 0, .long 0, .long 0, .long 0, .ref b55, .ref b56, .ref b57, .ref b58, .ref b59, .long 0, .ref b61, .ref b62, .ref b63, .ref b64, .ref b65, .ref b66, .ref b67, .int (-1), .ref b69, .int 0, .int 0, .ref b72, .int 0, .ref b74, .long 0, .int 0, .int 0])), (xq_1, .inr (15, xf_2))] _ := hP
  have hD : va_D A [(mm, .inr (16, [.ref b0, .int 0, .ref b2, .ref b3, .int 0, .int 0, .int 0, .int 0, .int 0, .int 0, .int 0, .int (-1), .ref b12, .int 0, .ref b14, .int 0, .ref b16, .ref b17, .int 0, .int 0, .ref b20, .ref b21, .ref b22, .int 0, .ref b24, .int 0, .ref b26, .int 0, .ref b28, .int 0, .ref b30, .ref b31, .int 0, .ref b33, .ref b34, .int 0, .int 0, .int 0, .int 0, .ref b39, .ref b40, .ref b41, .ref b42, .ref b43, .ref b44, .ref b45, .int (-1), .long 0, .long 0, .long 0, .long 0, .long 0, .long 0, .long 0, .long 0, .ref b55, .ref b56, .ref b57, .ref b58, .ref b59, .long 0, .ref b61, .ref b62, .ref b63, .ref b64, .ref b65, .ref b66, .ref b67, .int (-1), .ref b69, .int 0, .int 0, .ref b72, .int 0, .ref b74, .long 0, .int 0, .int 0])), (xq_1, .inr (15, xf_2))] := hD
  exact x_out htab hlocks hK hP hD hS hx7 hx6 [0, 1] rfl (by decide) rfl (kq := 1) rfl (Nat.le_of_ble_eq_true rfl) (Nat.le_of_ble_eq_true rfl)
set_option maxHeartbeats 4000000 in
set_option maxRecDepth 100000 in
theorem c_X16_readRelation_x (l : Launch) (hst : l.stackTraces = false) (D : va_G) (ct : Nat → ClassId) (mm : Nat) (b0 : Nat) (b2 : Nat) (b3 : Nat) (b12 : Nat) (b14 : Nat) (b16 : Nat) (b17 : Nat) (b20 : Nat) (b21 : Nat) (b22 : Nat) (b24 : Nat) (b26 : Nat) (b28 : Nat) (b30 : Nat) (b31 : Nat) (b33 : Nat) (b34 : Nat) (b39 : Nat) (b40 : Nat) (b41 : Nat) (b42 : Nat) (b43 : Nat) (b44 : Nat) (b45 : Nat) (b55 : Nat) (b56 : Nat) (b57 : Nat) (b58 : Nat) (b59 : Nat) (b61 : Nat) (b62 : Nat) (b63 : Nat) (b64 : Nat) (b65 : Nat) (b66 : Nat) (b67 : Nat) (b69 : Nat) (b72 : Nat) (b74 : Nat)  : KX l yX16_readRelation cX16_readRelation 5 (some (.object "FilterForgeModel$Filter")) 12 313 D ct [.ref mm] [(mm, .inr (16, [.ref b0, .int 0, .ref b2, .ref b3, .int 0, .int 0, .int 0, .int 0, .int 0, .int 0, .int 0, .int (-1), .ref b12, .int 0, .ref b14, .int 0, .ref b16, .ref b17, .int 0, .int 0, .ref b20, .ref b21, .ref b22, .int 0, .ref b24, .int 0, .ref b26, .int 0, .ref b28, .int 0, .ref b30, .ref b31, .int 0, .ref b33, .ref b34, .int 0, .int 0, .int 0, .int 0, .ref b39, .ref b40, .ref b41, .ref b42, .ref b43, .ref b44, .ref b45, .int (-1), .long 0, .long 0, .long 0, .long 0, .long 0, .long 0, .long 0, .long 0, .ref b55, .ref b56, .ref b57, .ref b58, .ref b59, .long 0, .ref b61, .ref b62, .ref b63, .ref b64, .ref b65, .ref b66, .ref b67, .int (-1), .ref b69, .int 0, .int 0, .ref b72, .int 0, .ref b74, .long 0, .int 0, .int 0]))] 1 7 [(mm, .inr (16, [.ref b0, .int 0, .ref b2, .ref b3, .int 0, .int 0, .int 0, .int 0, .int 0, .int 0, .int 0, .int (-1), .ref b12, .int 0, .ref b14, .int 0, .ref b16, .ref b17, .int 0, .int 0, .ref b20, .ref b21, .ref b22, .int 0, .ref b24, .int 0, .ref b26, .int 0, .ref b28, .int 0, .ref b30, .ref b31, .int 0, .ref b33, .ref b34, .int 0, .int 0, .int 0, .int 0, .ref b39, .ref b40, .ref b41, .ref b42, .ref b43, .ref b44, .ref b45, .int (-1), .long 0, .long 0, .long 0, .long 0, .long 0, .long 0, .long 0, .long 0, .ref b55, .ref b56, .ref b57, .ref b58, .ref b59, .long 0, .ref b61, .ref b62, .ref b63, .ref b64, .ref b65, .ref b66, .ref b67, .int (-1), .ref b69, .int 0, .int 0, .ref b72, .int 0, .ref b74, .long 0, .int 0, .int 0]))] := by
  refine KX_of (by decide) (Nat.le_of_ble_eq_true rfl) (fun p e s m below meth c A C0 htab hZ hA hS hP hD ls hl => ?_)
  obtain ⟨hx, hb, hr, hown, hin, hml, hlocks, hn, hK⟩ := C0
  have hl : lv_has ls 5 [(0, .ref mm)] := hl
  refine lv_aload_n hx hb dX16_readRelation_0 rfl (lv_at hl 0 rfl) ?_
  refine lv_iconst (v := 0) hx hb dX16_readRelation_1 (by decide) ?_
  refine va_put (D := D) (ci := 16) (v := .int 0) (ty := .int) (C := RX16) (T := TX16) (N := 78) hx hb (htX16 hn) (fun _ h => h) tyX16 tyX16_ok nmX16 hown hK hP hD hS 0 rfl rfl 13 (by decide) (hn.get mw_1552 rfl) (fun _ h9 => h9) rfl (by decide +kernel) rfl rfl (Nat.le_of_ble_eq_true rfl) dX16_readRelation_2 (fun H locs hP hD hS => ?_)
  have hP : va_P D vwCl [(mm, .inr (16, [.ref b0, .int 0, .ref b2, .ref b3, .int 0, .int 0, .int 0, .int 0, .int 0, .int 0, .int 0, .int (-1), .ref b12, .int 0, .ref b14, .int 0, .ref b16, .ref b17, .int 0, .int 0, .ref b20, .ref b21, .ref b22, .int 0, .ref b24, .int 0, .ref b26, .int 0, .ref b28, .int 0, .ref b30, .ref b31, .int 0, .ref b33, .ref b34, .int 0, .int 0, .int 0, .int 0, .ref b39, .ref b40, .ref b41, .ref b42, .ref b43, .ref b44, .ref b45, .int (-1), .long 0, .long 0, .long 0, .long 0, .long 0, .long 0, .long 0, .long 0, .ref b55, .ref b56, .ref b57, .ref b58, .ref b59, .long 0, .ref b61, .ref b62, .ref b63, .ref b64, .ref b65, .ref b66, .ref b67, .int (-1), .ref b69, .int 0, .int 0, .ref b72, .int 0, .ref b74, .long 0, .int 0, .int 0]))] _ := hP
  have hD : va_D A [(mm, .inr (16, [.ref b0, .int 0, .ref b2, .ref b3, .int 0, .int 0, .int 0, .int 0, .int 0, .int 0, .int 0, .int (-1), .ref b12, .int 0, .ref b14, .int 0, .ref b16, .ref b17, .int 0, .int 0, .ref b20, .ref b21, .ref b22, .int 0, .ref b24, .int 0, .ref b26, .int 0, .ref b28, .int 0, .ref b30, .ref b31, .int 0, .ref b33, .ref b34, .int 0, .int 0, .int 0, .int 0, .ref b39, .ref b40, .ref b41, .ref b42, .ref b43, .ref b44, .ref b45, .int (-1), .long 0, .long 0, .long 0, .long 0, .long 0, .long 0, .long 0, .long 0, .ref b55, .ref b56, .ref b57, .ref b58, .ref b59, .long 0, .ref b61, .ref b62, .ref b63, .ref b64, .ref b65, .ref b66, .ref b67, .int (-1), .ref b69, .int 0, .int 0, .ref b72, .int 0, .ref b74, .long 0, .int 0, .int 0]))] := hD
  refine lv_aload_n hx hb dX16_readRelation_5 rfl (lv_at hl 0 rfl) ?_
  have hPc := hP.sub (ws' := [(mm, .inr (16, [.ref b0, .int 0, .ref b2, .ref b3, .int 0, .int 0, .int 0, .int 0, .int 0, .int 0, .int 0, .int (-1), .ref b12, .int 0, .ref b14, .int 0, .ref b16, .ref b17, .int 0, .int 0, .ref b20, .ref b21, .ref b22, .int 0, .ref b24, .int 0, .ref b26, .int 0, .ref b28, .int 0, .ref b30, .ref b31, .int 0, .ref b33, .ref b34, .int 0, .int 0, .int 0, .int 0, .ref b39, .ref b40, .ref b41, .ref b42, .ref b43, .ref b44, .ref b45, .int (-1), .long 0, .long 0, .long 0, .long 0, .long 0, .long 0, .long 0, .long 0, .ref b55, .ref b56, .ref b57, .ref b58, .ref b59, .long 0, .ref b61, .ref b62, .ref b63, .ref b64, .ref b65, .ref b66, .ref b67, .int (-1), .ref b69, .int 0, .int 0, .ref b72, .int 0, .ref b74, .long 0, .int 0, .int 0]))]) [0] rfl
  have hDc := hD.sub (ws' := [(mm, .inr (16, [.ref b0, .int 0, .ref b2, .ref b3, .int 0, .int 0, .int 0, .int 0, .int 0, .int 0, .int 0, .int (-1), .ref b12, .int 0, .ref b14, .int 0, .ref b16, .ref b17, .int 0, .int 0, .ref b20, .ref b21, .ref b22, .int 0, .ref b24, .int 0, .ref b26, .int 0, .ref b28, .int 0, .ref b30, .ref b31, .int 0, .ref b33, .ref b34, .int 0, .int 0, .int 0, .int 0, .ref b39, .ref b40, .ref b41, .ref b42, .ref b43, .ref b44, .ref b45, .int (-1), .long 0, .long 0, .long 0, .long 0, .long 0, .long 0, .long 0, .long 0, .ref b55, .ref b56, .ref b57, .ref b58, .ref b59, .long 0, .ref b61, .ref b62, .ref b63, .ref b64, .ref b65, .ref b66, .ref b67, .int (-1), .ref b69, .int 0, .int 0, .ref b72, .int 0, .ref b74, .long 0, .int 0, .int 0]))]) [0] (by decide) rfl
  have hFc := va_free (wc := [(mm, .inr (16, [.ref b0, .int 0, .ref b2, .ref b3, .int 0, .int 0, .int 0, .int 0, .int 0, .int 0, .int 0, .int (-1), .ref b12, .int 0, .ref b14, .int 0, .ref b16, .ref b17, .int 0, .int 0, .ref b20, .ref b21, .ref b22, .int 0, .ref b24, .int 0, .ref b26, .int 0, .ref b28, .int 0, .ref b30, .ref b31, .int 0, .ref b33, .ref b34, .int 0, .int 0, .int 0, .int 0, .ref b39, .ref b40, .ref b41, .ref b42, .ref b43, .ref b44, .ref b45, .int (-1), .long 0, .long 0, .long 0, .long 0, .long 0, .long 0, .long 0, .long 0, .ref b55, .ref b56, .ref b57, .ref b58, .ref b59, .long 0, .ref b61, .ref b62, .ref b63, .ref b64, .ref b65, .ref b66, .ref b67, .int (-1), .ref b69, .int 0, .int 0, .ref b72, .int 0, .ref b74, .long 0, .int 0, .int 0]))]) hD hS hA [0] rfl
  refine go_x (k1 := 1) (n1 := 7) (wr := []) (w1 := [(mm, .inr (16, [.ref b0, .int 0, .ref b2, .ref b3, .int 0, .int 0, .int 0, .int 0, .int 0, .int 0, .int 0, .int (-1), .ref b12, .int 0, .ref b14, .int 0, .ref b16, .ref b17, .int 0, .int 0, .ref b20, .ref b21, .ref b22, .int 0, .ref b24, .int 0, .ref b26, .int 0, .ref b28, .int 0, .ref b30, .ref b31, .int 0, .ref b33, .ref b34, .int 0, .int 0, .int 0, .int 0, .ref b39, .ref b40, .ref b41, .ref b42, .ref b43, .ref b44, .ref b45, .int (-1), .long 0, .long 0, .long 0, .long 0, .long 0, .long 0, .long 0, .long 0, .ref b55, .ref b56, .ref b57, .ref b58, .ref b59, .long 0, .ref b61, .ref b62, .ref b63, .ref b64, .ref b65, .ref b66, .ref b67, .int (-1), .ref b69, .int 0, .int 0, .ref b72, .int 0, .ref b74, .long 0, .int 0, .int 0]))]) [0] [] (rx_V (As := []) (rest := []) (c_X16_readSum_x l hst D ct mm b0 b2 b3 b12 b14 b16 b17 b20 b21 b22 b24 b26 b28 b30 b31 b33 b34 b39 b40 b41 b42 b43 b44 b45 b55 b56 b57 b58 b59 b61 b62 b63 b64 b65 b66 b67 b69 b72 b74  _) (cb_of (n := 0) hn mw_2031 mw_13 mw_2028 mhX16_readSum ⟨Nat.le_of_ble_eq_true rfl, Nat.le_of_ble_eq_true rfl⟩) hx hb hml hown hn hK hPc hDc hZ hS hFc mw_2030 mw_s192 (ci := 16) (q0 := 0) rfl rfl rfl rfl hl.1 (Nat.le_of_ble_eq_true rfl) dX16_readRelation_6 ⟨(Nat.le_of_ble_eq_true rfl), (Nat.le_of_ble_eq_true rfl)⟩) hP hD hS hA rfl rfl (by decide) (by decide) (Nat.le_of_ble_eq_true rfl) (Nat.le_of_ble_eq_true rfl) (fun xq_1 xf_2 H locs hx7 hx6 hP hD hS => ?_)
  have hP : va_P D vwCl [(mm, .inr (16, [.ref b0, .int 0, .ref b2, .ref b3, .int 0, .int 0, .int 0, .int 0, .int 0, .int 0, .int 0, .int (-1), .ref b12, .int 0, .ref b14, .int 0, .ref b16, .ref b17, .int 0, .int 0, .ref b20, .ref b21, .ref b22, .int 0, .ref b24, .int 0, .ref b26, .int 0, .ref b28, .int 0, .ref b30, .ref b31, .int 0, .ref b33, .ref b34, .int 0, .int 0, .int 0, .int 0, .ref b39, .ref b40, .ref b41, .ref b42, .ref b43, .ref b44, .ref b45, .int (-1), .long 0, .long 0, .long 0, .long 0, .long 0, .long 0, .long 0, .long 0, .ref b55, .ref b56, .ref b57, .ref b58, .ref b59, .long 0, .ref b61, .ref b62, .ref b63, .ref b64, .ref b65, .ref b66, .ref b67, .int (-1), .ref b69, .int 0, .int 0, .ref b72, .int 0, .ref b74, .long 0, .int 0, .int 0])), (xq_1, .inr (15, xf_2))] _ := hP
  have hD : va_D A [(mm, .inr (16, [.ref b0, .int 0, .ref b2, .ref b3, .int 0, .int 0, .int 0, .int 0, .int 0, .int 0, .int 0, .int (-1), .ref b12, .int 0, .ref b14, .int 0, .ref b16, .ref b17, .int 0, .int 0, .ref b20, .ref b21, .ref b22, .int 0, .ref b24, .int 0, .ref b26, .int 0, .ref b28, .int 0, .ref b30, .ref b31, .int 0, .ref b33, .ref b34, .int 0, .int 0, .int 0, .int 0, .ref b39, .ref b40, .ref b41, .ref b42, .ref b43, .ref b44, .ref b45, .int (-1), .long 0, .long 0, .long 0, .long 0, .long 0, .long 0, .long 0, .long 0, .ref b55, .ref b56, .ref b57, .ref b58, .ref b59, .long 0, .ref b61, .ref b62, .ref b63, .ref b64, .ref b65, .ref b66, .ref b67, .int (-1), .ref b69, .int 0, .int 0, .ref b72, .int 0, .ref b74, .long 0, .int 0, .int 0])), (xq_1, .inr (15, xf_2))] := hD
  exact x_out htab hlocks hK hP hD hS hx7 hx6 [0, 1] rfl (by decide) rfl (kq := 1) rfl (Nat.le_of_ble_eq_true rfl) (Nat.le_of_ble_eq_true rfl)
set_option maxHeartbeats 4000000 in
set_option maxRecDepth 100000 in
theorem c_X16_readOne_x (l : Launch) (hst : l.stackTraces = false) (D : va_G) (ct : Nat → ClassId) (mm : Nat) (b0 : Nat) (b2 : Nat) (b3 : Nat) (b12 : Nat) (b14 : Nat) (b16 : Nat) (b17 : Nat) (b20 : Nat) (b21 : Nat) (b22 : Nat) (b24 : Nat) (b26 : Nat) (b28 : Nat) (b30 : Nat) (b31 : Nat) (b33 : Nat) (b34 : Nat) (b39 : Nat) (b40 : Nat) (b41 : Nat) (b42 : Nat) (b43 : Nat) (b44 : Nat) (b45 : Nat) (b55 : Nat) (b56 : Nat) (b57 : Nat) (b58 : Nat) (b59 : Nat) (b61 : Nat) (b62 : Nat) (b63 : Nat) (b64 : Nat) (b65 : Nat) (b66 : Nat) (b67 : Nat) (b69 : Nat) (b72 : Nat) (b74 : Nat)  : KX l yX16_readOne cX16_readOne 3 (some (.object "FilterForgeModel$Filter")) 13 337 D ct [.ref mm] [(mm, .inr (16, [.ref b0, .int 0, .ref b2, .ref b3, .int 0, .int 0, .int 0, .int 0, .int 0, .int 0, .int 0, .int (-1), .ref b12, .int 0, .ref b14, .int 0, .ref b16, .ref b17, .int 0, .int 0, .ref b20, .ref b21, .ref b22, .int 0, .ref b24, .int 0, .ref b26, .int 0, .ref b28, .int 0, .ref b30, .ref b31, .int 0, .ref b33, .ref b34, .int 0, .int 0, .int 0, .int 0, .ref b39, .ref b40, .ref b41, .ref b42, .ref b43, .ref b44, .ref b45, .int (-1), .long 0, .long 0, .long 0, .long 0, .long 0, .long 0, .long 0, .long 0, .ref b55, .ref b56, .ref b57, .ref b58, .ref b59, .long 0, .ref b61, .ref b62, .ref b63, .ref b64, .ref b65, .ref b66, .ref b67, .int (-1), .ref b69, .int 0, .int 0, .ref b72, .int 0, .ref b74, .long 0, .int 0, .int 0]))] 1 7 [(mm, .inr (16, [.ref b0, .int 0, .ref b2, .ref b3, .int 0, .int 0, .int 0, .int 0, .int 0, .int 0, .int 0, .int (-1), .ref b12, .int 0, .ref b14, .int 0, .ref b16, .ref b17, .int 0, .int 0, .ref b20, .ref b21, .ref b22, .int 0, .ref b24, .int 0, .ref b26, .int 0, .ref b28, .int 0, .ref b30, .ref b31, .int 0, .ref b33, .ref b34, .int 0, .int 0, .int 0, .int 0, .ref b39, .ref b40, .ref b41, .ref b42, .ref b43, .ref b44, .ref b45, .int (-1), .long 0, .long 0, .long 0, .long 0, .long 0, .long 0, .long 0, .long 0, .ref b55, .ref b56, .ref b57, .ref b58, .ref b59, .long 0, .ref b61, .ref b62, .ref b63, .ref b64, .ref b65, .ref b66, .ref b67, .int (-1), .ref b69, .int 0, .int 0, .ref b72, .int 0, .ref b74, .long 0, .int 0, .int 0]))] := by
  refine KX_of (by decide) (Nat.le_of_ble_eq_true rfl) (fun p e s m below meth c A C0 htab hZ hA hS hP hD ls hl => ?_)
  obtain ⟨hx, hb, hr, hown, hin, hml, hlocks, hn, hK⟩ := C0
  have hl : lv_has ls 3 [(0, .ref mm)] := hl
  refine lv_aload_n hx hb dX16_readOne_0 rfl (lv_at hl 0 rfl) ?_
  obtain ⟨sq_1, hsq_1⟩ := hn.2.1 _ _ _ mw_x1958
  refine va_ldcwS hx hb hown hsq_1 dX16_readOne_1 ?_
  have hPc := hP.sub (ws' := [(mm, .inr (16, [.ref b0, .int 0, .ref b2, .ref b3, .int 0, .int 0, .int 0, .int 0, .int 0, .int 0, .int 0, .int (-1), .ref b12, .int 0, .ref b14, .int 0, .ref b16, .ref b17, .int 0, .int 0, .ref b20, .ref b21, .ref b22, .int 0, .ref b24, .int 0, .ref b26, .int 0, .ref b28, .int 0, .ref b30, .ref b31, .int 0, .ref b33, .ref b34, .int 0, .int 0, .int 0, .int 0, .ref b39, .ref b40, .ref b41, .ref b42, .ref b43, .ref b44, .ref b45, .int (-1), .long 0, .long 0, .long 0, .long 0, .long 0, .long 0, .long 0, .long 0, .ref b55, .ref b56, .ref b57, .ref b58, .ref b59, .long 0, .ref b61, .ref b62, .ref b63, .ref b64, .ref b65, .ref b66, .ref b67, .int (-1), .ref b69, .int 0, .int 0, .ref b72, .int 0, .ref b74, .long 0, .int 0, .int 0]))]) [0] rfl
  have hDc := hD.sub (ws' := [(mm, .inr (16, [.ref b0, .int 0, .ref b2, .ref b3, .int 0, .int 0, .int 0, .int 0, .int 0, .int 0, .int 0, .int (-1), .ref b12, .int 0, .ref b14, .int 0, .ref b16, .ref b17, .int 0, .int 0, .ref b20, .ref b21, .ref b22, .int 0, .ref b24, .int 0, .ref b26, .int 0, .ref b28, .int 0, .ref b30, .ref b31, .int 0, .ref b33, .ref b34, .int 0, .int 0, .int 0, .int 0, .ref b39, .ref b40, .ref b41, .ref b42, .ref b43, .ref b44, .ref b45, .int (-1), .long 0, .long 0, .long 0, .long 0, .long 0, .long 0, .long 0, .long 0, .ref b55, .ref b56, .ref b57, .ref b58, .ref b59, .long 0, .ref b61, .ref b62, .ref b63, .ref b64, .ref b65, .ref b66, .ref b67, .int (-1), .ref b69, .int 0, .int 0, .ref b72, .int 0, .ref b74, .long 0, .int 0, .int 0]))]) [0] (by decide) rfl
  refine go_i (k1 := 0) (n1 := 0) (wr := []) [0] [] (rn_V (As := [.ref sq_1]) (rest := []) (c_X16_is_q l D ct mm b0 b2 b3 b12 b14 b16 b17 b20 b21 b22 b24 b26 b28 b30 b31 b33 b34 b39 b40 b41 b42 b43 b44 b45 b55 b56 b57 b58 b59 b61 b62 b63 b64 b65 b66 b67 b69 b72 b74 sq_1  _) (cb_of (n := 1) hn mw_1962 mw_13 mw_1959 mhX16_is ⟨Nat.le_of_ble_eq_true rfl, Nat.le_of_ble_eq_true rfl⟩) hx hb hml hown hn hK hPc hDc mw_1961 mw_s186 (ci := 16) (q0 := 0) rfl rfl rfl rfl hl.1 (Nat.le_of_ble_eq_true rfl) dX16_readOne_4 ⟨(Nat.le_of_ble_eq_true rfl), (Nat.le_of_ble_eq_true rfl)⟩) hP hD hS hA rfl rfl (by decide) (by decide) (Nat.le_of_ble_eq_true rfl) (Nat.le_of_ble_eq_true rfl) (fun r_2 u_3 H locs hp_4 hP hD hS => ?_)
  have hr_2 := hp_4
  rw [show r_2 = 0 from hr_2]
  have hP : va_P D vwCl [(mm, .inr (16, [.ref b0, .int 0, .ref b2, .ref b3, .int 0, .int 0, .int 0, .int 0, .int 0, .int 0, .int 0, .int (-1), .ref b12, .int 0, .ref b14, .int 0, .ref b16, .ref b17, .int 0, .int 0, .ref b20, .ref b21, .ref b22, .int 0, .ref b24, .int 0, .ref b26, .int 0, .ref b28, .int 0, .ref b30, .ref b31, .int 0, .ref b33, .ref b34, .int 0, .int 0, .int 0, .int 0, .ref b39, .ref b40, .ref b41, .ref b42, .ref b43, .ref b44, .ref b45, .int (-1), .long 0, .long 0, .long 0, .long 0, .long 0, .long 0, .long 0, .long 0, .ref b55, .ref b56, .ref b57, .ref b58, .ref b59, .long 0, .ref b61, .ref b62, .ref b63, .ref b64, .ref b65, .ref b66, .ref b67, .int (-1), .ref b69, .int 0, .int 0, .ref b72, .int 0, .ref b74, .long 0, .int 0, .int 0]))] _ := hP
  have hD : va_D A [(mm, .inr (16, [.ref b0, .int 0, .ref b2, .ref b3, .int 0, .int 0, .int 0, .int 0, .int 0, .int 0, .int 0, .int (-1), .ref b12, .int 0, .ref b14, .int 0, .ref b16, .ref b17, .int 0, .int 0, .ref b20, .ref b21, .ref b22, .int 0, .ref b24, .int 0, .ref b26, .int 0, .ref b28, .int 0, .ref b30, .ref b31, .int 0, .ref b33, .ref b34, .int 0, .int 0, .int 0, .int 0, .ref b39, .ref b40, .ref b41, .ref b42, .ref b43, .ref b44, .ref b45, .int (-1), .long 0, .long 0, .long 0, .long 0, .long 0, .long 0, .long 0, .long 0, .ref b55, .ref b56, .ref b57, .ref b58, .ref b59, .long 0, .ref b61, .ref b62, .ref b63, .ref b64, .ref b65, .ref b66, .ref b67, .int (-1), .ref b69, .int 0, .int 0, .ref b72, .int 0, .ref b74, .long 0, .int 0, .int 0]))] := hD
  refine lv_if_eq (tgt := 40) hx hb dX16_readOne_7 (by decide) (fun c_5 => ?_) (fun c_5 => absurd (by decide) c_5)
  refine lv_aload_n hx hb dX16_readOne_40 rfl (lv_at hl 0 rfl) ?_
  obtain ⟨sq_6, hsq_6⟩ := hn.2.1 _ _ _ mw_x2002
  refine va_ldcwS hx hb hown hsq_6 dX16_readOne_41 ?_
  have hPc := hP.sub (ws' := [(mm, .inr (16, [.ref b0, .int 0, .ref b2, .ref b3, .int 0, .int 0, .int 0, .int 0, .int 0, .int 0, .int 0, .int (-1), .ref b12, .int 0, .ref b14, .int 0, .ref b16, .ref b17, .int 0, .int 0, .ref b20, .ref b21, .ref b22, .int 0, .ref b24, .int 0, .ref b26, .int 0, .ref b28, .int 0, .ref b30, .ref b31, .int 0, .ref b33, .ref b34, .int 0, .int 0, .int 0, .int 0, .ref b39, .ref b40, .ref b41, .ref b42, .ref b43, .ref b44, .ref b45, .int (-1), .long 0, .long 0, .long 0, .long 0, .long 0, .long 0, .long 0, .long 0, .ref b55, .ref b56, .ref b57, .ref b58, .ref b59, .long 0, .ref b61, .ref b62, .ref b63, .ref b64, .ref b65, .ref b66, .ref b67, .int (-1), .ref b69, .int 0, .int 0, .ref b72, .int 0, .ref b74, .long 0, .int 0, .int 0]))]) [0] rfl
  have hDc := hD.sub (ws' := [(mm, .inr (16, [.ref b0, .int 0, .ref b2, .ref b3, .int 0, .int 0, .int 0, .int 0, .int 0, .int 0, .int 0, .int (-1), .ref b12, .int 0, .ref b14, .int 0, .ref b16, .ref b17, .int 0, .int 0, .ref b20, .ref b21, .ref b22, .int 0, .ref b24, .int 0, .ref b26, .int 0, .ref b28, .int 0, .ref b30, .ref b31, .int 0, .ref b33, .ref b34, .int 0, .int 0, .int 0, .int 0, .ref b39, .ref b40, .ref b41, .ref b42, .ref b43, .ref b44, .ref b45, .int (-1), .long 0, .long 0, .long 0, .long 0, .long 0, .long 0, .long 0, .long 0, .ref b55, .ref b56, .ref b57, .ref b58, .ref b59, .long 0, .ref b61, .ref b62, .ref b63, .ref b64, .ref b65, .ref b66, .ref b67, .int (-1), .ref b69, .int 0, .int 0, .ref b72, .int 0, .ref b74, .long 0, .int 0, .int 0]))]) [0] (by decide) rfl
  refine go_i (k1 := 0) (n1 := 0) (wr := []) [0] [] (rn_V (As := [.ref sq_6]) (rest := []) (c_X16_is_q l D ct mm b0 b2 b3 b12 b14 b16 b17 b20 b21 b22 b24 b26 b28 b30 b31 b33 b34 b39 b40 b41 b42 b43 b44 b45 b55 b56 b57 b58 b59 b61 b62 b63 b64 b65 b66 b67 b69 b72 b74 sq_6  _) (cb_of (n := 1) hn mw_1962 mw_13 mw_1959 mhX16_is ⟨Nat.le_of_ble_eq_true rfl, Nat.le_of_ble_eq_true rfl⟩) hx hb hml hown hn hK hPc hDc mw_1961 mw_s186 (ci := 16) (q0 := 0) rfl rfl rfl rfl hl.1 (Nat.le_of_ble_eq_true rfl) dX16_readOne_44 ⟨(Nat.le_of_ble_eq_true rfl), (Nat.le_of_ble_eq_true rfl)⟩) hP hD hS hA rfl rfl (by decide) (by decide) (Nat.le_of_ble_eq_true rfl) (Nat.le_of_ble_eq_true rfl) (fun r_7 u_8 H locs hp_9 hP hD hS => ?_)
  have hr_7 := hp_9
  rw [show r_7 = 0 from hr_7]
  have hP : va_P D vwCl [(mm, .inr (16, [.ref b0, .int 0, .ref b2, .ref b3, .int 0, .int 0, .int 0, .int 0, .int 0, .int 0, .int 0, .int (-1), .ref b12, .int 0, .ref b14, .int 0, .ref b16, .ref b17, .int 0, .int 0, .ref b20, .ref b21, .ref b22, .int 0, .ref b24, .int 0, .ref b26, .int 0, .ref b28, .int 0, .ref b30, .ref b31, .int 0, .ref b33, .ref b34, .int 0, .int 0, .int 0, .int 0, .ref b39, .ref b40, .ref b41, .ref b42, .ref b43, .ref b44, .ref b45, .int (-1), .long 0, .long 0, .long 0, .long 0, .long 0, .long 0, .long 0, .long 0, .ref b55, .ref b56, .ref b57, .ref b58, .ref b59, .long 0, .ref b61, .ref b62, .ref b63, .ref b64, .ref b65, .ref b66, .ref b67, .int (-1), .ref b69, .int 0, .int 0, .ref b72, .int 0, .ref b74, .long 0, .int 0, .int 0]))] _ := hP
  have hD : va_D A [(mm, .inr (16, [.ref b0, .int 0, .ref b2, .ref b3, .int 0, .int 0, .int 0, .int 0, .int 0, .int 0, .int 0, .int (-1), .ref b12, .int 0, .ref b14, .int 0, .ref b16, .ref b17, .int 0, .int 0, .ref b20, .ref b21, .ref b22, .int 0, .ref b24, .int 0, .ref b26, .int 0, .ref b28, .int 0, .ref b30, .ref b31, .int 0, .ref b33, .ref b34, .int 0, .int 0, .int 0, .int 0, .ref b39, .ref b40, .ref b41, .ref b42, .ref b43, .ref b44, .ref b45, .int (-1), .long 0, .long 0, .long 0, .long 0, .long 0, .long 0, .long 0, .long 0, .ref b55, .ref b56, .ref b57, .ref b58, .ref b59, .long 0, .ref b61, .ref b62, .ref b63, .ref b64, .ref b65, .ref b66, .ref b67, .int (-1), .ref b69, .int 0, .int 0, .ref b72, .int 0, .ref b74, .long 0, .int 0, .int 0]))] := hD
  refine lv_if_eq (tgt := 78) hx hb dX16_readOne_47 (by decide) (fun c_10 => ?_) (fun c_10 => absurd (by decide) c_10)
  refine lv_aload_n hx hb dX16_readOne_78 rfl (lv_at hl 0 rfl) ?_
  have hPc := hP.sub (ws' := [(mm, .inr (16, [.ref b0, .int 0, .ref b2, .ref b3, .int 0, .int 0, .int 0, .int 0, .int 0, .int 0, .int 0, .int (-1), .ref b12, .int 0, .ref b14, .int 0, .ref b16, .ref b17, .int 0, .int 0, .ref b20, .ref b21, .ref b22, .int 0, .ref b24, .int 0, .ref b26, .int 0, .ref b28, .int 0, .ref b30, .ref b31, .int 0, .ref b33, .ref b34, .int 0, .int 0, .int 0, .int 0, .ref b39, .ref b40, .ref b41, .ref b42, .ref b43, .ref b44, .ref b45, .int (-1), .long 0, .long 0, .long 0, .long 0, .long 0, .long 0, .long 0, .long 0, .ref b55, .ref b56, .ref b57, .ref b58, .ref b59, .long 0, .ref b61, .ref b62, .ref b63, .ref b64, .ref b65, .ref b66, .ref b67, .int (-1), .ref b69, .int 0, .int 0, .ref b72, .int 0, .ref b74, .long 0, .int 0, .int 0]))]) [0] rfl
  have hDc := hD.sub (ws' := [(mm, .inr (16, [.ref b0, .int 0, .ref b2, .ref b3, .int 0, .int 0, .int 0, .int 0, .int 0, .int 0, .int 0, .int (-1), .ref b12, .int 0, .ref b14, .int 0, .ref b16, .ref b17, .int 0, .int 0, .ref b20, .ref b21, .ref b22, .int 0, .ref b24, .int 0, .ref b26, .int 0, .ref b28, .int 0, .ref b30, .ref b31, .int 0, .ref b33, .ref b34, .int 0, .int 0, .int 0, .int 0, .ref b39, .ref b40, .ref b41, .ref b42, .ref b43, .ref b44, .ref b45, .int (-1), .long 0, .long 0, .long 0, .long 0, .long 0, .long 0, .long 0, .long 0, .ref b55, .ref b56, .ref b57, .ref b58, .ref b59, .long 0, .ref b61, .ref b62, .ref b63, .ref b64, .ref b65, .ref b66, .ref b67, .int (-1), .ref b69, .int 0, .int 0, .ref b72, .int 0, .ref b74, .long 0, .int 0, .int 0]))]) [0] (by decide) rfl
  refine go_i (k1 := 0) (n1 := 0) (wr := []) [0] [] (rn_V (As := []) (rest := []) (c_X16_accessOf_q l D ct mm b0 b2 b3 b12 b14 b16 b17 b20 b21 b22 b24 b26 b28 b30 b31 b33 b34 b39 b40 b41 b42 b43 b44 b45 b55 b56 b57 b58 b59 b61 b62 b63 b64 b65 b66 b67 b69 b72 b74  _) (cb_of (n := 0) hn mw_2011 mw_13 mw_2008 mhX16_accessOf ⟨Nat.le_of_ble_eq_true rfl, Nat.le_of_ble_eq_true rfl⟩) hx hb hml hown hn hK hPc hDc mw_2010 mw_s189 (ci := 16) (q0 := 0) rfl rfl rfl rfl hl.1 (Nat.le_of_ble_eq_true rfl) dX16_readOne_79 ⟨(Nat.le_of_ble_eq_true rfl), (Nat.le_of_ble_eq_true rfl)⟩) hP hD hS hA rfl rfl (by decide) (by decide) (Nat.le_of_ble_eq_true rfl) (Nat.le_of_ble_eq_true rfl) (fun r_11 u_12 H locs hp_13 hP hD hS => ?_)
  have hr_11 := hp_13
  rw [show r_11 = (-1) from hr_11]
  have hP : va_P D vwCl [(mm, .inr (16, [.ref b0, .int 0, .ref b2, .ref b3, .int 0, .int 0, .int 0, .int 0, .int 0, .int 0, .int 0, .int (-1), .ref b12, .int 0, .ref b14, .int 0, .ref b16, .ref b17, .int 0, .int 0, .ref b20, .ref b21, .ref b22, .int 0, .ref b24, .int 0, .ref b26, .int 0, .ref b28, .int 0, .ref b30, .ref b31, .int 0, .ref b33, .ref b34, .int 0, .int 0, .int 0, .int 0, .ref b39, .ref b40, .ref b41, .ref b42, .ref b43, .ref b44, .ref b45, .int (-1), .long 0, .long 0, .long 0, .long 0, .long 0, .long 0, .long 0, .long 0, .ref b55, .ref b56, .ref b57, .ref b58, .ref b59, .long 0, .ref b61, .ref b62, .ref b63, .ref b64, .ref b65, .ref b66, .ref b67, .int (-1), .ref b69, .int 0, .int 0, .ref b72, .int 0, .ref b74, .long 0, .int 0, .int 0]))] _ := hP
  have hD : va_D A [(mm, .inr (16, [.ref b0, .int 0, .ref b2, .ref b3, .int 0, .int 0, .int 0, .int 0, .int 0, .int 0, .int 0, .int (-1), .ref b12, .int 0, .ref b14, .int 0, .ref b16, .ref b17, .int 0, .int 0, .ref b20, .ref b21, .ref b22, .int 0, .ref b24, .int 0, .ref b26, .int 0, .ref b28, .int 0, .ref b30, .ref b31, .int 0, .ref b33, .ref b34, .int 0, .int 0, .int 0, .int 0, .ref b39, .ref b40, .ref b41, .ref b42, .ref b43, .ref b44, .ref b45, .int (-1), .long 0, .long 0, .long 0, .long 0, .long 0, .long 0, .long 0, .long 0, .ref b55, .ref b56, .ref b57, .ref b58, .ref b59, .long 0, .ref b61, .ref b62, .ref b63, .ref b64, .ref b65, .ref b66, .ref b67, .int (-1), .ref b69, .int 0, .int 0, .ref b72, .int 0, .ref b74, .long 0, .int 0, .int 0]))] := hD
  refine lv_istore_n (lv' := [(1, .int (-1)), (0, .ref mm)]) hx hb dX16_readOne_82 rfl hl (by decide) rfl (fun ls hl => ?_)
  refine lv_iload_n hx hb dX16_readOne_83 rfl (lv_at hl 0 rfl) ?_
  refine lv_if_lt (tgt := 97) hx hb dX16_readOne_84 (by decide) (fun c_14 => ?_) (fun c_14 => absurd (by decide) c_14)
  refine lv_aload_n hx hb dX16_readOne_97 rfl (lv_at hl 1 rfl) ?_
  obtain ⟨sq_15, hsq_15⟩ := hn.2.1 _ _ _ mw_x2164
  refine va_ldcwS hx hb hown hsq_15 dX16_readOne_98 ?_
  have hPc := hP.sub (ws' := [(mm, .inr (16, [.ref b0, .int 0, .ref b2, .ref b3, .int 0, .int 0, .int 0, .int 0, .int 0, .int 0, .int 0, .int (-1), .ref b12, .int 0, .ref b14, .int 0, .ref b16, .ref b17, .int 0, .int 0, .ref b20, .ref b21, .ref b22, .int 0, .ref b24, .int 0, .ref b26, .int 0, .ref b28, .int 0, .ref b30, .ref b31, .int 0, .ref b33, .ref b34, .int 0, .int 0, .int 0, .int 0, .ref b39, .ref b40, .ref b41, .ref b42, .ref b43, .ref b44, .ref b45, .int (-1), .long 0, .long 0, .long 0, .long 0, .long 0, .long 0, .long 0, .long 0, .ref b55, .ref b56, .ref b57, .ref b58, .ref b59, .long 0, .ref b61, .ref b62, .ref b63, .ref b64, .ref b65, .ref b66, .ref b67, .int (-1), .ref b69, .int 0, .int 0, .ref b72, .int 0, .ref b74, .long 0, .int 0, .int 0]))]) [0] rfl
  have hDc := hD.sub (ws' := [(mm, .inr (16, [.ref b0, .int 0, .ref b2, .ref b3, .int 0, .int 0, .int 0, .int 0, .int 0, .int 0, .int 0, .int (-1), .ref b12, .int 0, .ref b14, .int 0, .ref b16, .ref b17, .int 0, .int 0, .ref b20, .ref b21, .ref b22, .int 0, .ref b24, .int 0, .ref b26, .int 0, .ref b28, .int 0, .ref b30, .ref b31, .int 0, .ref b33, .ref b34, .int 0, .int 0, .int 0, .int 0, .ref b39, .ref b40, .ref b41, .ref b42, .ref b43, .ref b44, .ref b45, .int (-1), .long 0, .long 0, .long 0, .long 0, .long 0, .long 0, .long 0, .long 0, .ref b55, .ref b56, .ref b57, .ref b58, .ref b59, .long 0, .ref b61, .ref b62, .ref b63, .ref b64, .ref b65, .ref b66, .ref b67, .int (-1), .ref b69, .int 0, .int 0, .ref b72, .int 0, .ref b74, .long 0, .int 0, .int 0]))]) [0] (by decide) rfl
  refine go_i (k1 := 0) (n1 := 0) (wr := []) [0] [] (rn_V (As := [.ref sq_15]) (rest := []) (c_X16_is_q l D ct mm b0 b2 b3 b12 b14 b16 b17 b20 b21 b22 b24 b26 b28 b30 b31 b33 b34 b39 b40 b41 b42 b43 b44 b45 b55 b56 b57 b58 b59 b61 b62 b63 b64 b65 b66 b67 b69 b72 b74 sq_15  _) (cb_of (n := 1) hn mw_1962 mw_13 mw_1959 mhX16_is ⟨Nat.le_of_ble_eq_true rfl, Nat.le_of_ble_eq_true rfl⟩) hx hb hml hown hn hK hPc hDc mw_1961 mw_s186 (ci := 16) (q0 := 0) rfl rfl rfl rfl hl.1 (Nat.le_of_ble_eq_true rfl) dX16_readOne_101 ⟨(Nat.le_of_ble_eq_true rfl), (Nat.le_of_ble_eq_true rfl)⟩) hP hD hS hA rfl rfl (by decide) (by decide) (Nat.le_of_ble_eq_true rfl) (Nat.le_of_ble_eq_true rfl) (fun r_16 u_17 H locs hp_18 hP hD hS => ?_)
  have hr_16 := hp_18
  rw [show r_16 = 0 from hr_16]
  have hP : va_P D vwCl [(mm, .inr (16, [.ref b0, .int 0, .ref b2, .ref b3, .int 0, .int 0, .int 0, .int 0, .int 0, .int 0, .int 0, .int (-1), .ref b12, .int 0, .ref b14, .int 0, .ref b16, .ref b17, .int 0, .int 0, .ref b20, .ref b21, .ref b22, .int 0, .ref b24, .int 0, .ref b26, .int 0, .ref b28, .int 0, .ref b30, .ref b31, .int 0, .ref b33, .ref b34, .int 0, .int 0, .int 0, .int 0, .ref b39, .ref b40, .ref b41, .ref b42, .ref b43, .ref b44, .ref b45, .int (-1), .long 0, .long 0, .long 0, .long 0, .long 0, .long 0, .long 0, .long 0, .ref b55, .ref b56, .ref b57, .ref b58, .ref b59, .long 0, .ref b61, .ref b62, .ref b63, .ref b64, .ref b65, .ref b66, .ref b67, .int (-1), .ref b69, .int 0, .int 0, .ref b72, .int 0, .ref b74, .long 0, .int 0, .int 0]))] _ := hP
  have hD : va_D A [(mm, .inr (16, [.ref b0, .int 0, .ref b2, .ref b3, .int 0, .int 0, .int 0, .int 0, .int 0, .int 0, .int 0, .int (-1), .ref b12, .int 0, .ref b14, .int 0, .ref b16, .ref b17, .int 0, .int 0, .ref b20, .ref b21, .ref b22, .int 0, .ref b24, .int 0, .ref b26, .int 0, .ref b28, .int 0, .ref b30, .ref b31, .int 0, .ref b33, .ref b34, .int 0, .int 0, .int 0, .int 0, .ref b39, .ref b40, .ref b41, .ref b42, .ref b43, .ref b44, .ref b45, .int (-1), .long 0, .long 0, .long 0, .long 0, .long 0, .long 0, .long 0, .long 0, .ref b55, .ref b56, .ref b57, .ref b58, .ref b59, .long 0, .ref b61, .ref b62, .ref b63, .ref b64, .ref b65, .ref b66, .ref b67, .int (-1), .ref b69, .int 0, .int 0, .ref b72, .int 0, .ref b74, .long 0, .int 0, .int 0]))] := hD
  refine lv_if_ne (tgt := 117) hx hb dX16_readOne_104 (by decide) (fun c_19 => absurd (by decide) c_19) (fun c_19 => ?_)
  refine lv_aload_n hx hb dX16_readOne_107 rfl (lv_at hl 1 rfl) ?_
  obtain ⟨sq_20, hsq_20⟩ := hn.2.1 _ _ _ mw_x2165
  refine va_ldcwS hx hb hown hsq_20 dX16_readOne_108 ?_
  have hPc := hP.sub (ws' := [(mm, .inr (16, [.ref b0, .int 0, .ref b2, .ref b3, .int 0, .int 0, .int 0, .int 0, .int 0, .int 0, .int 0, .int (-1), .ref b12, .int 0, .ref b14, .int 0, .ref b16, .ref b17, .int 0, .int 0, .ref b20, .ref b21, .ref b22, .int 0, .ref b24, .int 0, .ref b26, .int 0, .ref b28, .int 0, .ref b30, .ref b31, .int 0, .ref b33, .ref b34, .int 0, .int 0, .int 0, .int 0, .ref b39, .ref b40, .ref b41, .ref b42, .ref b43, .ref b44, .ref b45, .int (-1), .long 0, .long 0, .long 0, .long 0, .long 0, .long 0, .long 0, .long 0, .ref b55, .ref b56, .ref b57, .ref b58, .ref b59, .long 0, .ref b61, .ref b62, .ref b63, .ref b64, .ref b65, .ref b66, .ref b67, .int (-1), .ref b69, .int 0, .int 0, .ref b72, .int 0, .ref b74, .long 0, .int 0, .int 0]))]) [0] rfl
  have hDc := hD.sub (ws' := [(mm, .inr (16, [.ref b0, .int 0, .ref b2, .ref b3, .int 0, .int 0, .int 0, .int 0, .int 0, .int 0, .int 0, .int (-1), .ref b12, .int 0, .ref b14, .int 0, .ref b16, .ref b17, .int 0, .int 0, .ref b20, .ref b21, .ref b22, .int 0, .ref b24, .int 0, .ref b26, .int 0, .ref b28, .int 0, .ref b30, .ref b31, .int 0, .ref b33, .ref b34, .int 0, .int 0, .int 0, .int 0, .ref b39, .ref b40, .ref b41, .ref b42, .ref b43, .ref b44, .ref b45, .int (-1), .long 0, .long 0, .long 0, .long 0, .long 0, .long 0, .long 0, .long 0, .ref b55, .ref b56, .ref b57, .ref b58, .ref b59, .long 0, .ref b61, .ref b62, .ref b63, .ref b64, .ref b65, .ref b66, .ref b67, .int (-1), .ref b69, .int 0, .int 0, .ref b72, .int 0, .ref b74, .long 0, .int 0, .int 0]))]) [0] (by decide) rfl
  refine go_i (k1 := 0) (n1 := 0) (wr := []) [0] [] (rn_V (As := [.ref sq_20]) (rest := []) (c_X16_is_q l D ct mm b0 b2 b3 b12 b14 b16 b17 b20 b21 b22 b24 b26 b28 b30 b31 b33 b34 b39 b40 b41 b42 b43 b44 b45 b55 b56 b57 b58 b59 b61 b62 b63 b64 b65 b66 b67 b69 b72 b74 sq_20  _) (cb_of (n := 1) hn mw_1962 mw_13 mw_1959 mhX16_is ⟨Nat.le_of_ble_eq_true rfl, Nat.le_of_ble_eq_true rfl⟩) hx hb hml hown hn hK hPc hDc mw_1961 mw_s186 (ci := 16) (q0 := 0) rfl rfl rfl rfl hl.1 (Nat.le_of_ble_eq_true rfl) dX16_readOne_111 ⟨(Nat.le_of_ble_eq_true rfl), (Nat.le_of_ble_eq_true rfl)⟩) hP hD hS hA rfl rfl (by decide) (by decide) (Nat.le_of_ble_eq_true rfl) (Nat.le_of_ble_eq_true rfl) (fun r_21 u_22 H locs hp_23 hP hD hS => ?_)
  have hr_21 := hp_23
  rw [show r_21 = 0 from hr_21]
  have hP : va_P D vwCl [(mm, .inr (16, [.ref b0, .int 0, .ref b2, .ref b3, .int 0, .int 0, .int 0, .int 0, .int 0, .int 0, .int 0, .int (-1), .ref b12, .int 0, .ref b14, .int 0, .ref b16, .ref b17, .int 0, .int 0, .ref b20, .ref b21, .ref b22, .int 0, .ref b24, .int 0, .ref b26, .int 0, .ref b28, .int 0, .ref b30, .ref b31, .int 0, .ref b33, .ref b34, .int 0, .int 0, .int 0, .int 0, .ref b39, .ref b40, .ref b41, .ref b42, .ref b43, .ref b44, .ref b45, .int (-1), .long 0, .long 0, .long 0, .long 0, .long 0, .long 0, .long 0, .long 0, .ref b55, .ref b56, .ref b57, .ref b58, .ref b59, .long 0, .ref b61, .ref b62, .ref b63, .ref b64, .ref b65, .ref b66, .ref b67, .int (-1), .ref b69, .int 0, .int 0, .ref b72, .int 0, .ref b74, .long 0, .int 0, .int 0]))] _ := hP
  have hD : va_D A [(mm, .inr (16, [.ref b0, .int 0, .ref b2, .ref b3, .int 0, .int 0, .int 0, .int 0, .int 0, .int 0, .int 0, .int (-1), .ref b12, .int 0, .ref b14, .int 0, .ref b16, .ref b17, .int 0, .int 0, .ref b20, .ref b21, .ref b22, .int 0, .ref b24, .int 0, .ref b26, .int 0, .ref b28, .int 0, .ref b30, .ref b31, .int 0, .ref b33, .ref b34, .int 0, .int 0, .int 0, .int 0, .ref b39, .ref b40, .ref b41, .ref b42, .ref b43, .ref b44, .ref b45, .int (-1), .long 0, .long 0, .long 0, .long 0, .long 0, .long 0, .long 0, .long 0, .ref b55, .ref b56, .ref b57, .ref b58, .ref b59, .long 0, .ref b61, .ref b62, .ref b63, .ref b64, .ref b65, .ref b66, .ref b67, .int (-1), .ref b69, .int 0, .int 0, .ref b72, .int 0, .ref b74, .long 0, .int 0, .int 0]))] := hD
  refine lv_if_eq (tgt := 170) hx hb dX16_readOne_114 (by decide) (fun c_24 => ?_) (fun c_24 => absurd (by decide) c_24)
  refine lv_aload_n hx hb dX16_readOne_170 rfl (lv_at hl 1 rfl) ?_
  obtain ⟨sq_25, hsq_25⟩ := hn.2.1 _ _ _ mw_x2166
  refine va_ldcwS hx hb hown hsq_25 dX16_readOne_171 ?_
  have hPc := hP.sub (ws' := [(mm, .inr (16, [.ref b0, .int 0, .ref b2, .ref b3, .int 0, .int 0, .int 0, .int 0, .int 0, .int 0, .int 0, .int (-1), .ref b12, .int 0, .ref b14, .int 0, .ref b16, .ref b17, .int 0, .int 0, .ref b20, .ref b21, .ref b22, .int 0, .ref b24, .int 0, .ref b26, .int 0, .ref b28, .int 0, .ref b30, .ref b31, .int 0, .ref b33, .ref b34, .int 0, .int 0, .int 0, .int 0, .ref b39, .ref b40, .ref b41, .ref b42, .ref b43, .ref b44, .ref b45, .int (-1), .long 0, .long 0, .long 0, .long 0, .long 0, .long 0, .long 0, .long 0, .ref b55, .ref b56, .ref b57, .ref b58, .ref b59, .long 0, .ref b61, .ref b62, .ref b63, .ref b64, .ref b65, .ref b66, .ref b67, .int (-1), .ref b69, .int 0, .int 0, .ref b72, .int 0, .ref b74, .long 0, .int 0, .int 0]))]) [0] rfl
  have hDc := hD.sub (ws' := [(mm, .inr (16, [.ref b0, .int 0, .ref b2, .ref b3, .int 0, .int 0, .int 0, .int 0, .int 0, .int 0, .int 0, .int (-1), .ref b12, .int 0, .ref b14, .int 0, .ref b16, .ref b17, .int 0, .int 0, .ref b20, .ref b21, .ref b22, .int 0, .ref b24, .int 0, .ref b26, .int 0, .ref b28, .int 0, .ref b30, .ref b31, .int 0, .ref b33, .ref b34, .int 0, .int 0, .int 0, .int 0, .ref b39, .ref b40, .ref b41, .ref b42, .ref b43, .ref b44, .ref b45, .int (-1), .long 0, .long 0, .long 0, .long 0, .long 0, .long 0, .long 0, .long 0, .ref b55, .ref b56, .ref b57, .ref b58, .ref b59, .long 0, .ref b61, .ref b62, .ref b63, .ref b64, .ref b65, .ref b66, .ref b67, .int (-1), .ref b69, .int 0, .int 0, .ref b72, .int 0, .ref b74, .long 0, .int 0, .int 0]))]) [0] (by decide) rfl
  refine go_i (k1 := 0) (n1 := 0) (wr := []) [0] [] (rn_V (As := [.ref sq_25]) (rest := []) (c_X16_is_q l D ct mm b0 b2 b3 b12 b14 b16 b17 b20 b21 b22 b24 b26 b28 b30 b31 b33 b34 b39 b40 b41 b42 b43 b44 b45 b55 b56 b57 b58 b59 b61 b62 b63 b64 b65 b66 b67 b69 b72 b74 sq_25  _) (cb_of (n := 1) hn mw_1962 mw_13 mw_1959 mhX16_is ⟨Nat.le_of_ble_eq_true rfl, Nat.le_of_ble_eq_true rfl⟩) hx hb hml hown hn hK hPc hDc mw_1961 mw_s186 (ci := 16) (q0 := 0) rfl rfl rfl rfl hl.1 (Nat.le_of_ble_eq_true rfl) dX16_readOne_174 ⟨(Nat.le_of_ble_eq_true rfl), (Nat.le_of_ble_eq_true rfl)⟩) hP hD hS hA rfl rfl (by decide) (by decide) (Nat.le_of_ble_eq_true rfl) (Nat.le_of_ble_eq_true rfl) (fun r_26 u_27 H locs hp_28 hP hD hS => ?_)
  have hr_26 := hp_28
  rw [show r_26 = 0 from hr_26]
  have hP : va_P D vwCl [(mm, .inr (16, [.ref b0, .int 0, .ref b2, .ref b3, .int 0, .int 0, .int 0, .int 0, .int 0, .int 0, .int 0, .int (-1), .ref b12, .int 0, .ref b14, .int 0, .ref b16, .ref b17, .int 0, .int 0, .ref b20, .ref b21, .ref b22, .int 0, .ref b24, .int 0, .ref b26, .int 0, .ref b28, .int 0, .ref b30, .ref b31, .int 0, .ref b33, .ref b34, .int 0, .int 0, .int 0, .int 0, .ref b39, .ref b40, .ref b41, .ref b42, .ref b43, .ref b44, .ref b45, .int (-1), .long 0, .long 0, .long 0, .long 0, .long 0, .long 0, .long 0, .long 0, .ref b55, .ref b56, .ref b57, .ref b58, .ref b59, .long 0, .ref b61, .ref b62, .ref b63, .ref b64, .ref b65, .ref b66, .ref b67, .int (-1), .ref b69, .int 0, .int 0, .ref b72, .int 0, .ref b74, .long 0, .int 0, .int 0]))] _ := hP
  have hD : va_D A [(mm, .inr (16, [.ref b0, .int 0, .ref b2, .ref b3, .int 0, .int 0, .int 0, .int 0, .int 0, .int 0, .int 0, .int (-1), .ref b12, .int 0, .ref b14, .int 0, .ref b16, .ref b17, .int 0, .int 0, .ref b20, .ref b21, .ref b22, .int 0, .ref b24, .int 0, .ref b26, .int 0, .ref b28, .int 0, .ref b30, .ref b31, .int 0, .ref b33, .ref b34, .int 0, .int 0, .int 0, .int 0, .ref b39, .ref b40, .ref b41, .ref b42, .ref b43, .ref b44, .ref b45, .int (-1), .long 0, .long 0, .long 0, .long 0, .long 0, .long 0, .long 0, .long 0, .ref b55, .ref b56, .ref b57, .ref b58, .ref b59, .long 0, .ref b61, .ref b62, .ref b63, .ref b64, .ref b65, .ref b66, .ref b67, .int (-1), .ref b69, .int 0, .int 0, .ref b72, .int 0, .ref b74, .long 0, .int 0, .int 0]))] := hD
  refine lv_if_eq (tgt := 184) hx hb dX16_readOne_177 (by decide) (fun c_29 => ?_) (fun c_29 => absurd (by decide) c_29)
  refine lv_aload_n hx hb dX16_readOne_184 rfl (lv_at hl 1 rfl) ?_
  obtain ⟨sq_30, hsq_30⟩ := hn.2.1 _ _ _ mw_x2167
  refine va_ldcwS hx hb hown hsq_30 dX16_readOne_185 ?_
  have hPc := hP.sub (ws' := [(mm, .inr (16, [.ref b0, .int 0, .ref b2, .ref b3, .int 0, .int 0, .int 0, .int 0, .int 0, .int 0, .int 0, .int (-1), .ref b12, .int 0, .ref b14, .int 0, .ref b16, .ref b17, .int 0, .int 0, .ref b20, .ref b21, .ref b22, .int 0, .ref b24, .int 0, .ref b26, .int 0, .ref b28, .int 0, .ref b30, .ref b31, .int 0, .ref b33, .ref b34, .int 0, .int 0, .int 0, .int 0, .ref b39, .ref b40, .ref b41, .ref b42, .ref b43, .ref b44, .ref b45, .int (-1), .long 0, .long 0, .long 0, .long 0, .long 0, .long 0, .long 0, .long 0, .ref b55, .ref b56, .ref b57, .ref b58, .ref b59, .long 0, .ref b61, .ref b62, .ref b63, .ref b64, .ref b65, .ref b66, .ref b67, .int (-1), .ref b69, .int 0, .int 0, .ref b72, .int 0, .ref b74, .long 0, .int 0, .int 0]))]) [0] rfl
  have hDc := hD.sub (ws' := [(mm, .inr (16, [.ref b0, .int 0, .ref b2, .ref b3, .int 0, .int 0, .int 0, .int 0, .int 0, .int 0, .int 0, .int (-1), .ref b12, .int 0, .ref b14, .int 0, .ref b16, .ref b17, .int 0, .int 0, .ref b20, .ref b21, .ref b22, .int 0, .ref b24, .int 0, .ref b26, .int 0, .ref b28, .int 0, .ref b30, .ref b31, .int 0, .ref b33, .ref b34, .int 0, .int 0, .int 0, .int 0, .ref b39, .ref b40, .ref b41, .ref b42, .ref b43, .ref b44, .ref b45, .int (-1), .long 0, .long 0, .long 0, .long 0, .long 0, .long 0, .long 0, .long 0, .ref b55, .ref b56, .ref b57, .ref b58, .ref b59, .long 0, .ref b61, .ref b62, .ref b63, .ref b64, .ref b65, .ref b66, .ref b67, .int (-1), .ref b69, .int 0, .int 0, .ref b72, .int 0, .ref b74, .long 0, .int 0, .int 0]))]) [0] (by decide) rfl
  refine go_i (k1 := 0) (n1 := 0) (wr := []) [0] [] (rn_V (As := [.ref sq_30]) (rest := []) (c_X16_is_q l D ct mm b0 b2 b3 b12 b14 b16 b17 b20 b21 b22 b24 b26 b28 b30 b31 b33 b34 b39 b40 b41 b42 b43 b44 b45 b55 b56 b57 b58 b59 b61 b62 b63 b64 b65 b66 b67 b69 b72 b74 sq_30  _) (cb_of (n := 1) hn mw_1962 mw_13 mw_1959 mhX16_is ⟨Nat.le_of_ble_eq_true rfl, Nat.le_of_ble_eq_true rfl⟩) hx hb hml hown hn hK hPc hDc mw_1961 mw_s186 (ci := 16) (q0 := 0) rfl rfl rfl rfl hl.1 (Nat.le_of_ble_eq_true rfl) dX16_readOne_188 ⟨(Nat.le_of_ble_eq_true rfl), (Nat.le_of_ble_eq_true rfl)⟩) hP hD hS hA rfl rfl (by decide) (by decide) (Nat.le_of_ble_eq_true rfl) (Nat.le_of_ble_eq_true rfl) (fun r_31 u_32 H locs hp_33 hP hD hS => ?_)
  have hr_31 := hp_33
  rw [show r_31 = 0 from hr_31]
  have hP : va_P D vwCl [(mm, .inr (16, [.ref b0, .int 0, .ref b2, .ref b3, .int 0, .int 0, .int 0, .int 0, .int 0, .int 0, .int 0, .int (-1), .ref b12, .int 0, .ref b14, .int 0, .ref b16, .ref b17, .int 0, .int 0, .ref b20, .ref b21, .ref b22, .int 0, .ref b24, .int 0, .ref b26, .int 0, .ref b28, .int 0, .ref b30, .ref b31, .int 0, .ref b33, .ref b34, .int 0, .int 0, .int 0, .int 0, .ref b39, .ref b40, .ref b41, .ref b42, .ref b43, .ref b44, .ref b45, .int (-1), .long 0, .long 0, .long 0, .long 0, .long 0, .long 0, .long 0, .long 0, .ref b55, .ref b56, .ref b57, .ref b58, .ref b59, .long 0, .ref b61, .ref b62, .ref b63, .ref b64, .ref b65, .ref b66, .ref b67, .int (-1), .ref b69, .int 0, .int 0, .ref b72, .int 0, .ref b74, .long 0, .int 0, .int 0]))] _ := hP
  have hD : va_D A [(mm, .inr (16, [.ref b0, .int 0, .ref b2, .ref b3, .int 0, .int 0, .int 0, .int 0, .int 0, .int 0, .int 0, .int (-1), .ref b12, .int 0, .ref b14, .int 0, .ref b16, .ref b17, .int 0, .int 0, .ref b20, .ref b21, .ref b22, .int 0, .ref b24, .int 0, .ref b26, .int 0, .ref b28, .int 0, .ref b30, .ref b31, .int 0, .ref b33, .ref b34, .int 0, .int 0, .int 0, .int 0, .ref b39, .ref b40, .ref b41, .ref b42, .ref b43, .ref b44, .ref b45, .int (-1), .long 0, .long 0, .long 0, .long 0, .long 0, .long 0, .long 0, .long 0, .ref b55, .ref b56, .ref b57, .ref b58, .ref b59, .long 0, .ref b61, .ref b62, .ref b63, .ref b64, .ref b65, .ref b66, .ref b67, .int (-1), .ref b69, .int 0, .int 0, .ref b72, .int 0, .ref b74, .long 0, .int 0, .int 0]))] := hD
  refine lv_if_eq (tgt := 198) hx hb dX16_readOne_191 (by decide) (fun c_34 => ?_) (fun c_34 => absurd (by decide) c_34)
  refine lv_iconst (v := 0) hx hb dX16_readOne_198 (by decide) ?_
  refine lv_istore_n (lv' := [(2, .int 0), (1, .int (-1)), (0, .ref mm)]) hx hb dX16_readOne_199 rfl hl (by decide) rfl (fun ls hl => ?_)
  refine lv_iload_n hx hb dX16_readOne_200 rfl (lv_at hl 0 rfl) ?_
  refine lv_if_le (tgt := 208) hx hb dX16_readOne_201 (by decide) (fun c_35 => ?_) (fun c_35 => absurd (by decide) c_35)
  refine lv_aload_n hx hb dX16_readOne_208 rfl (lv_at hl 2 rfl) ?_
  obtain ⟨sq_36, hsq_36⟩ := hn.2.1 _ _ _ mw_x2168
  refine va_ldcwS hx hb hown hsq_36 dX16_readOne_209 ?_
  have hPc := hP.sub (ws' := [(mm, .inr (16, [.ref b0, .int 0, .ref b2, .ref b3, .int 0, .int 0, .int 0, .int 0, .int 0, .int 0, .int 0, .int (-1), .ref b12, .int 0, .ref b14, .int 0, .ref b16, .ref b17, .int 0, .int 0, .ref b20, .ref b21, .ref b22, .int 0, .ref b24, .int 0, .ref b26, .int 0, .ref b28, .int 0, .ref b30, .ref b31, .int 0, .ref b33, .ref b34, .int 0, .int 0, .int 0, .int 0, .ref b39, .ref b40, .ref b41, .ref b42, .ref b43, .ref b44, .ref b45, .int (-1), .long 0, .long 0, .long 0, .long 0, .long 0, .long 0, .long 0, .long 0, .ref b55, .ref b56, .ref b57, .ref b58, .ref b59, .long 0, .ref b61, .ref b62, .ref b63, .ref b64, .ref b65, .ref b66, .ref b67, .int (-1), .ref b69, .int 0, .int 0, .ref b72, .int 0, .ref b74, .long 0, .int 0, .int 0]))]) [0] rfl
  have hDc := hD.sub (ws' := [(mm, .inr (16, [.ref b0, .int 0, .ref b2, .ref b3, .int 0, .int 0, .int 0, .int 0, .int 0, .int 0, .int 0, .int (-1), .ref b12, .int 0, .ref b14, .int 0, .ref b16, .ref b17, .int 0, .int 0, .ref b20, .ref b21, .ref b22, .int 0, .ref b24, .int 0, .ref b26, .int 0, .ref b28, .int 0, .ref b30, .ref b31, .int 0, .ref b33, .ref b34, .int 0, .int 0, .int 0, .int 0, .ref b39, .ref b40, .ref b41, .ref b42, .ref b43, .ref b44, .ref b45, .int (-1), .long 0, .long 0, .long 0, .long 0, .long 0, .long 0, .long 0, .long 0, .ref b55, .ref b56, .ref b57, .ref b58, .ref b59, .long 0, .ref b61, .ref b62, .ref b63, .ref b64, .ref b65, .ref b66, .ref b67, .int (-1), .ref b69, .int 0, .int 0, .ref b72, .int 0, .ref b74, .long 0, .int 0, .int 0]))]) [0] (by decide) rfl
  refine go_i (k1 := 0) (n1 := 0) (wr := []) [0] [] (rn_V (As := [.ref sq_36]) (rest := []) (c_X16_is_q l D ct mm b0 b2 b3 b12 b14 b16 b17 b20 b21 b22 b24 b26 b28 b30 b31 b33 b34 b39 b40 b41 b42 b43 b44 b45 b55 b56 b57 b58 b59 b61 b62 b63 b64 b65 b66 b67 b69 b72 b74 sq_36  _) (cb_of (n := 1) hn mw_1962 mw_13 mw_1959 mhX16_is ⟨Nat.le_of_ble_eq_true rfl, Nat.le_of_ble_eq_true rfl⟩) hx hb hml hown hn hK hPc hDc mw_1961 mw_s186 (ci := 16) (q0 := 0) rfl rfl rfl rfl hl.1 (Nat.le_of_ble_eq_true rfl) dX16_readOne_212 ⟨(Nat.le_of_ble_eq_true rfl), (Nat.le_of_ble_eq_true rfl)⟩) hP hD hS hA rfl rfl (by decide) (by decide) (Nat.le_of_ble_eq_true rfl) (Nat.le_of_ble_eq_true rfl) (fun r_37 u_38 H locs hp_39 hP hD hS => ?_)
  have hr_37 := hp_39
  rw [show r_37 = 0 from hr_37]
  have hP : va_P D vwCl [(mm, .inr (16, [.ref b0, .int 0, .ref b2, .ref b3, .int 0, .int 0, .int 0, .int 0, .int 0, .int 0, .int 0, .int (-1), .ref b12, .int 0, .ref b14, .int 0, .ref b16, .ref b17, .int 0, .int 0, .ref b20, .ref b21, .ref b22, .int 0, .ref b24, .int 0, .ref b26, .int 0, .ref b28, .int 0, .ref b30, .ref b31, .int 0, .ref b33, .ref b34, .int 0, .int 0, .int 0, .int 0, .ref b39, .ref b40, .ref b41, .ref b42, .ref b43, .ref b44, .ref b45, .int (-1), .long 0, .long 0, .long 0, .long 0, .long 0, .long 0, .long 0, .long 0, .ref b55, .ref b56, .ref b57, .ref b58, .ref b59, .long 0, .ref b61, .ref b62, .ref b63, .ref b64, .ref b65, .ref b66, .ref b67, .int (-1), .ref b69, .int 0, .int 0, .ref b72, .int 0, .ref b74, .long 0, .int 0, .int 0]))] _ := hP
  have hD : va_D A [(mm, .inr (16, [.ref b0, .int 0, .ref b2, .ref b3, .int 0, .int 0, .int 0, .int 0, .int 0, .int 0, .int 0, .int (-1), .ref b12, .int 0, .ref b14, .int 0, .ref b16, .ref b17, .int 0, .int 0, .ref b20, .ref b21, .ref b22, .int 0, .ref b24, .int 0, .ref b26, .int 0, .ref b28, .int 0, .ref b30, .ref b31, .int 0, .ref b33, .ref b34, .int 0, .int 0, .int 0, .int 0, .ref b39, .ref b40, .ref b41, .ref b42, .ref b43, .ref b44, .ref b45, .int (-1), .long 0, .long 0, .long 0, .long 0, .long 0, .long 0, .long 0, .long 0, .ref b55, .ref b56, .ref b57, .ref b58, .ref b59, .long 0, .ref b61, .ref b62, .ref b63, .ref b64, .ref b65, .ref b66, .ref b67, .int (-1), .ref b69, .int 0, .int 0, .ref b72, .int 0, .ref b74, .long 0, .int 0, .int 0]))] := hD
  refine lv_if_ne (tgt := 248) hx hb dX16_readOne_215 (by decide) (fun c_40 => absurd (by decide) c_40) (fun c_40 => ?_)
  refine lv_aload_n hx hb dX16_readOne_218 rfl (lv_at hl 2 rfl) ?_
  obtain ⟨sq_41, hsq_41⟩ := hn.2.1 _ _ _ mw_x2169
  refine va_ldcwS hx hb hown hsq_41 dX16_readOne_219 ?_
  have hPc := hP.sub (ws' := [(mm, .inr (16, [.ref b0, .int 0, .ref b2, .ref b3, .int 0, .int 0, .int 0, .int 0, .int 0, .int 0, .int 0, .int (-1), .ref b12, .int 0, .ref b14, .int 0, .ref b16, .ref b17, .int 0, .int 0, .ref b20, .ref b21, .ref b22, .int 0, .ref b24, .int 0, .ref b26, .int 0, .ref b28, .int 0, .ref b30, .ref b31, .int 0, .ref b33, .ref b34, .int 0, .int 0, .int 0, .int 0, .ref b39, .ref b40, .ref b41, .ref b42, .ref b43, .ref b44, .ref b45, .int (-1), .long 0, .long 0, .long 0, .long 0, .long 0, .long 0, .long 0, .long 0, .ref b55, .ref b56, .ref b57, .ref b58, .ref b59, .long 0, .ref b61, .ref b62, .ref b63, .ref b64, .ref b65, .ref b66, .ref b67, .int (-1), .ref b69, .int 0, .int 0, .ref b72, .int 0, .ref b74, .long 0, .int 0, .int 0]))]) [0] rfl
  have hDc := hD.sub (ws' := [(mm, .inr (16, [.ref b0, .int 0, .ref b2, .ref b3, .int 0, .int 0, .int 0, .int 0, .int 0, .int 0, .int 0, .int (-1), .ref b12, .int 0, .ref b14, .int 0, .ref b16, .ref b17, .int 0, .int 0, .ref b20, .ref b21, .ref b22, .int 0, .ref b24, .int 0, .ref b26, .int 0, .ref b28, .int 0, .ref b30, .ref b31, .int 0, .ref b33, .ref b34, .int 0, .int 0, .int 0, .int 0, .ref b39, .ref b40, .ref b41, .ref b42, .ref b43, .ref b44, .ref b45, .int (-1), .long 0, .long 0, .long 0, .long 0, .long 0, .long 0, .long 0, .long 0, .ref b55, .ref b56, .ref b57, .ref b58, .ref b59, .long 0, .ref b61, .ref b62, .ref b63, .ref b64, .ref b65, .ref b66, .ref b67, .int (-1), .ref b69, .int 0, .int 0, .ref b72, .int 0, .ref b74, .long 0, .int 0, .int 0]))]) [0] (by decide) rfl
  refine go_i (k1 := 0) (n1 := 0) (wr := []) [0] [] (rn_V (As := [.ref sq_41]) (rest := []) (c_X16_is_q l D ct mm b0 b2 b3 b12 b14 b16 b17 b20 b21 b22 b24 b26 b28 b30 b31 b33 b34 b39 b40 b41 b42 b43 b44 b45 b55 b56 b57 b58 b59 b61 b62 b63 b64 b65 b66 b67 b69 b72 b74 sq_41  _) (cb_of (n := 1) hn mw_1962 mw_13 mw_1959 mhX16_is ⟨Nat.le_of_ble_eq_true rfl, Nat.le_of_ble_eq_true rfl⟩) hx hb hml hown hn hK hPc hDc mw_1961 mw_s186 (ci := 16) (q0 := 0) rfl rfl rfl rfl hl.1 (Nat.le_of_ble_eq_true rfl) dX16_readOne_222 ⟨(Nat.le_of_ble_eq_true rfl), (Nat.le_of_ble_eq_true rfl)⟩) hP hD hS hA rfl rfl (by decide) (by decide) (Nat.le_of_ble_eq_true rfl) (Nat.le_of_ble_eq_true rfl) (fun r_42 u_43 H locs hp_44 hP hD hS => ?_)
  have hr_42 := hp_44
  rw [show r_42 = 0 from hr_42]
  have hP : va_P D vwCl [(mm, .inr (16, [.ref b0, .int 0, .ref b2, .ref b3, .int 0, .int 0, .int 0, .int 0, .int 0, .int 0, .int 0, .int (-1), .ref b12, .int 0, .ref b14, .int 0, .ref b16, .ref b17, .int 0, .int 0, .ref b20, .ref b21, .ref b22, .int 0, .ref b24, .int 0, .ref b26, .int 0, .ref b28, .int 0, .ref b30, .ref b31, .int 0, .ref b33, .ref b34, .int 0, .int 0, .int 0, .int 0, .ref b39, .ref b40, .ref b41, .ref b42, .ref b43, .ref b44, .ref b45, .int (-1), .long 0, .long 0, .long 0, .long 0, .long 0, .long 0, .long 0, .long 0, .ref b55, .ref b56, .ref b57, .ref b58, .ref b59, .long 0, .ref b61, .ref b62, .ref b63, .ref b64, .ref b65, .ref b66, .ref b67, .int (-1), .ref b69, .int 0, .int 0, .ref b72, .int 0, .ref b74, .long 0, .int 0, .int 0]))] _ := hP
  have hD : va_D A [(mm, .inr (16, [.ref b0, .int 0, .ref b2, .ref b3, .int 0, .int 0, .int 0, .int 0, .int 0, .int 0, .int 0, .int (-1), .ref b12, .int 0, .ref b14, .int 0, .ref b16, .ref b17, .int 0, .int 0, .ref b20, .ref b21, .ref b22, .int 0, .ref b24, .int 0, .ref b26, .int 0, .ref b28, .int 0, .ref b30, .ref b31, .int 0, .ref b33, .ref b34, .int 0, .int 0, .int 0, .int 0, .ref b39, .ref b40, .ref b41, .ref b42, .ref b43, .ref b44, .ref b45, .int (-1), .long 0, .long 0, .long 0, .long 0, .long 0, .long 0, .long 0, .long 0, .ref b55, .ref b56, .ref b57, .ref b58, .ref b59, .long 0, .ref b61, .ref b62, .ref b63, .ref b64, .ref b65, .ref b66, .ref b67, .int (-1), .ref b69, .int 0, .int 0, .ref b72, .int 0, .ref b74, .long 0, .int 0, .int 0]))] := hD
  refine lv_if_ne (tgt := 248) hx hb dX16_readOne_225 (by decide) (fun c_45 => absurd (by decide) c_45) (fun c_45 => ?_)
  refine lv_aload_n hx hb dX16_readOne_228 rfl (lv_at hl 2 rfl) ?_
  obtain ⟨sq_46, hsq_46⟩ := hn.2.1 _ _ _ mw_x2170
  refine va_ldcwS hx hb hown hsq_46 dX16_readOne_229 ?_
  have hPc := hP.sub (ws' := [(mm, .inr (16, [.ref b0, .int 0, .ref b2, .ref b3, .int 0, .int 0, .int 0, .int 0, .int 0, .int 0, .int 0, .int (-1), .ref b12, .int 0, .ref b14, .int 0, .ref b16, .ref b17, .int 0, .int 0, .ref b20, .ref b21, .ref b22, .int 0, .ref b24, .int 0, .ref b26, .int 0, .ref b28, .int 0, .ref b30, .ref b31, .int 0, .ref b33, .ref b34, .int 0, .int 0, .int 0, .int 0, .ref b39, .ref b40, .ref b41, .ref b42, .ref b43, .ref b44, .ref b45, .int (-1), .long 0, .long 0, .long 0, .long 0, .long 0, .long 0, .long 0, .long 0, .ref b55, .ref b56, .ref b57, .ref b58, .ref b59, .long 0, .ref b61, .ref b62, .ref b63, .ref b64, .ref b65, .ref b66, .ref b67, .int (-1), .ref b69, .int 0, .int 0, .ref b72, .int 0, .ref b74, .long 0, .int 0, .int 0]))]) [0] rfl
  have hDc := hD.sub (ws' := [(mm, .inr (16, [.ref b0, .int 0, .ref b2, .ref b3, .int 0, .int 0, .int 0, .int 0, .int 0, .int 0, .int 0, .int (-1), .ref b12, .int 0, .ref b14, .int 0, .ref b16, .ref b17, .int 0, .int 0, .ref b20, .ref b21, .ref b22, .int 0, .ref b24, .int 0, .ref b26, .int 0, .ref b28, .int 0, .ref b30, .ref b31, .int 0, .ref b33, .ref b34, .int 0, .int 0, .int 0, .int 0, .ref b39, .ref b40, .ref b41, .ref b42, .ref b43, .ref b44, .ref b45, .int (-1), .long 0, .long 0, .long 0, .long 0, .long 0, .long 0, .long 0, .long 0, .ref b55, .ref b56, .ref b57, .ref b58, .ref b59, .long 0, .ref b61, .ref b62, .ref b63, .ref b64, .ref b65, .ref b66, .ref b67, .int (-1), .ref b69, .int 0, .int 0, .ref b72, .int 0, .ref b74, .long 0, .int 0, .int 0]))]) [0] (by decide) rfl
  refine go_i (k1 := 0) (n1 := 0) (wr := []) [0] [] (rn_V (As := [.ref sq_46]) (rest := []) (c_X16_is_q l D ct mm b0 b2 b3 b12 b14 b16 b17 b20 b21 b22 b24 b26 b28 b30 b31 b33 b34 b39 b40 b41 b42 b43 b44 b45 b55 b56 b57 b58 b59 b61 b62 b63 b64 b65 b66 b67 b69 b72 b74 sq_46  _) (cb_of (n := 1) hn mw_1962 mw_13 mw_1959 mhX16_is ⟨Nat.le_of_ble_eq_true rfl, Nat.le_of_ble_eq_true rfl⟩) hx hb hml hown hn hK hPc hDc mw_1961 mw_s186 (ci := 16) (q0 := 0) rfl rfl rfl rfl hl.1 (Nat.le_of_ble_eq_true rfl) dX16_readOne_232 ⟨(Nat.le_of_ble_eq_true rfl), (Nat.le_of_ble_eq_true rfl)⟩) hP hD hS hA rfl rfl (by decide) (by decide) (Nat.le_of_ble_eq_true rfl) (Nat.le_of_ble_eq_true rfl) (fun r_47 u_48 H locs hp_49 hP hD hS => ?_)
  have hr_47 := hp_49
  rw [show r_47 = 0 from hr_47]
  have hP : va_P D vwCl [(mm, .inr (16, [.ref b0, .int 0, .ref b2, .ref b3, .int 0, .int 0, .int 0, .int 0, .int 0, .int 0, .int 0, .int (-1), .ref b12, .int 0, .ref b14, .int 0, .ref b16, .ref b17, .int 0, .int 0, .ref b20, .ref b21, .ref b22, .int 0, .ref b24, .int 0, .ref b26, .int 0, .ref b28, .int 0, .ref b30, .ref b31, .int 0, .ref b33, .ref b34, .int 0, .int 0, .int 0, .int 0, .ref b39, .ref b40, .ref b41, .ref b42, .ref b43, .ref b44, .ref b45, .int (-1), .long 0, .long 0, .long 0, .long 0, .long 0, .long 0, .long 0, .long 0, .ref b55, .ref b56, .ref b57, .ref b58, .ref b59, .long 0, .ref b61, .ref b62, .ref b63, .ref b64, .ref b65, .ref b66, .ref b67, .int (-1), .ref b69, .int 0, .int 0, .ref b72, .int 0, .ref b74, .long 0, .int 0, .int 0]))] _ := hP
  have hD : va_D A [(mm, .inr (16, [.ref b0, .int 0, .ref b2, .ref b3, .int 0, .int 0, .int 0, .int 0, .int 0, .int 0, .int 0, .int (-1), .ref b12, .int 0, .ref b14, .int 0, .ref b16, .ref b17, .int 0, .int 0, .ref b20, .ref b21, .ref b22, .int 0, .ref b24, .int 0, .ref b26, .int 0, .ref b28, .int 0, .ref b30, .ref b31, .int 0, .ref b33, .ref b34, .int 0, .int 0, .int 0, .int 0, .ref b39, .ref b40, .ref b41, .ref b42, .ref b43, .ref b44, .ref b45, .int (-1), .long 0, .long 0, .long 0, .long 0, .long 0, .long 0, .long 0, .long 0, .ref b55, .ref b56, .ref b57, .ref b58, .ref b59, .long 0, .ref b61, .ref b62, .ref b63, .ref b64, .ref b65, .ref b66, .ref b67, .int (-1), .ref b69, .int 0, .int 0, .ref b72, .int 0, .ref b74, .long 0, .int 0, .int 0]))] := hD
  refine lv_if_ne (tgt := 248) hx hb dX16_readOne_235 (by decide) (fun c_50 => absurd (by decide) c_50) (fun c_50 => ?_)
  refine lv_aload_n hx hb dX16_readOne_238 rfl (lv_at hl 2 rfl) ?_
  obtain ⟨sq_51, hsq_51⟩ := hn.2.1 _ _ _ mw_x2171
  refine va_ldcwS hx hb hown hsq_51 dX16_readOne_239 ?_
  have hPc := hP.sub (ws' := [(mm, .inr (16, [.ref b0, .int 0, .ref b2, .ref b3, .int 0, .int 0, .int 0, .int 0, .int 0, .int 0, .int 0, .int (-1), .ref b12, .int 0, .ref b14, .int 0, .ref b16, .ref b17, .int 0, .int 0, .ref b20, .ref b21, .ref b22, .int 0, .ref b24, .int 0, .ref b26, .int 0, .ref b28, .int 0, .ref b30, .ref b31, .int 0, .ref b33, .ref b34, .int 0, .int 0, .int 0, .int 0, .ref b39, .ref b40, .ref b41, .ref b42, .ref b43, .ref b44, .ref b45, .int (-1), .long 0, .long 0, .long 0, .long 0, .long 0, .long 0, .long 0, .long 0, .ref b55, .ref b56, .ref b57, .ref b58, .ref b59, .long 0, .ref b61, .ref b62, .ref b63, .ref b64, .ref b65, .ref b66, .ref b67, .int (-1), .ref b69, .int 0, .int 0, .ref b72, .int 0, .ref b74, .long 0, .int 0, .int 0]))]) [0] rfl
  have hDc := hD.sub (ws' := [(mm, .inr (16, [.ref b0, .int 0, .ref b2, .ref b3, .int 0, .int 0, .int 0, .int 0, .int 0, .int 0, .int 0, .int (-1), .ref b12, .int 0, .ref b14, .int 0, .ref b16, .ref b17, .int 0, .int 0, .ref b20, .ref b21, .ref b22, .int 0, .ref b24, .int 0, .ref b26, .int 0, .ref b28, .int 0, .ref b30, .ref b31, .int 0, .ref b33, .ref b34, .int 0, .int 0, .int 0, .int 0, .ref b39, .ref b40, .ref b41, .ref b42, .ref b43, .ref b44, .ref b45, .int (-1), .long 0, .long 0, .long 0, .long 0, .long 0, .long 0, .long 0, .long 0, .ref b55, .ref b56, .ref b57, .ref b58, .ref b59, .long 0, .ref b61, .ref b62, .ref b63, .ref b64, .ref b65, .ref b66, .ref b67, .int (-1), .ref b69, .int 0, .int 0, .ref b72, .int 0, .ref b74, .long 0, .int 0, .int 0]))]) [0] (by decide) rfl
  refine go_i (k1 := 0) (n1 := 0) (wr := []) [0] [] (rn_V (As := [.ref sq_51]) (rest := []) (c_X16_is_q l D ct mm b0 b2 b3 b12 b14 b16 b17 b20 b21 b22 b24 b26 b28 b30 b31 b33 b34 b39 b40 b41 b42 b43 b44 b45 b55 b56 b57 b58 b59 b61 b62 b63 b64 b65 b66 b67 b69 b72 b74 sq_51  _) (cb_of (n := 1) hn mw_1962 mw_13 mw_1959 mhX16_is ⟨Nat.le_of_ble_eq_true rfl, Nat.le_of_ble_eq_true rfl⟩) hx hb hml hown hn hK hPc hDc mw_1961 mw_s186 (ci := 16) (q0 := 0) rfl rfl rfl rfl hl.1 (Nat.le_of_ble_eq_true rfl) dX16_readOne_242 ⟨(Nat.le_of_ble_eq_true rfl), (Nat.le_of_ble_eq_true rfl)⟩) hP hD hS hA rfl rfl (by decide) (by decide) (Nat.le_of_ble_eq_true rfl) (Nat.le_of_ble_eq_true rfl) (fun r_52 u_53 H locs hp_54 hP hD hS => ?_)
  have hr_52 := hp_54
  rw [show r_52 = 0 from hr_52]
  have hP : va_P D vwCl [(mm, .inr (16, [.ref b0, .int 0, .ref b2, .ref b3, .int 0, .int 0, .int 0, .int 0, .int 0, .int 0, .int 0, .int (-1), .ref b12, .int 0, .ref b14, .int 0, .ref b16, .ref b17, .int 0, .int 0, .ref b20, .ref b21, .ref b22, .int 0, .ref b24, .int 0, .ref b26, .int 0, .ref b28, .int 0, .ref b30, .ref b31, .int 0, .ref b33, .ref b34, .int 0, .int 0, .int 0, .int 0, .ref b39, .ref b40, .ref b41, .ref b42, .ref b43, .ref b44, .ref b45, .int (-1), .long 0, .long 0, .long 0, .long 0, .long 0, .long 0, .long 0, .long 0, .ref b55, .ref b56, .ref b57, .ref b58, .ref b59, .long 0, .ref b61, .ref b62, .ref b63, .ref b64, .ref b65, .ref b66, .ref b67, .int (-1), .ref b69, .int 0, .int 0, .ref b72, .int 0, .ref b74, .long 0, .int 0, .int 0]))] _ := hP
  have hD : va_D A [(mm, .inr (16, [.ref b0, .int 0, .ref b2, .ref b3, .int 0, .int 0, .int 0, .int 0, .int 0, .int 0, .int 0, .int (-1), .ref b12, .int 0, .ref b14, .int 0, .ref b16, .ref b17, .int 0, .int 0, .ref b20, .ref b21, .ref b22, .int 0, .ref b24, .int 0, .ref b26, .int 0, .ref b28, .int 0, .ref b30, .ref b31, .int 0, .ref b33, .ref b34, .int 0, .int 0, .int 0, .int 0, .ref b39, .ref b40, .ref b41, .ref b42, .ref b43, .ref b44, .ref b45, .int (-1), .long 0, .long 0, .long 0, .long 0, .long 0, .long 0, .long 0, .long 0, .ref b55, .ref b56, .ref b57, .ref b58, .ref b59, .long 0, .ref b61, .ref b62, .ref b63, .ref b64, .ref b65, .ref b66, .ref b67, .int (-1), .ref b69, .int 0, .int 0, .ref b72, .int 0, .ref b74, .long 0, .int 0, .int 0]))] := hD
  refine lv_if_eq (tgt := 254) hx hb dX16_readOne_245 (by decide) (fun c_55 => ?_) (fun c_55 => absurd (by decide) c_55)
  refine lv_aload_n hx hb dX16_readOne_254 rfl (lv_at hl 2 rfl) ?_
  refine lv_iload_n hx hb dX16_readOne_255 rfl (lv_at hl 0 rfl) ?_
  refine lv_if_ne (tgt := 263) hx hb dX16_readOne_256 (by decide) (fun c_56 => absurd (by decide) c_56) (fun c_56 => ?_)
  refine lv_iconst (v := 1) hx hb dX16_readOne_259 (by decide) ?_
  refine lv_goto (tgt := 264) hx hb dX16_readOne_260 (by decide) ?_
  have hPc := hP.sub (ws' := [(mm, .inr (16, [.ref b0, .int 0, .ref b2, .ref b3, .int 0, .int 0, .int 0, .int 0, .int 0, .int 0, .int 0, .int (-1), .ref b12, .int 0, .ref b14, .int 0, .ref b16, .ref b17, .int 0, .int 0, .ref b20, .ref b21, .ref b22, .int 0, .ref b24, .int 0, .ref b26, .int 0, .ref b28, .int 0, .ref b30, .ref b31, .int 0, .ref b33, .ref b34, .int 0, .int 0, .int 0, .int 0, .ref b39, .ref b40, .ref b41, .ref b42, .ref b43, .ref b44, .ref b45, .int (-1), .long 0, .long 0, .long 0, .long 0, .long 0, .long 0, .long 0, .long 0, .ref b55, .ref b56, .ref b57, .ref b58, .ref b59, .long 0, .ref b61, .ref b62, .ref b63, .ref b64, .ref b65, .ref b66, .ref b67, .int (-1), .ref b69, .int 0, .int 0, .ref b72, .int 0, .ref b74, .long 0, .int 0, .int 0]))]) [0] rfl
  have hDc := hD.sub (ws' := [(mm, .inr (16, [.ref b0, .int 0, .ref b2, .ref b3, .int 0, .int 0, .int 0, .int 0, .int 0, .int 0, .int 0, .int (-1), .ref b12, .int 0, .ref b14, .int 0, .ref b16, .ref b17, .int 0, .int 0, .ref b20, .ref b21, .ref b22, .int 0, .ref b24, .int 0, .ref b26, .int 0, .ref b28, .int 0, .ref b30, .ref b31, .int 0, .ref b33, .ref b34, .int 0, .int 0, .int 0, .int 0, .ref b39, .ref b40, .ref b41, .ref b42, .ref b43, .ref b44, .ref b45, .int (-1), .long 0, .long 0, .long 0, .long 0, .long 0, .long 0, .long 0, .long 0, .ref b55, .ref b56, .ref b57, .ref b58, .ref b59, .long 0, .ref b61, .ref b62, .ref b63, .ref b64, .ref b65, .ref b66, .ref b67, .int (-1), .ref b69, .int 0, .int 0, .ref b72, .int 0, .ref b74, .long 0, .int 0, .int 0]))]) [0] (by decide) rfl
  refine go_v (k1 := 0) (n1 := 0) (wr := []) [0] [] (rn_V (As := [.int 1]) (rest := []) (c_X16_must_t l D ct mm b0 b2 b3 b12 b14 b16 b17 b20 b21 b22 b24 b26 b28 b30 b31 b33 b34 b39 b40 b41 b42 b43 b44 b45 b55 b56 b57 b58 b59 b61 b62 b63 b64 b65 b66 b67 b69 b72 b74  _) (cb_of (n := 1) hn mw_1927 mw_13 mw_1924 mhX16_must ⟨Nat.le_of_ble_eq_true rfl, Nat.le_of_ble_eq_true rfl⟩) hx hb hml hown hn hK hPc hDc mw_1926 mw_s182 (ci := 16) (q0 := 0) rfl rfl rfl rfl hl.1 (Nat.le_of_ble_eq_true rfl) dX16_readOne_264 ⟨(Nat.le_of_ble_eq_true rfl), (Nat.le_of_ble_eq_true rfl)⟩) hP hD hS hA rfl rfl (by decide) (by decide) (Nat.le_of_ble_eq_true rfl) (Nat.le_of_ble_eq_true rfl) (fun u_58 H locs hp_59 hP hD hS => ?_)
  have hP : va_P D vwCl [(mm, .inr (16, [.ref b0, .int 0, .ref b2, .ref b3, .int 0, .int 0, .int 0, .int 0, .int 0, .int 0, .int 0, .int (-1), .ref b12, .int 0, .ref b14, .int 0, .ref b16, .ref b17, .int 0, .int 0, .ref b20, .ref b21, .ref b22, .int 0, .ref b24, .int 0, .ref b26, .int 0, .ref b28, .int 0, .ref b30, .ref b31, .int 0, .ref b33, .ref b34, .int 0, .int 0, .int 0, .int 0, .ref b39, .ref b40, .ref b41, .ref b42, .ref b43, .ref b44, .ref b45, .int (-1), .long 0, .long 0, .long 0, .long 0, .long 0, .long 0, .long 0, .long 0, .ref b55, .ref b56, .ref b57, .ref b58, .ref b59, .long 0, .ref b61, .ref b62, .ref b63, .ref b64, .ref b65, .ref b66, .ref b67, .int (-1), .ref b69, .int 0, .int 0, .ref b72, .int 0, .ref b74, .long 0, .int 0, .int 0]))] _ := hP
  have hD : va_D A [(mm, .inr (16, [.ref b0, .int 0, .ref b2, .ref b3, .int 0, .int 0, .int 0, .int 0, .int 0, .int 0, .int 0, .int (-1), .ref b12, .int 0, .ref b14, .int 0, .ref b16, .ref b17, .int 0, .int 0, .ref b20, .ref b21, .ref b22, .int 0, .ref b24, .int 0, .ref b26, .int 0, .ref b28, .int 0, .ref b30, .ref b31, .int 0, .ref b33, .ref b34, .int 0, .int 0, .int 0, .int 0, .ref b39, .ref b40, .ref b41, .ref b42, .ref b43, .ref b44, .ref b45, .int (-1), .long 0, .long 0, .long 0, .long 0, .long 0, .long 0, .long 0, .long 0, .ref b55, .ref b56, .ref b57, .ref b58, .ref b59, .long 0, .ref b61, .ref b62, .ref b63, .ref b64, .ref b65, .ref b66, .ref b67, .int (-1), .ref b69, .int 0, .int 0, .ref b72, .int 0, .ref b74, .long 0, .int 0, .int 0]))] := hD
  refine lv_aload_n hx hb dX16_readOne_267 rfl (lv_at hl 2 rfl) ?_
  refine lv_iconst (v := (-1)) hx hb dX16_readOne_268 (by decide) ?_
  refine va_put (D := D) (ci := 16) (v := .int (-1)) (ty := .int) (C := RX16) (T := TX16) (N := 78) hx hb (htX16 hn) (fun _ h => h) tyX16 tyX16_ok nmX16 hown hK hP hD hS 0 rfl rfl 11 (by decide) (hn.get mw_1550 rfl) (fun _ h9 => h9) rfl (by decide +kernel) rfl rfl (Nat.le_of_ble_eq_true rfl) dX16_readOne_269 (fun H locs hP hD hS => ?_)
  have hP : va_P D vwCl [(mm, .inr (16, [.ref b0, .int 0, .ref b2, .ref b3, .int 0, .int 0, .int 0, .int 0, .int 0, .int 0, .int 0, .int (-1), .ref b12, .int 0, .ref b14, .int 0, .ref b16, .ref b17, .int 0, .int 0, .ref b20, .ref b21, .ref b22, .int 0, .ref b24, .int 0, .ref b26, .int 0, .ref b28, .int 0, .ref b30, .ref b31, .int 0, .ref b33, .ref b34, .int 0, .int 0, .int 0, .int 0, .ref b39, .ref b40, .ref b41, .ref b42, .ref b43, .ref b44, .ref b45, .int (-1), .long 0, .long 0, .long 0, .long 0, .long 0, .long 0, .long 0, .long 0, .ref b55, .ref b56, .ref b57, .ref b58, .ref b59, .long 0, .ref b61, .ref b62, .ref b63, .ref b64, .ref b65, .ref b66, .ref b67, .int (-1), .ref b69, .int 0, .int 0, .ref b72, .int 0, .ref b74, .long 0, .int 0, .int 0]))] _ := hP
  have hD : va_D A [(mm, .inr (16, [.ref b0, .int 0, .ref b2, .ref b3, .int 0, .int 0, .int 0, .int 0, .int 0, .int 0, .int 0, .int (-1), .ref b12, .int 0, .ref b14, .int 0, .ref b16, .ref b17, .int 0, .int 0, .ref b20, .ref b21, .ref b22, .int 0, .ref b24, .int 0, .ref b26, .int 0, .ref b28, .int 0, .ref b30, .ref b31, .int 0, .ref b33, .ref b34, .int 0, .int 0, .int 0, .int 0, .ref b39, .ref b40, .ref b41, .ref b42, .ref b43, .ref b44, .ref b45, .int (-1), .long 0, .long 0, .long 0, .long 0, .long 0, .long 0, .long 0, .long 0, .ref b55, .ref b56, .ref b57, .ref b58, .ref b59, .long 0, .ref b61, .ref b62, .ref b63, .ref b64, .ref b65, .ref b66, .ref b67, .int (-1), .ref b69, .int 0, .int 0, .ref b72, .int 0, .ref b74, .long 0, .int 0, .int 0]))] := hD
  refine lv_aload_n hx hb dX16_readOne_272 rfl (lv_at hl 2 rfl) ?_
  have hPc := hP.sub (ws' := [(mm, .inr (16, [.ref b0, .int 0, .ref b2, .ref b3, .int 0, .int 0, .int 0, .int 0, .int 0, .int 0, .int 0, .int (-1), .ref b12, .int 0, .ref b14, .int 0, .ref b16, .ref b17, .int 0, .int 0, .ref b20, .ref b21, .ref b22, .int 0, .ref b24, .int 0, .ref b26, .int 0, .ref b28, .int 0, .ref b30, .ref b31, .int 0, .ref b33, .ref b34, .int 0, .int 0, .int 0, .int 0, .ref b39, .ref b40, .ref b41, .ref b42, .ref b43, .ref b44, .ref b45, .int (-1), .long 0, .long 0, .long 0, .long 0, .long 0, .long 0, .long 0, .long 0, .ref b55, .ref b56, .ref b57, .ref b58, .ref b59, .long 0, .ref b61, .ref b62, .ref b63, .ref b64, .ref b65, .ref b66, .ref b67, .int (-1), .ref b69, .int 0, .int 0, .ref b72, .int 0, .ref b74, .long 0, .int 0, .int 0]))]) [0] rfl
  have hDc := hD.sub (ws' := [(mm, .inr (16, [.ref b0, .int 0, .ref b2, .ref b3, .int 0, .int 0, .int 0, .int 0, .int 0, .int 0, .int 0, .int (-1), .ref b12, .int 0, .ref b14, .int 0, .ref b16, .ref b17, .int 0, .int 0, .ref b20, .ref b21, .ref b22, .int 0, .ref b24, .int 0, .ref b26, .int 0, .ref b28, .int 0, .ref b30, .ref b31, .int 0, .ref b33, .ref b34, .int 0, .int 0, .int 0, .int 0, .ref b39, .ref b40, .ref b41, .ref b42, .ref b43, .ref b44, .ref b45, .int (-1), .long 0, .long 0, .long 0, .long 0, .long 0, .long 0, .long 0, .long 0, .ref b55, .ref b56, .ref b57, .ref b58, .ref b59, .long 0, .ref b61, .ref b62, .ref b63, .ref b64, .ref b65, .ref b66, .ref b67, .int (-1), .ref b69, .int 0, .int 0, .ref b72, .int 0, .ref b74, .long 0, .int 0, .int 0]))]) [0] (by decide) rfl
  have hFc := va_free (wc := [(mm, .inr (16, [.ref b0, .int 0, .ref b2, .ref b3, .int 0, .int 0, .int 0, .int 0, .int 0, .int 0, .int 0, .int (-1), .ref b12, .int 0, .ref b14, .int 0, .ref b16, .ref b17, .int 0, .int 0, .ref b20, .ref b21, .ref b22, .int 0, .ref b24, .int 0, .ref b26, .int 0, .ref b28, .int 0, .ref b30, .ref b31, .int 0, .ref b33, .ref b34, .int 0, .int 0, .int 0, .int 0, .ref b39, .ref b40, .ref b41, .ref b42, .ref b43, .ref b44, .ref b45, .int (-1), .long 0, .long 0, .long 0, .long 0, .long 0, .long 0, .long 0, .long 0, .ref b55, .ref b56, .ref b57, .ref b58, .ref b59, .long 0, .ref b61, .ref b62, .ref b63, .ref b64, .ref b65, .ref b66, .ref b67, .int (-1), .ref b69, .int 0, .int 0, .ref b72, .int 0, .ref b74, .long 0, .int 0, .int 0]))]) hD hS hA [0] rfl
  refine go_x (k1 := 1) (n1 := 7) (wr := []) (w1 := [(mm, .inr (16, [.ref b0, .int 0, .ref b2, .ref b3, .int 0, .int 0, .int 0, .int 0, .int 0, .int 0, .int 0, .int (-1), .ref b12, .int 0, .ref b14, .int 0, .ref b16, .ref b17, .int 0, .int 0, .ref b20, .ref b21, .ref b22, .int 0, .ref b24, .int 0, .ref b26, .int 0, .ref b28, .int 0, .ref b30, .ref b31, .int 0, .ref b33, .ref b34, .int 0, .int 0, .int 0, .int 0, .ref b39, .ref b40, .ref b41, .ref b42, .ref b43, .ref b44, .ref b45, .int (-1), .long 0, .long 0, .long 0, .long 0, .long 0, .long 0, .long 0, .long 0, .ref b55, .ref b56, .ref b57, .ref b58, .ref b59, .long 0, .ref b61, .ref b62, .ref b63, .ref b64, .ref b65, .ref b66, .ref b67, .int (-1), .ref b69, .int 0, .int 0, .ref b72, .int 0, .ref b74, .long 0, .int 0, .int 0]))]) [0] [] (rx_V (As := []) (rest := []) (c_X16_readRelation_x l hst D ct mm b0 b2 b3 b12 b14 b16 b17 b20 b21 b22 b24 b26 b28 b30 b31 b33 b34 b39 b40 b41 b42 b43 b44 b45 b55 b56 b57 b58 b59 b61 b62 b63 b64 b65 b66 b67 b69 b72 b74  _) (cb_of (n := 0) hn mw_2027 mw_13 mw_2024 mhX16_readRelation ⟨Nat.le_of_ble_eq_true rfl, Nat.le_of_ble_eq_true rfl⟩) hx hb hml hown hn hK hPc hDc hZ hS hFc mw_2026 mw_s191 (ci := 16) (q0 := 0) rfl rfl rfl rfl hl.1 (Nat.le_of_ble_eq_true rfl) dX16_readOne_273 ⟨(Nat.le_of_ble_eq_true rfl), (Nat.le_of_ble_eq_true rfl)⟩) hP hD hS hA rfl rfl (by decide) (by decide) (Nat.le_of_ble_eq_true rfl) (Nat.le_of_ble_eq_true rfl) (fun xq_60 xf_61 H locs hx7 hx6 hP hD hS => ?_)
  have hP : va_P D vwCl [(mm, .inr (16, [.ref b0, .int 0, .ref b2, .ref b3, .int 0, .int 0, .int 0, .int 0, .int 0, .int 0, .int 0, .int (-1), .ref b12, .int 0, .ref b14, .int 0, .ref b16, .ref b17, .int 0, .int 0, .ref b20, .ref b21, .ref b22, .int 0, .ref b24, .int 0, .ref b26, .int 0, .ref b28, .int 0, .ref b30, .ref b31, .int 0, .ref b33, .ref b34, .int 0, .int 0, .int 0, .int 0, .ref b39, .ref b40, .ref b41, .ref b42, .ref b43, .ref b44, .ref b45, .int (-1), .long 0, .long 0, .long 0, .long 0, .long 0, .long 0, .long 0, .long 0, .ref b55, .ref b56, .ref b57, .ref b58, .ref b59, .long 0, .ref b61, .ref b62, .ref b63, .ref b64, .ref b65, .ref b66, .ref b67, .int (-1), .ref b69, .int 0, .int 0, .ref b72, .int 0, .ref b74, .long 0, .int 0, .int 0])), (xq_60, .inr (15, xf_61))] _ := hP
  have hD : va_D A [(mm, .inr (16, [.ref b0, .int 0, .ref b2, .ref b3, .int 0, .int 0, .int 0, .int 0, .int 0, .int 0, .int 0, .int (-1), .ref b12, .int 0, .ref b14, .int 0, .ref b16, .ref b17, .int 0, .int 0, .ref b20, .ref b21, .ref b22, .int 0, .ref b24, .int 0, .ref b26, .int 0, .ref b28, .int 0, .ref b30, .ref b31, .int 0, .ref b33, .ref b34, .int 0, .int 0, .int 0, .int 0, .ref b39, .ref b40, .ref b41, .ref b42, .ref b43, .ref b44, .ref b45, .int (-1), .long 0, .long 0, .long 0, .long 0, .long 0, .long 0, .long 0, .long 0, .ref b55, .ref b56, .ref b57, .ref b58, .ref b59, .long 0, .ref b61, .ref b62, .ref b63, .ref b64, .ref b65, .ref b66, .ref b67, .int (-1), .ref b69, .int 0, .int 0, .ref b72, .int 0, .ref b74, .long 0, .int 0, .int 0])), (xq_60, .inr (15, xf_61))] := hD
  exact x_out htab hlocks hK hP hD hS hx7 hx6 [0, 1] rfl (by decide) rfl (kq := 1) rfl (Nat.le_of_ble_eq_true rfl) (Nat.le_of_ble_eq_true rfl)
set_option maxHeartbeats 4000000 in
set_option maxRecDepth 100000 in
theorem c_X16_readAll_x (l : Launch) (hst : l.stackTraces = false) (D : va_G) (ct : Nat → ClassId) (mm : Nat) (b0 : Nat) (b2 : Nat) (b3 : Nat) (b12 : Nat) (b14 : Nat) (b16 : Nat) (b17 : Nat) (b20 : Nat) (b21 : Nat) (b22 : Nat) (b24 : Nat) (b26 : Nat) (b28 : Nat) (b30 : Nat) (b31 : Nat) (b33 : Nat) (b34 : Nat) (b39 : Nat) (b40 : Nat) (b41 : Nat) (b42 : Nat) (b43 : Nat) (b44 : Nat) (b45 : Nat) (b55 : Nat) (b56 : Nat) (b57 : Nat) (b58 : Nat) (b59 : Nat) (b61 : Nat) (b62 : Nat) (b63 : Nat) (b64 : Nat) (b65 : Nat) (b66 : Nat) (b67 : Nat) (b69 : Nat) (b72 : Nat) (b74 : Nat)  : KX l yX16_readAll cX16_readAll 2 (some (.object "FilterForgeModel$Filter")) 14 359 D ct [.ref mm] [(mm, .inr (16, [.ref b0, .int 0, .ref b2, .ref b3, .int 0, .int 0, .int 0, .int 0, .int 0, .int 0, .int 0, .int (-1), .ref b12, .int 0, .ref b14, .int 0, .ref b16, .ref b17, .int 0, .int 0, .ref b20, .ref b21, .ref b22, .int 0, .ref b24, .int 0, .ref b26, .int 0, .ref b28, .int 0, .ref b30, .ref b31, .int 0, .ref b33, .ref b34, .int 0, .int 0, .int 0, .int 0, .ref b39, .ref b40, .ref b41, .ref b42, .ref b43, .ref b44, .ref b45, .int (-1), .long 0, .long 0, .long 0, .long 0, .long 0, .long 0, .long 0, .long 0, .ref b55, .ref b56, .ref b57, .ref b58, .ref b59, .long 0, .ref b61, .ref b62, .ref b63, .ref b64, .ref b65, .ref b66, .ref b67, .int (-1), .ref b69, .int 0, .int 0, .ref b72, .int 0, .ref b74, .long 0, .int 0, .int 0]))] 1 7 [(mm, .inr (16, [.ref b0, .int 0, .ref b2, .ref b3, .int 0, .int 0, .int 0, .int 0, .int 0, .int 0, .int 0, .int (-1), .ref b12, .int 0, .ref b14, .int 0, .ref b16, .ref b17, .int 0, .int 0, .ref b20, .ref b21, .ref b22, .int 0, .ref b24, .int 0, .ref b26, .int 0, .ref b28, .int 0, .ref b30, .ref b31, .int 0, .ref b33, .ref b34, .int 0, .int 0, .int 0, .int 0, .ref b39, .ref b40, .ref b41, .ref b42, .ref b43, .ref b44, .ref b45, .int (-1), .long 0, .long 0, .long 0, .long 0, .long 0, .long 0, .long 0, .long 0, .ref b55, .ref b56, .ref b57, .ref b58, .ref b59, .long 0, .ref b61, .ref b62, .ref b63, .ref b64, .ref b65, .ref b66, .ref b67, .int (-1), .ref b69, .int 0, .int 0, .ref b72, .int 0, .ref b74, .long 0, .int 0, .int 0]))] := by
  refine KX_of (by decide) (Nat.le_of_ble_eq_true rfl) (fun p e s m below meth c A C0 htab hZ hA hS hP hD ls hl => ?_)
  obtain ⟨hx, hb, hr, hown, hin, hml, hlocks, hn, hK⟩ := C0
  have hl : lv_has ls 2 [(0, .ref mm)] := hl
  refine lv_aload_n hx hb dX16_readAll_0 rfl (lv_at hl 0 rfl) ?_
  have hPc := hP.sub (ws' := [(mm, .inr (16, [.ref b0, .int 0, .ref b2, .ref b3, .int 0, .int 0, .int 0, .int 0, .int 0, .int 0, .int 0, .int (-1), .ref b12, .int 0, .ref b14, .int 0, .ref b16, .ref b17, .int 0, .int 0, .ref b20, .ref b21, .ref b22, .int 0, .ref b24, .int 0, .ref b26, .int 0, .ref b28, .int 0, .ref b30, .ref b31, .int 0, .ref b33, .ref b34, .int 0, .int 0, .int 0, .int 0, .ref b39, .ref b40, .ref b41, .ref b42, .ref b43, .ref b44, .ref b45, .int (-1), .long 0, .long 0, .long 0, .long 0, .long 0, .long 0, .long 0, .long 0, .ref b55, .ref b56, .ref b57, .ref b58, .ref b59, .long 0, .ref b61, .ref b62, .ref b63, .ref b64, .ref b65, .ref b66, .ref b67, .int (-1), .ref b69, .int 0, .int 0, .ref b72, .int 0, .ref b74, .long 0, .int 0, .int 0]))]) [0] rfl
  have hDc := hD.sub (ws' := [(mm, .inr (16, [.ref b0, .int 0, .ref b2, .ref b3, .int 0, .int 0, .int 0, .int 0, .int 0, .int 0, .int 0, .int (-1), .ref b12, .int 0, .ref b14, .int 0, .ref b16, .ref b17, .int 0, .int 0, .ref b20, .ref b21, .ref b22, .int 0, .ref b24, .int 0, .ref b26, .int 0, .ref b28, .int 0, .ref b30, .ref b31, .int 0, .ref b33, .ref b34, .int 0, .int 0, .int 0, .int 0, .ref b39, .ref b40, .ref b41, .ref b42, .ref b43, .ref b44, .ref b45, .int (-1), .long 0, .long 0, .long 0, .long 0, .long 0, .long 0, .long 0, .long 0, .ref b55, .ref b56, .ref b57, .ref b58, .ref b59, .long 0, .ref b61, .ref b62, .ref b63, .ref b64, .ref b65, .ref b66, .ref b67, .int (-1), .ref b69, .int 0, .int 0, .ref b72, .int 0, .ref b74, .long 0, .int 0, .int 0]))]) [0] (by decide) rfl
  have hFc := va_free (wc := [(mm, .inr (16, [.ref b0, .int 0, .ref b2, .ref b3, .int 0, .int 0, .int 0, .int 0, .int 0, .int 0, .int 0, .int (-1), .ref b12, .int 0, .ref b14, .int 0, .ref b16, .ref b17, .int 0, .int 0, .ref b20, .ref b21, .ref b22, .int 0, .ref b24, .int 0, .ref b26, .int 0, .ref b28, .int 0, .ref b30, .ref b31, .int 0, .ref b33, .ref b34, .int 0, .int 0, .int 0, .int 0, .ref b39, .ref b40, .ref b41, .ref b42, .ref b43, .ref b44, .ref b45, .int (-1), .long 0, .long 0, .long 0, .long 0, .long 0, .long 0, .long 0, .long 0, .ref b55, .ref b56, .ref b57, .ref b58, .ref b59, .long 0, .ref b61, .ref b62, .ref b63, .ref b64, .ref b65, .ref b66, .ref b67, .int (-1), .ref b69, .int 0, .int 0, .ref b72, .int 0, .ref b74, .long 0, .int 0, .int 0]))]) hD hS hA [0] rfl
  refine go_x (k1 := 1) (n1 := 7) (wr := []) (w1 := [(mm, .inr (16, [.ref b0, .int 0, .ref b2, .ref b3, .int 0, .int 0, .int 0, .int 0, .int 0, .int 0, .int 0, .int (-1), .ref b12, .int 0, .ref b14, .int 0, .ref b16, .ref b17, .int 0, .int 0, .ref b20, .ref b21, .ref b22, .int 0, .ref b24, .int 0, .ref b26, .int 0, .ref b28, .int 0, .ref b30, .ref b31, .int 0, .ref b33, .ref b34, .int 0, .int 0, .int 0, .int 0, .ref b39, .ref b40, .ref b41, .ref b42, .ref b43, .ref b44, .ref b45, .int (-1), .long 0, .long 0, .long 0, .long 0, .long 0, .long 0, .long 0, .long 0, .ref b55, .ref b56, .ref b57, .ref b58, .ref b59, .long 0, .ref b61, .ref b62, .ref b63, .ref b64, .ref b65, .ref b66, .ref b67, .int (-1), .ref b69, .int 0, .int 0, .ref b72, .int 0, .ref b74, .long 0, .int 0, .int 0]))]) [0] [] (rx_V (As := []) (rest := []) (c_X16_readOne_x l hst D ct mm b0 b2 b3 b12 b14 b16 b17 b20 b21 b22 b24 b26 b28 b30 b31 b33 b34 b39 b40 b41 b42 b43 b44 b45 b55 b56 b57 b58 b59 b61 b62 b63 b64 b65 b66 b67 b69 b72 b74  _) (cb_of (n := 0) hn mw_1957 mw_13 mw_1954 mhX16_readOne ⟨Nat.le_of_ble_eq_true rfl, Nat.le_of_ble_eq_true rfl⟩) hx hb hml hown hn hK hPc hDc hZ hS hFc mw_1956 mw_s185 (ci := 16) (q0 := 0) rfl rfl rfl rfl hl.1 (Nat.le_of_ble_eq_true rfl) dX16_readAll_1 ⟨(Nat.le_of_ble_eq_true rfl), (Nat.le_of_ble_eq_true rfl)⟩) hP hD hS hA rfl rfl (by decide) (by decide) (Nat.le_of_ble_eq_true rfl) (Nat.le_of_ble_eq_true rfl) (fun xq_1 xf_2 H locs hx7 hx6 hP hD hS => ?_)
  have hP : va_P D vwCl [(mm, .inr (16, [.ref b0, .int 0, .ref b2, .ref b3, .int 0, .int 0, .int 0, .int 0, .int 0, .int 0, .int 0, .int (-1), .ref b12, .int 0, .ref b14, .int 0, .ref b16, .ref b17, .int 0, .int 0, .ref b20, .ref b21, .ref b22, .int 0, .ref b24, .int 0, .ref b26, .int 0, .ref b28, .int 0, .ref b30, .ref b31, .int 0, .ref b33, .ref b34, .int 0, .int 0, .int 0, .int 0, .ref b39, .ref b40, .ref b41, .ref b42, .ref b43, .ref b44, .ref b45, .int (-1), .long 0, .long 0, .long 0, .long 0, .long 0, .long 0, .long 0, .long 0, .ref b55, .ref b56, .ref b57, .ref b58, .ref b59, .long 0, .ref b61, .ref b62, .ref b63, .ref b64, .ref b65, .ref b66, .ref b67, .int (-1), .ref b69, .int 0, .int 0, .ref b72, .int 0, .ref b74, .long 0, .int 0, .int 0])), (xq_1, .inr (15, xf_2))] _ := hP
  have hD : va_D A [(mm, .inr (16, [.ref b0, .int 0, .ref b2, .ref b3, .int 0, .int 0, .int 0, .int 0, .int 0, .int 0, .int 0, .int (-1), .ref b12, .int 0, .ref b14, .int 0, .ref b16, .ref b17, .int 0, .int 0, .ref b20, .ref b21, .ref b22, .int 0, .ref b24, .int 0, .ref b26, .int 0, .ref b28, .int 0, .ref b30, .ref b31, .int 0, .ref b33, .ref b34, .int 0, .int 0, .int 0, .int 0, .ref b39, .ref b40, .ref b41, .ref b42, .ref b43, .ref b44, .ref b45, .int (-1), .long 0, .long 0, .long 0, .long 0, .long 0, .long 0, .long 0, .long 0, .ref b55, .ref b56, .ref b57, .ref b58, .ref b59, .long 0, .ref b61, .ref b62, .ref b63, .ref b64, .ref b65, .ref b66, .ref b67, .int (-1), .ref b69, .int 0, .int 0, .ref b72, .int 0, .ref b74, .long 0, .int 0, .int 0])), (xq_1, .inr (15, xf_2))] := hD
  exact x_out htab hlocks hK hP hD hS hx7 hx6 [0, 1] rfl (by decide) rfl (kq := 1) rfl (Nat.le_of_ble_eq_true rfl) (Nat.le_of_ble_eq_true rfl)
set_option maxHeartbeats 4000000 in
set_option maxRecDepth 100000 in
theorem c_X16_readFilter_x (l : Launch) (hst : l.stackTraces = false) (D : va_G) (ct : Nat → ClassId) (mm : Nat) (b0 : Nat) (b2 : Nat) (b3 : Nat) (b12 : Nat) (b14 : Nat) (b16 : Nat) (b17 : Nat) (b20 : Nat) (b21 : Nat) (b22 : Nat) (b24 : Nat) (b26 : Nat) (b28 : Nat) (b30 : Nat) (b31 : Nat) (b33 : Nat) (b34 : Nat) (b39 : Nat) (b40 : Nat) (b41 : Nat) (b42 : Nat) (b43 : Nat) (b44 : Nat) (b45 : Nat) (b55 : Nat) (b56 : Nat) (b57 : Nat) (b58 : Nat) (b59 : Nat) (b61 : Nat) (b62 : Nat) (b63 : Nat) (b64 : Nat) (b65 : Nat) (b66 : Nat) (b67 : Nat) (b69 : Nat) (b72 : Nat) (b74 : Nat)  : KX l yX16_readFilter cX16_readFilter 2 (some (.object "FilterForgeModel$Filter")) 15 380 D ct [.ref mm] [(mm, .inr (16, [.ref b0, .int 0, .ref b2, .ref b3, .int 0, .int 0, .int 0, .int 0, .int 0, .int 0, .int 0, .int (-1), .ref b12, .int 0, .ref b14, .int 0, .ref b16, .ref b17, .int 0, .int 0, .ref b20, .ref b21, .ref b22, .int 0, .ref b24, .int 0, .ref b26, .int 0, .ref b28, .int 0, .ref b30, .ref b31, .int 0, .ref b33, .ref b34, .int 0, .int 0, .int 0, .int 0, .ref b39, .ref b40, .ref b41, .ref b42, .ref b43, .ref b44, .ref b45, .int (-1), .long 0, .long 0, .long 0, .long 0, .long 0, .long 0, .long 0, .long 0, .ref b55, .ref b56, .ref b57, .ref b58, .ref b59, .long 0, .ref b61, .ref b62, .ref b63, .ref b64, .ref b65, .ref b66, .ref b67, .int (-1), .ref b69, .int 0, .int 0, .ref b72, .int 0, .ref b74, .long 0, .int 0, .int 0]))] 1 7 [(mm, .inr (16, [.ref b0, .int 0, .ref b2, .ref b3, .int 0, .int 0, .int 0, .int 0, .int 0, .int 0, .int 0, .int (-1), .ref b12, .int 0, .ref b14, .int 0, .ref b16, .ref b17, .int 0, .int 0, .ref b20, .ref b21, .ref b22, .int 0, .ref b24, .int 0, .ref b26, .int 0, .ref b28, .int 0, .ref b30, .ref b31, .int 0, .ref b33, .ref b34, .int 0, .int 0, .int 0, .int 0, .ref b39, .ref b40, .ref b41, .ref b42, .ref b43, .ref b44, .ref b45, .int (-1), .long 0, .long 0, .long 0, .long 0, .long 0, .long 0, .long 0, .long 0, .ref b55, .ref b56, .ref b57, .ref b58, .ref b59, .long 0, .ref b61, .ref b62, .ref b63, .ref b64, .ref b65, .ref b66, .ref b67, .int (-1), .ref b69, .int 0, .int 0, .ref b72, .int 0, .ref b74, .long 0, .int 0, .int 0]))] := by
  refine KX_of (by decide) (Nat.le_of_ble_eq_true rfl) (fun p e s m below meth c A C0 htab hZ hA hS hP hD ls hl => ?_)
  obtain ⟨hx, hb, hr, hown, hin, hml, hlocks, hn, hK⟩ := C0
  have hl : lv_has ls 2 [(0, .ref mm)] := hl
  refine lv_aload_n hx hb dX16_readFilter_0 rfl (lv_at hl 0 rfl) ?_
  have hPc := hP.sub (ws' := [(mm, .inr (16, [.ref b0, .int 0, .ref b2, .ref b3, .int 0, .int 0, .int 0, .int 0, .int 0, .int 0, .int 0, .int (-1), .ref b12, .int 0, .ref b14, .int 0, .ref b16, .ref b17, .int 0, .int 0, .ref b20, .ref b21, .ref b22, .int 0, .ref b24, .int 0, .ref b26, .int 0, .ref b28, .int 0, .ref b30, .ref b31, .int 0, .ref b33, .ref b34, .int 0, .int 0, .int 0, .int 0, .ref b39, .ref b40, .ref b41, .ref b42, .ref b43, .ref b44, .ref b45, .int (-1), .long 0, .long 0, .long 0, .long 0, .long 0, .long 0, .long 0, .long 0, .ref b55, .ref b56, .ref b57, .ref b58, .ref b59, .long 0, .ref b61, .ref b62, .ref b63, .ref b64, .ref b65, .ref b66, .ref b67, .int (-1), .ref b69, .int 0, .int 0, .ref b72, .int 0, .ref b74, .long 0, .int 0, .int 0]))]) [0] rfl
  have hDc := hD.sub (ws' := [(mm, .inr (16, [.ref b0, .int 0, .ref b2, .ref b3, .int 0, .int 0, .int 0, .int 0, .int 0, .int 0, .int 0, .int (-1), .ref b12, .int 0, .ref b14, .int 0, .ref b16, .ref b17, .int 0, .int 0, .ref b20, .ref b21, .ref b22, .int 0, .ref b24, .int 0, .ref b26, .int 0, .ref b28, .int 0, .ref b30, .ref b31, .int 0, .ref b33, .ref b34, .int 0, .int 0, .int 0, .int 0, .ref b39, .ref b40, .ref b41, .ref b42, .ref b43, .ref b44, .ref b45, .int (-1), .long 0, .long 0, .long 0, .long 0, .long 0, .long 0, .long 0, .long 0, .ref b55, .ref b56, .ref b57, .ref b58, .ref b59, .long 0, .ref b61, .ref b62, .ref b63, .ref b64, .ref b65, .ref b66, .ref b67, .int (-1), .ref b69, .int 0, .int 0, .ref b72, .int 0, .ref b74, .long 0, .int 0, .int 0]))]) [0] (by decide) rfl
  have hFc := va_free (wc := [(mm, .inr (16, [.ref b0, .int 0, .ref b2, .ref b3, .int 0, .int 0, .int 0, .int 0, .int 0, .int 0, .int 0, .int (-1), .ref b12, .int 0, .ref b14, .int 0, .ref b16, .ref b17, .int 0, .int 0, .ref b20, .ref b21, .ref b22, .int 0, .ref b24, .int 0, .ref b26, .int 0, .ref b28, .int 0, .ref b30, .ref b31, .int 0, .ref b33, .ref b34, .int 0, .int 0, .int 0, .int 0, .ref b39, .ref b40, .ref b41, .ref b42, .ref b43, .ref b44, .ref b45, .int (-1), .long 0, .long 0, .long 0, .long 0, .long 0, .long 0, .long 0, .long 0, .ref b55, .ref b56, .ref b57, .ref b58, .ref b59, .long 0, .ref b61, .ref b62, .ref b63, .ref b64, .ref b65, .ref b66, .ref b67, .int (-1), .ref b69, .int 0, .int 0, .ref b72, .int 0, .ref b74, .long 0, .int 0, .int 0]))]) hD hS hA [0] rfl
  refine go_x (k1 := 1) (n1 := 7) (wr := []) (w1 := [(mm, .inr (16, [.ref b0, .int 0, .ref b2, .ref b3, .int 0, .int 0, .int 0, .int 0, .int 0, .int 0, .int 0, .int (-1), .ref b12, .int 0, .ref b14, .int 0, .ref b16, .ref b17, .int 0, .int 0, .ref b20, .ref b21, .ref b22, .int 0, .ref b24, .int 0, .ref b26, .int 0, .ref b28, .int 0, .ref b30, .ref b31, .int 0, .ref b33, .ref b34, .int 0, .int 0, .int 0, .int 0, .ref b39, .ref b40, .ref b41, .ref b42, .ref b43, .ref b44, .ref b45, .int (-1), .long 0, .long 0, .long 0, .long 0, .long 0, .long 0, .long 0, .long 0, .ref b55, .ref b56, .ref b57, .ref b58, .ref b59, .long 0, .ref b61, .ref b62, .ref b63, .ref b64, .ref b65, .ref b66, .ref b67, .int (-1), .ref b69, .int 0, .int 0, .ref b72, .int 0, .ref b74, .long 0, .int 0, .int 0]))]) [0] [] (rx_V (As := []) (rest := []) (c_X16_readAll_x l hst D ct mm b0 b2 b3 b12 b14 b16 b17 b20 b21 b22 b24 b26 b28 b30 b31 b33 b34 b39 b40 b41 b42 b43 b44 b45 b55 b56 b57 b58 b59 b61 b62 b63 b64 b65 b66 b67 b69 b72 b74  _) (cb_of (n := 0) hn mw_1953 mw_13 mw_1950 mhX16_readAll ⟨Nat.le_of_ble_eq_true rfl, Nat.le_of_ble_eq_true rfl⟩) hx hb hml hown hn hK hPc hDc hZ hS hFc mw_1952 mw_s184 (ci := 16) (q0 := 0) rfl rfl rfl rfl hl.1 (Nat.le_of_ble_eq_true rfl) dX16_readFilter_1 ⟨(Nat.le_of_ble_eq_true rfl), (Nat.le_of_ble_eq_true rfl)⟩) hP hD hS hA rfl rfl (by decide) (by decide) (Nat.le_of_ble_eq_true rfl) (Nat.le_of_ble_eq_true rfl) (fun xq_1 xf_2 H locs hx7 hx6 hP hD hS => ?_)
  have hP : va_P D vwCl [(mm, .inr (16, [.ref b0, .int 0, .ref b2, .ref b3, .int 0, .int 0, .int 0, .int 0, .int 0, .int 0, .int 0, .int (-1), .ref b12, .int 0, .ref b14, .int 0, .ref b16, .ref b17, .int 0, .int 0, .ref b20, .ref b21, .ref b22, .int 0, .ref b24, .int 0, .ref b26, .int 0, .ref b28, .int 0, .ref b30, .ref b31, .int 0, .ref b33, .ref b34, .int 0, .int 0, .int 0, .int 0, .ref b39, .ref b40, .ref b41, .ref b42, .ref b43, .ref b44, .ref b45, .int (-1), .long 0, .long 0, .long 0, .long 0, .long 0, .long 0, .long 0, .long 0, .ref b55, .ref b56, .ref b57, .ref b58, .ref b59, .long 0, .ref b61, .ref b62, .ref b63, .ref b64, .ref b65, .ref b66, .ref b67, .int (-1), .ref b69, .int 0, .int 0, .ref b72, .int 0, .ref b74, .long 0, .int 0, .int 0])), (xq_1, .inr (15, xf_2))] _ := hP
  have hD : va_D A [(mm, .inr (16, [.ref b0, .int 0, .ref b2, .ref b3, .int 0, .int 0, .int 0, .int 0, .int 0, .int 0, .int 0, .int (-1), .ref b12, .int 0, .ref b14, .int 0, .ref b16, .ref b17, .int 0, .int 0, .ref b20, .ref b21, .ref b22, .int 0, .ref b24, .int 0, .ref b26, .int 0, .ref b28, .int 0, .ref b30, .ref b31, .int 0, .ref b33, .ref b34, .int 0, .int 0, .int 0, .int 0, .ref b39, .ref b40, .ref b41, .ref b42, .ref b43, .ref b44, .ref b45, .int (-1), .long 0, .long 0, .long 0, .long 0, .long 0, .long 0, .long 0, .long 0, .ref b55, .ref b56, .ref b57, .ref b58, .ref b59, .long 0, .ref b61, .ref b62, .ref b63, .ref b64, .ref b65, .ref b66, .ref b67, .int (-1), .ref b69, .int 0, .int 0, .ref b72, .int 0, .ref b74, .long 0, .int 0, .int 0])), (xq_1, .inr (15, xf_2))] := hD
  exact x_out htab hlocks hK hP hD hS hx7 hx6 [0, 1] rfl (by decide) rfl (kq := 1) rfl (Nat.le_of_ble_eq_true rfl) (Nat.le_of_ble_eq_true rfl)
set_option maxHeartbeats 4000000 in
set_option maxRecDepth 100000 in
theorem c_X16_compile (l : Launch) (hst : l.stackTraces = false) (D : va_G) (ct : Nat → ClassId) (mm : Nat) (b0 : Nat) (b2 : Nat) (b3 : Nat) (b12 : Nat) (b14 : Nat) (b16 : Nat) (b17 : Nat) (b20 : Nat) (b21 : Nat) (b22 : Nat) (b24 : Nat) (b26 : Nat) (b28 : Nat) (b30 : Nat) (b31 : Nat) (b33 : Nat) (b34 : Nat) (b39 : Nat) (b40 : Nat) (b41 : Nat) (b42 : Nat) (b43 : Nat) (b44 : Nat) (b45 : Nat) (b55 : Nat) (b56 : Nat) (b57 : Nat) (b58 : Nat) (b59 : Nat) (b61 : Nat) (b62 : Nat) (b63 : Nat) (b64 : Nat) (b65 : Nat) (b66 : Nat) (b67 : Nat) (b69 : Nat) (b72 : Nat) (b74 : Nat)  : ∀ sz : Nat, Met l yX16_compile [Cond.codeWith yX16_compile cX16_compile 8 (some .int) [(33, 58, 61, 186)]] ({ frames := 16, cells := 1, slots := 7, locals := 401 }) (va_Pc [.ref mm] (PreZ D ct [(mm, .inr (16, [.ref b0, .int 0, .ref b2, .ref b3, .int 0, .int 0, .int 0, .int 0, .int 0, .int 0, .int 0, .int 0, .ref b12, .int 0, .ref b14, .int 0, .ref b16, .ref b17, .int 0, .int 0, .ref b20, .ref b21, .ref b22, .int 0, .ref b24, .int 0, .ref b26, .int 0, .ref b28, .int 0, .ref b30, .ref b31, .int 0, .ref b33, .ref b34, .int 0, .int 0, .int 0, .int 0, .ref b39, .ref b40, .ref b41, .ref b42, .ref b43, .ref b44, .ref b45, .int (-1), .long 0, .long 0, .long 0, .long 0, .long 0, .long 0, .long 0, .long 0, .ref b55, .ref b56, .ref b57, .ref b58, .ref b59, .long 0, .ref b61, .ref b62, .ref b63, .ref b64, .ref b65, .ref b66, .ref b67, .int (-1), .ref b69, .int 0, .int 0, .ref b72, .int 0, .ref b74, .long 0, .int 0, .int 0]))] sz)) (va_Qi (fun r _ => r = -1) (PoC D (va_A [(mm, .inr (16, [.ref b0, .int 0, .ref b2, .ref b3, .int 0, .int 0, .int 0, .int 0, .int 0, .int 0, .int 0, .int 0, .ref b12, .int 0, .ref b14, .int 0, .ref b16, .ref b17, .int 0, .int 0, .ref b20, .ref b21, .ref b22, .int 0, .ref b24, .int 0, .ref b26, .int 0, .ref b28, .int 0, .ref b30, .ref b31, .int 0, .ref b33, .ref b34, .int 0, .int 0, .int 0, .int 0, .ref b39, .ref b40, .ref b41, .ref b42, .ref b43, .ref b44, .ref b45, .int (-1), .long 0, .long 0, .long 0, .long 0, .long 0, .long 0, .long 0, .long 0, .ref b55, .ref b56, .ref b57, .ref b58, .ref b59, .long 0, .ref b61, .ref b62, .ref b63, .ref b64, .ref b65, .ref b66, .ref b67, .int (-1), .ref b69, .int 0, .int 0, .ref b72, .int 0, .ref b74, .long 0, .int 0, .int 0]))] sz) (fun (_ : Unit) => [])) (va_A [(mm, .inr (16, [.ref b0, .int 0, .ref b2, .ref b3, .int 0, .int 0, .int 0, .int 0, .int 0, .int 0, .int 0, .int 0, .ref b12, .int 0, .ref b14, .int 0, .ref b16, .ref b17, .int 0, .int 0, .ref b20, .ref b21, .ref b22, .int 0, .ref b24, .int 0, .ref b26, .int 0, .ref b28, .int 0, .ref b30, .ref b31, .int 0, .ref b33, .ref b34, .int 0, .int 0, .int 0, .int 0, .ref b39, .ref b40, .ref b41, .ref b42, .ref b43, .ref b44, .ref b45, .int (-1), .long 0, .long 0, .long 0, .long 0, .long 0, .long 0, .long 0, .long 0, .ref b55, .ref b56, .ref b57, .ref b58, .ref b59, .long 0, .ref b61, .ref b62, .ref b63, .ref b64, .ref b65, .ref b66, .ref b67, .int (-1), .ref b69, .int 0, .int 0, .ref b72, .int 0, .ref b74, .long 0, .int 0, .int 0]))] sz)) 1 7 (va_A [(mm, .inr (16, [.ref b0, .int 0, .ref b2, .ref b3, .int 0, .int 0, .int 0, .int 0, .int 0, .int 0, .int 0, .int 0, .ref b12, .int 0, .ref b14, .int 0, .ref b16, .ref b17, .int 0, .int 0, .ref b20, .ref b21, .ref b22, .int 0, .ref b24, .int 0, .ref b26, .int 0, .ref b28, .int 0, .ref b30, .ref b31, .int 0, .ref b33, .ref b34, .int 0, .int 0, .int 0, .int 0, .ref b39, .ref b40, .ref b41, .ref b42, .ref b43, .ref b44, .ref b45, .int (-1), .long 0, .long 0, .long 0, .long 0, .long 0, .long 0, .long 0, .long 0, .ref b55, .ref b56, .ref b57, .ref b58, .ref b59, .long 0, .ref b61, .ref b62, .ref b63, .ref b64, .ref b65, .ref b66, .ref b67, .int (-1), .ref b69, .int 0, .int 0, .ref b72, .int 0, .ref b74, .long 0, .int 0, .int 0]))] sz) := by
  refine KIW_of (by decide) (Nat.le_of_ble_eq_true rfl) (fun p e s m below meth c A C0 htab hZ hA hS hP hD ls hl => ?_)
  obtain ⟨hx, hb, hr, hown, hin, hml, hlocks, hn, hK⟩ := C0
  have hl : lv_has ls 8 [(0, .ref mm)] := hl
  refine lv_aload_n hx hb dX16_compile_0 rfl (lv_at hl 0 rfl) ?_
  refine lv_aload_n hx hb dX16_compile_1 rfl (lv_at hl 0 rfl) ?_
  refine va_get (D := D) (ci := 16) (v := .int 0) (C := RX16) (T := TX16) (N := 78) hx hb (htX16 hn) (fun _ h => h) hown hK hP 0 rfl rfl 1 (by decide) (hn.get mw_1540 rfl) (fun _ h9 => h9) rfl dX16_compile_2 ?_
  refine va_put (D := D) (ci := 16) (v := .int 0) (ty := .int) (C := RX16) (T := TX16) (N := 78) hx hb (htX16 hn) (fun _ h => h) tyX16 tyX16_ok nmX16 hown hK hP hD hS 0 rfl rfl 8 (by decide) (hn.get mw_1547 rfl) (fun _ h9 => h9) rfl (by decide +kernel) rfl rfl (Nat.le_of_ble_eq_true rfl) dX16_compile_5 (fun H locs hP hD hS => ?_)
  have hP : va_P D vwCl [(mm, .inr (16, [.ref b0, .int 0, .ref b2, .ref b3, .int 0, .int 0, .int 0, .int 0, .int 0, .int 0, .int 0, .int 0, .ref b12, .int 0, .ref b14, .int 0, .ref b16, .ref b17, .int 0, .int 0, .ref b20, .ref b21, .ref b22, .int 0, .ref b24, .int 0, .ref b26, .int 0, .ref b28, .int 0, .ref b30, .ref b31, .int 0, .ref b33, .ref b34, .int 0, .int 0, .int 0, .int 0, .ref b39, .ref b40, .ref b41, .ref b42, .ref b43, .ref b44, .ref b45, .int (-1), .long 0, .long 0, .long 0, .long 0, .long 0, .long 0, .long 0, .long 0, .ref b55, .ref b56, .ref b57, .ref b58, .ref b59, .long 0, .ref b61, .ref b62, .ref b63, .ref b64, .ref b65, .ref b66, .ref b67, .int (-1), .ref b69, .int 0, .int 0, .ref b72, .int 0, .ref b74, .long 0, .int 0, .int 0]))] _ := hP
  have hD : va_D A [(mm, .inr (16, [.ref b0, .int 0, .ref b2, .ref b3, .int 0, .int 0, .int 0, .int 0, .int 0, .int 0, .int 0, .int 0, .ref b12, .int 0, .ref b14, .int 0, .ref b16, .ref b17, .int 0, .int 0, .ref b20, .ref b21, .ref b22, .int 0, .ref b24, .int 0, .ref b26, .int 0, .ref b28, .int 0, .ref b30, .ref b31, .int 0, .ref b33, .ref b34, .int 0, .int 0, .int 0, .int 0, .ref b39, .ref b40, .ref b41, .ref b42, .ref b43, .ref b44, .ref b45, .int (-1), .long 0, .long 0, .long 0, .long 0, .long 0, .long 0, .long 0, .long 0, .ref b55, .ref b56, .ref b57, .ref b58, .ref b59, .long 0, .ref b61, .ref b62, .ref b63, .ref b64, .ref b65, .ref b66, .ref b67, .int (-1), .ref b69, .int 0, .int 0, .ref b72, .int 0, .ref b74, .long 0, .int 0, .int 0]))] := hD
  refine lv_aload_n hx hb dX16_compile_8 rfl (lv_at hl 0 rfl) ?_
  refine lv_iconst (v := 0) hx hb dX16_compile_9 (by decide) ?_
  refine va_put (D := D) (ci := 16) (v := .int 0) (ty := .int) (C := RX16) (T := TX16) (N := 78) hx hb (htX16 hn) (fun _ h => h) tyX16 tyX16_ok nmX16 hown hK hP hD hS 0 rfl rfl 1 (by decide) (hn.get mw_1540 rfl) (fun _ h9 => h9) rfl (by decide +kernel) rfl rfl (Nat.le_of_ble_eq_true rfl) dX16_compile_10 (fun H locs hP hD hS => ?_)
  have hP : va_P D vwCl [(mm, .inr (16, [.ref b0, .int 0, .ref b2, .ref b3, .int 0, .int 0, .int 0, .int 0, .int 0, .int 0, .int 0, .int 0, .ref b12, .int 0, .ref b14, .int 0, .ref b16, .ref b17, .int 0, .int 0, .ref b20, .ref b21, .ref b22, .int 0, .ref b24, .int 0, .ref b26, .int 0, .ref b28, .int 0, .ref b30, .ref b31, .int 0, .ref b33, .ref b34, .int 0, .int 0, .int 0, .int 0, .ref b39, .ref b40, .ref b41, .ref b42, .ref b43, .ref b44, .ref b45, .int (-1), .long 0, .long 0, .long 0, .long 0, .long 0, .long 0, .long 0, .long 0, .ref b55, .ref b56, .ref b57, .ref b58, .ref b59, .long 0, .ref b61, .ref b62, .ref b63, .ref b64, .ref b65, .ref b66, .ref b67, .int (-1), .ref b69, .int 0, .int 0, .ref b72, .int 0, .ref b74, .long 0, .int 0, .int 0]))] _ := hP
  have hD : va_D A [(mm, .inr (16, [.ref b0, .int 0, .ref b2, .ref b3, .int 0, .int 0, .int 0, .int 0, .int 0, .int 0, .int 0, .int 0, .ref b12, .int 0, .ref b14, .int 0, .ref b16, .ref b17, .int 0, .int 0, .ref b20, .ref b21, .ref b22, .int 0, .ref b24, .int 0, .ref b26, .int 0, .ref b28, .int 0, .ref b30, .ref b31, .int 0, .ref b33, .ref b34, .int 0, .int 0, .int 0, .int 0, .ref b39, .ref b40, .ref b41, .ref b42, .ref b43, .ref b44, .ref b45, .int (-1), .long 0, .long 0, .long 0, .long 0, .long 0, .long 0, .long 0, .long 0, .ref b55, .ref b56, .ref b57, .ref b58, .ref b59, .long 0, .ref b61, .ref b62, .ref b63, .ref b64, .ref b65, .ref b66, .ref b67, .int (-1), .ref b69, .int 0, .int 0, .ref b72, .int 0, .ref b74, .long 0, .int 0, .int 0]))] := hD
  refine lv_aload_n hx hb dX16_compile_13 rfl (lv_at hl 0 rfl) ?_
  refine lv_iconst (v := 0) hx hb dX16_compile_14 (by decide) ?_
  refine va_put (D := D) (ci := 16) (v := .int 0) (ty := .int) (C := RX16) (T := TX16) (N := 78) hx hb (htX16 hn) (fun _ h => h) tyX16 tyX16_ok nmX16 hown hK hP hD hS 0 rfl rfl 7 (by decide) (hn.get mw_1546 rfl) (fun _ h9 => h9) rfl (by decide +kernel) rfl rfl (Nat.le_of_ble_eq_true rfl) dX16_compile_15 (fun H locs hP hD hS => ?_)
  have hP : va_P D vwCl [(mm, .inr (16, [.ref b0, .int 0, .ref b2, .ref b3, .int 0, .int 0, .int 0, .int 0, .int 0, .int 0, .int 0, .int 0, .ref b12, .int 0, .ref b14, .int 0, .ref b16, .ref b17, .int 0, .int 0, .ref b20, .ref b21, .ref b22, .int 0, .ref b24, .int 0, .ref b26, .int 0, .ref b28, .int 0, .ref b30, .ref b31, .int 0, .ref b33, .ref b34, .int 0, .int 0, .int 0, .int 0, .ref b39, .ref b40, .ref b41, .ref b42, .ref b43, .ref b44, .ref b45, .int (-1), .long 0, .long 0, .long 0, .long 0, .long 0, .long 0, .long 0, .long 0, .ref b55, .ref b56, .ref b57, .ref b58, .ref b59, .long 0, .ref b61, .ref b62, .ref b63, .ref b64, .ref b65, .ref b66, .ref b67, .int (-1), .ref b69, .int 0, .int 0, .ref b72, .int 0, .ref b74, .long 0, .int 0, .int 0]))] _ := hP
  have hD : va_D A [(mm, .inr (16, [.ref b0, .int 0, .ref b2, .ref b3, .int 0, .int 0, .int 0, .int 0, .int 0, .int 0, .int 0, .int 0, .ref b12, .int 0, .ref b14, .int 0, .ref b16, .ref b17, .int 0, .int 0, .ref b20, .ref b21, .ref b22, .int 0, .ref b24, .int 0, .ref b26, .int 0, .ref b28, .int 0, .ref b30, .ref b31, .int 0, .ref b33, .ref b34, .int 0, .int 0, .int 0, .int 0, .ref b39, .ref b40, .ref b41, .ref b42, .ref b43, .ref b44, .ref b45, .int (-1), .long 0, .long 0, .long 0, .long 0, .long 0, .long 0, .long 0, .long 0, .ref b55, .ref b56, .ref b57, .ref b58, .ref b59, .long 0, .ref b61, .ref b62, .ref b63, .ref b64, .ref b65, .ref b66, .ref b67, .int (-1), .ref b69, .int 0, .int 0, .ref b72, .int 0, .ref b74, .long 0, .int 0, .int 0]))] := hD
  refine lv_aload_n hx hb dX16_compile_18 rfl (lv_at hl 0 rfl) ?_
  refine lv_iconst (v := 0) hx hb dX16_compile_19 (by decide) ?_
  refine va_put (D := D) (ci := 16) (v := .int 0) (ty := .int) (C := RX16) (T := TX16) (N := 78) hx hb (htX16 hn) (fun _ h => h) tyX16 tyX16_ok nmX16 hown hK hP hD hS 0 rfl rfl 9 (by decide) (hn.get mw_1548 rfl) (fun _ h9 => h9) rfl (by decide +kernel) rfl rfl (Nat.le_of_ble_eq_true rfl) dX16_compile_20 (fun H locs hP hD hS => ?_)
  have hP : va_P D vwCl [(mm, .inr (16, [.ref b0, .int 0, .ref b2, .ref b3, .int 0, .int 0, .int 0, .int 0, .int 0, .int 0, .int 0, .int 0, .ref b12, .int 0, .ref b14, .int 0, .ref b16, .ref b17, .int 0, .int 0, .ref b20, .ref b21, .ref b22, .int 0, .ref b24, .int 0, .ref b26, .int 0, .ref b28, .int 0, .ref b30, .ref b31, .int 0, .ref b33, .ref b34, .int 0, .int 0, .int 0, .int 0, .ref b39, .ref b40, .ref b41, .ref b42, .ref b43, .ref b44, .ref b45, .int (-1), .long 0, .long 0, .long 0, .long 0, .long 0, .long 0, .long 0, .long 0, .ref b55, .ref b56, .ref b57, .ref b58, .ref b59, .long 0, .ref b61, .ref b62, .ref b63, .ref b64, .ref b65, .ref b66, .ref b67, .int (-1), .ref b69, .int 0, .int 0, .ref b72, .int 0, .ref b74, .long 0, .int 0, .int 0]))] _ := hP
  have hD : va_D A [(mm, .inr (16, [.ref b0, .int 0, .ref b2, .ref b3, .int 0, .int 0, .int 0, .int 0, .int 0, .int 0, .int 0, .int 0, .ref b12, .int 0, .ref b14, .int 0, .ref b16, .ref b17, .int 0, .int 0, .ref b20, .ref b21, .ref b22, .int 0, .ref b24, .int 0, .ref b26, .int 0, .ref b28, .int 0, .ref b30, .ref b31, .int 0, .ref b33, .ref b34, .int 0, .int 0, .int 0, .int 0, .ref b39, .ref b40, .ref b41, .ref b42, .ref b43, .ref b44, .ref b45, .int (-1), .long 0, .long 0, .long 0, .long 0, .long 0, .long 0, .long 0, .long 0, .ref b55, .ref b56, .ref b57, .ref b58, .ref b59, .long 0, .ref b61, .ref b62, .ref b63, .ref b64, .ref b65, .ref b66, .ref b67, .int (-1), .ref b69, .int 0, .int 0, .ref b72, .int 0, .ref b74, .long 0, .int 0, .int 0]))] := hD
  refine lv_aload_n hx hb dX16_compile_23 rfl (lv_at hl 0 rfl) ?_
  refine lv_iconst (v := 0) hx hb dX16_compile_24 (by decide) ?_
  refine va_put (D := D) (ci := 16) (v := .int 0) (ty := .int) (C := RX16) (T := TX16) (N := 78) hx hb (htX16 hn) (fun _ h => h) tyX16 tyX16_ok nmX16 hown hK hP hD hS 0 rfl rfl 10 (by decide) (hn.get mw_1549 rfl) (fun _ h9 => h9) rfl (by decide +kernel) rfl rfl (Nat.le_of_ble_eq_true rfl) dX16_compile_25 (fun H locs hP hD hS => ?_)
  have hP : va_P D vwCl [(mm, .inr (16, [.ref b0, .int 0, .ref b2, .ref b3, .int 0, .int 0, .int 0, .int 0, .int 0, .int 0, .int 0, .int 0, .ref b12, .int 0, .ref b14, .int 0, .ref b16, .ref b17, .int 0, .int 0, .ref b20, .ref b21, .ref b22, .int 0, .ref b24, .int 0, .ref b26, .int 0, .ref b28, .int 0, .ref b30, .ref b31, .int 0, .ref b33, .ref b34, .int 0, .int 0, .int 0, .int 0, .ref b39, .ref b40, .ref b41, .ref b42, .ref b43, .ref b44, .ref b45, .int (-1), .long 0, .long 0, .long 0, .long 0, .long 0, .long 0, .long 0, .long 0, .ref b55, .ref b56, .ref b57, .ref b58, .ref b59, .long 0, .ref b61, .ref b62, .ref b63, .ref b64, .ref b65, .ref b66, .ref b67, .int (-1), .ref b69, .int 0, .int 0, .ref b72, .int 0, .ref b74, .long 0, .int 0, .int 0]))] _ := hP
  have hD : va_D A [(mm, .inr (16, [.ref b0, .int 0, .ref b2, .ref b3, .int 0, .int 0, .int 0, .int 0, .int 0, .int 0, .int 0, .int 0, .ref b12, .int 0, .ref b14, .int 0, .ref b16, .ref b17, .int 0, .int 0, .ref b20, .ref b21, .ref b22, .int 0, .ref b24, .int 0, .ref b26, .int 0, .ref b28, .int 0, .ref b30, .ref b31, .int 0, .ref b33, .ref b34, .int 0, .int 0, .int 0, .int 0, .ref b39, .ref b40, .ref b41, .ref b42, .ref b43, .ref b44, .ref b45, .int (-1), .long 0, .long 0, .long 0, .long 0, .long 0, .long 0, .long 0, .long 0, .ref b55, .ref b56, .ref b57, .ref b58, .ref b59, .long 0, .ref b61, .ref b62, .ref b63, .ref b64, .ref b65, .ref b66, .ref b67, .int (-1), .ref b69, .int 0, .int 0, .ref b72, .int 0, .ref b74, .long 0, .int 0, .int 0]))] := hD
  refine lv_aload_n hx hb dX16_compile_28 rfl (lv_at hl 0 rfl) ?_
  refine lv_iconst (v := (-1)) hx hb dX16_compile_29 (by decide) ?_
  refine va_put (D := D) (ci := 16) (v := .int (-1)) (ty := .int) (C := RX16) (T := TX16) (N := 78) hx hb (htX16 hn) (fun _ h => h) tyX16 tyX16_ok nmX16 hown hK hP hD hS 0 rfl rfl 11 (by decide) (hn.get mw_1550 rfl) (fun _ h9 => h9) rfl (by decide +kernel) rfl rfl (Nat.le_of_ble_eq_true rfl) dX16_compile_30 (fun H locs hP hD hS => ?_)
  have hP : va_P D vwCl [(mm, .inr (16, [.ref b0, .int 0, .ref b2, .ref b3, .int 0, .int 0, .int 0, .int 0, .int 0, .int 0, .int 0, .int (-1), .ref b12, .int 0, .ref b14, .int 0, .ref b16, .ref b17, .int 0, .int 0, .ref b20, .ref b21, .ref b22, .int 0, .ref b24, .int 0, .ref b26, .int 0, .ref b28, .int 0, .ref b30, .ref b31, .int 0, .ref b33, .ref b34, .int 0, .int 0, .int 0, .int 0, .ref b39, .ref b40, .ref b41, .ref b42, .ref b43, .ref b44, .ref b45, .int (-1), .long 0, .long 0, .long 0, .long 0, .long 0, .long 0, .long 0, .long 0, .ref b55, .ref b56, .ref b57, .ref b58, .ref b59, .long 0, .ref b61, .ref b62, .ref b63, .ref b64, .ref b65, .ref b66, .ref b67, .int (-1), .ref b69, .int 0, .int 0, .ref b72, .int 0, .ref b74, .long 0, .int 0, .int 0]))] _ := hP
  have hD : va_D A [(mm, .inr (16, [.ref b0, .int 0, .ref b2, .ref b3, .int 0, .int 0, .int 0, .int 0, .int 0, .int 0, .int 0, .int (-1), .ref b12, .int 0, .ref b14, .int 0, .ref b16, .ref b17, .int 0, .int 0, .ref b20, .ref b21, .ref b22, .int 0, .ref b24, .int 0, .ref b26, .int 0, .ref b28, .int 0, .ref b30, .ref b31, .int 0, .ref b33, .ref b34, .int 0, .int 0, .int 0, .int 0, .ref b39, .ref b40, .ref b41, .ref b42, .ref b43, .ref b44, .ref b45, .int (-1), .long 0, .long 0, .long 0, .long 0, .long 0, .long 0, .long 0, .long 0, .ref b55, .ref b56, .ref b57, .ref b58, .ref b59, .long 0, .ref b61, .ref b62, .ref b63, .ref b64, .ref b65, .ref b66, .ref b67, .int (-1), .ref b69, .int 0, .int 0, .ref b72, .int 0, .ref b74, .long 0, .int 0, .int 0]))] := hD
  refine lv_aload_n hx hb dX16_compile_33 rfl (lv_at hl 0 rfl) ?_
  have hPc := hP.sub (ws' := [(mm, .inr (16, [.ref b0, .int 0, .ref b2, .ref b3, .int 0, .int 0, .int 0, .int 0, .int 0, .int 0, .int 0, .int (-1), .ref b12, .int 0, .ref b14, .int 0, .ref b16, .ref b17, .int 0, .int 0, .ref b20, .ref b21, .ref b22, .int 0, .ref b24, .int 0, .ref b26, .int 0, .ref b28, .int 0, .ref b30, .ref b31, .int 0, .ref b33, .ref b34, .int 0, .int 0, .int 0, .int 0, .ref b39, .ref b40, .ref b41, .ref b42, .ref b43, .ref b44, .ref b45, .int (-1), .long 0, .long 0, .long 0, .long 0, .long 0, .long 0, .long 0, .long 0, .ref b55, .ref b56, .ref b57, .ref b58, .ref b59, .long 0, .ref b61, .ref b62, .ref b63, .ref b64, .ref b65, .ref b66, .ref b67, .int (-1), .ref b69, .int 0, .int 0, .ref b72, .int 0, .ref b74, .long 0, .int 0, .int 0]))]) [0] rfl
  have hDc := hD.sub (ws' := [(mm, .inr (16, [.ref b0, .int 0, .ref b2, .ref b3, .int 0, .int 0, .int 0, .int 0, .int 0, .int 0, .int 0, .int (-1), .ref b12, .int 0, .ref b14, .int 0, .ref b16, .ref b17, .int 0, .int 0, .ref b20, .ref b21, .ref b22, .int 0, .ref b24, .int 0, .ref b26, .int 0, .ref b28, .int 0, .ref b30, .ref b31, .int 0, .ref b33, .ref b34, .int 0, .int 0, .int 0, .int 0, .ref b39, .ref b40, .ref b41, .ref b42, .ref b43, .ref b44, .ref b45, .int (-1), .long 0, .long 0, .long 0, .long 0, .long 0, .long 0, .long 0, .long 0, .ref b55, .ref b56, .ref b57, .ref b58, .ref b59, .long 0, .ref b61, .ref b62, .ref b63, .ref b64, .ref b65, .ref b66, .ref b67, .int (-1), .ref b69, .int 0, .int 0, .ref b72, .int 0, .ref b74, .long 0, .int 0, .int 0]))]) [0] (by decide) rfl
  refine go_v (k1 := 0) (n1 := 0) (wr := []) [0] [] (rn_V (As := []) (rest := []) (c_X16_next_q l D ct mm b0 b2 b3 b12 b14 b16 b17 b20 b21 b22 b24 b26 b28 b30 b31 b33 b34 b39 b40 b41 b42 b43 b44 b45 b55 b56 b57 b58 b59 b61 b62 b63 b64 b65 b66 b67 b69 b72 b74  _) (cb_of (n := 0) hn mw_1912 mw_13 mw_1909 mhX16_next ⟨Nat.le_of_ble_eq_true rfl, Nat.le_of_ble_eq_true rfl⟩) hx hb hml hown hn hK hPc hDc mw_1911 mw_s179 (ci := 16) (q0 := 0) rfl rfl rfl rfl hl.1 (Nat.le_of_ble_eq_true rfl) dX16_compile_34 ⟨(Nat.le_of_ble_eq_true rfl), (Nat.le_of_ble_eq_true rfl)⟩) hP hD hS hA rfl rfl (by decide) (by decide) (Nat.le_of_ble_eq_true rfl) (Nat.le_of_ble_eq_true rfl) (fun u_2 H locs hp_3 hP hD hS => ?_)
  have hP : va_P D vwCl [(mm, .inr (16, [.ref b0, .int 0, .ref b2, .ref b3, .int 0, .int 0, .int 0, .int 0, .int 0, .int 0, .int 0, .int (-1), .ref b12, .int 0, .ref b14, .int 0, .ref b16, .ref b17, .int 0, .int 0, .ref b20, .ref b21, .ref b22, .int 0, .ref b24, .int 0, .ref b26, .int 0, .ref b28, .int 0, .ref b30, .ref b31, .int 0, .ref b33, .ref b34, .int 0, .int 0, .int 0, .int 0, .ref b39, .ref b40, .ref b41, .ref b42, .ref b43, .ref b44, .ref b45, .int (-1), .long 0, .long 0, .long 0, .long 0, .long 0, .long 0, .long 0, .long 0, .ref b55, .ref b56, .ref b57, .ref b58, .ref b59, .long 0, .ref b61, .ref b62, .ref b63, .ref b64, .ref b65, .ref b66, .ref b67, .int (-1), .ref b69, .int 0, .int 0, .ref b72, .int 0, .ref b74, .long 0, .int 0, .int 0]))] _ := hP
  have hD : va_D A [(mm, .inr (16, [.ref b0, .int 0, .ref b2, .ref b3, .int 0, .int 0, .int 0, .int 0, .int 0, .int 0, .int 0, .int (-1), .ref b12, .int 0, .ref b14, .int 0, .ref b16, .ref b17, .int 0, .int 0, .ref b20, .ref b21, .ref b22, .int 0, .ref b24, .int 0, .ref b26, .int 0, .ref b28, .int 0, .ref b30, .ref b31, .int 0, .ref b33, .ref b34, .int 0, .int 0, .int 0, .int 0, .ref b39, .ref b40, .ref b41, .ref b42, .ref b43, .ref b44, .ref b45, .int (-1), .long 0, .long 0, .long 0, .long 0, .long 0, .long 0, .long 0, .long 0, .ref b55, .ref b56, .ref b57, .ref b58, .ref b59, .long 0, .ref b61, .ref b62, .ref b63, .ref b64, .ref b65, .ref b66, .ref b67, .int (-1), .ref b69, .int 0, .int 0, .ref b72, .int 0, .ref b74, .long 0, .int 0, .int 0]))] := hD
  refine lv_aload_n hx hb dX16_compile_37 rfl (lv_at hl 0 rfl) ?_
  have hPc := hP.sub (ws' := [(mm, .inr (16, [.ref b0, .int 0, .ref b2, .ref b3, .int 0, .int 0, .int 0, .int 0, .int 0, .int 0, .int 0, .int (-1), .ref b12, .int 0, .ref b14, .int 0, .ref b16, .ref b17, .int 0, .int 0, .ref b20, .ref b21, .ref b22, .int 0, .ref b24, .int 0, .ref b26, .int 0, .ref b28, .int 0, .ref b30, .ref b31, .int 0, .ref b33, .ref b34, .int 0, .int 0, .int 0, .int 0, .ref b39, .ref b40, .ref b41, .ref b42, .ref b43, .ref b44, .ref b45, .int (-1), .long 0, .long 0, .long 0, .long 0, .long 0, .long 0, .long 0, .long 0, .ref b55, .ref b56, .ref b57, .ref b58, .ref b59, .long 0, .ref b61, .ref b62, .ref b63, .ref b64, .ref b65, .ref b66, .ref b67, .int (-1), .ref b69, .int 0, .int 0, .ref b72, .int 0, .ref b74, .long 0, .int 0, .int 0]))]) [0] rfl
  have hDc := hD.sub (ws' := [(mm, .inr (16, [.ref b0, .int 0, .ref b2, .ref b3, .int 0, .int 0, .int 0, .int 0, .int 0, .int 0, .int 0, .int (-1), .ref b12, .int 0, .ref b14, .int 0, .ref b16, .ref b17, .int 0, .int 0, .ref b20, .ref b21, .ref b22, .int 0, .ref b24, .int 0, .ref b26, .int 0, .ref b28, .int 0, .ref b30, .ref b31, .int 0, .ref b33, .ref b34, .int 0, .int 0, .int 0, .int 0, .ref b39, .ref b40, .ref b41, .ref b42, .ref b43, .ref b44, .ref b45, .int (-1), .long 0, .long 0, .long 0, .long 0, .long 0, .long 0, .long 0, .long 0, .ref b55, .ref b56, .ref b57, .ref b58, .ref b59, .long 0, .ref b61, .ref b62, .ref b63, .ref b64, .ref b65, .ref b66, .ref b67, .int (-1), .ref b69, .int 0, .int 0, .ref b72, .int 0, .ref b74, .long 0, .int 0, .int 0]))]) [0] (by decide) rfl
  have hFc := va_free (wc := [(mm, .inr (16, [.ref b0, .int 0, .ref b2, .ref b3, .int 0, .int 0, .int 0, .int 0, .int 0, .int 0, .int 0, .int (-1), .ref b12, .int 0, .ref b14, .int 0, .ref b16, .ref b17, .int 0, .int 0, .ref b20, .ref b21, .ref b22, .int 0, .ref b24, .int 0, .ref b26, .int 0, .ref b28, .int 0, .ref b30, .ref b31, .int 0, .ref b33, .ref b34, .int 0, .int 0, .int 0, .int 0, .ref b39, .ref b40, .ref b41, .ref b42, .ref b43, .ref b44, .ref b45, .int (-1), .long 0, .long 0, .long 0, .long 0, .long 0, .long 0, .long 0, .long 0, .ref b55, .ref b56, .ref b57, .ref b58, .ref b59, .long 0, .ref b61, .ref b62, .ref b63, .ref b64, .ref b65, .ref b66, .ref b67, .int (-1), .ref b69, .int 0, .int 0, .ref b72, .int 0, .ref b74, .long 0, .int 0, .int 0]))]) hD hS hA [0] rfl
  refine go_x (k1 := 1) (n1 := 7) (wr := []) (w1 := [(mm, .inr (16, [.ref b0, .int 0, .ref b2, .ref b3, .int 0, .int 0, .int 0, .int 0, .int 0, .int 0, .int 0, .int (-1), .ref b12, .int 0, .ref b14, .int 0, .ref b16, .ref b17, .int 0, .int 0, .ref b20, .ref b21, .ref b22, .int 0, .ref b24, .int 0, .ref b26, .int 0, .ref b28, .int 0, .ref b30, .ref b31, .int 0, .ref b33, .ref b34, .int 0, .int 0, .int 0, .int 0, .ref b39, .ref b40, .ref b41, .ref b42, .ref b43, .ref b44, .ref b45, .int (-1), .long 0, .long 0, .long 0, .long 0, .long 0, .long 0, .long 0, .long 0, .ref b55, .ref b56, .ref b57, .ref b58, .ref b59, .long 0, .ref b61, .ref b62, .ref b63, .ref b64, .ref b65, .ref b66, .ref b67, .int (-1), .ref b69, .int 0, .int 0, .ref b72, .int 0, .ref b74, .long 0, .int 0, .int 0]))]) [0] [] (rx_V (As := []) (rest := []) (c_X16_readFilter_x l hst D ct mm b0 b2 b3 b12 b14 b16 b17 b20 b21 b22 b24 b26 b28 b30 b31 b33 b34 b39 b40 b41 b42 b43 b44 b45 b55 b56 b57 b58 b59 b61 b62 b63 b64 b65 b66 b67 b69 b72 b74  _) (cb_of (n := 0) hn mw_1949 mw_13 mw_1946 mhX16_readFilter ⟨Nat.le_of_ble_eq_true rfl, Nat.le_of_ble_eq_true rfl⟩) hx hb hml hown hn hK hPc hDc hZ hS hFc mw_1948 mw_s183 (ci := 16) (q0 := 0) rfl rfl rfl rfl hl.1 (Nat.le_of_ble_eq_true rfl) dX16_compile_38 ⟨(Nat.le_of_ble_eq_true rfl), (Nat.le_of_ble_eq_true rfl)⟩) hP hD hS hA rfl rfl (by decide) (by decide) (Nat.le_of_ble_eq_true rfl) (Nat.le_of_ble_eq_true rfl) (fun xq_4 xf_5 H locs hx7 hx6 hP hD hS => ?_)
  have hP : va_P D vwCl [(mm, .inr (16, [.ref b0, .int 0, .ref b2, .ref b3, .int 0, .int 0, .int 0, .int 0, .int 0, .int 0, .int 0, .int (-1), .ref b12, .int 0, .ref b14, .int 0, .ref b16, .ref b17, .int 0, .int 0, .ref b20, .ref b21, .ref b22, .int 0, .ref b24, .int 0, .ref b26, .int 0, .ref b28, .int 0, .ref b30, .ref b31, .int 0, .ref b33, .ref b34, .int 0, .int 0, .int 0, .int 0, .ref b39, .ref b40, .ref b41, .ref b42, .ref b43, .ref b44, .ref b45, .int (-1), .long 0, .long 0, .long 0, .long 0, .long 0, .long 0, .long 0, .long 0, .ref b55, .ref b56, .ref b57, .ref b58, .ref b59, .long 0, .ref b61, .ref b62, .ref b63, .ref b64, .ref b65, .ref b66, .ref b67, .int (-1), .ref b69, .int 0, .int 0, .ref b72, .int 0, .ref b74, .long 0, .int 0, .int 0])), (xq_4, .inr (15, xf_5))] _ := hP
  have hD : va_D A [(mm, .inr (16, [.ref b0, .int 0, .ref b2, .ref b3, .int 0, .int 0, .int 0, .int 0, .int 0, .int 0, .int 0, .int (-1), .ref b12, .int 0, .ref b14, .int 0, .ref b16, .ref b17, .int 0, .int 0, .ref b20, .ref b21, .ref b22, .int 0, .ref b24, .int 0, .ref b26, .int 0, .ref b28, .int 0, .ref b30, .ref b31, .int 0, .ref b33, .ref b34, .int 0, .int 0, .int 0, .int 0, .ref b39, .ref b40, .ref b41, .ref b42, .ref b43, .ref b44, .ref b45, .int (-1), .long 0, .long 0, .long 0, .long 0, .long 0, .long 0, .long 0, .long 0, .ref b55, .ref b56, .ref b57, .ref b58, .ref b59, .long 0, .ref b61, .ref b62, .ref b63, .ref b64, .ref b65, .ref b66, .ref b67, .int (-1), .ref b69, .int 0, .int 0, .ref b72, .int 0, .ref b74, .long 0, .int 0, .int 0])), (xq_4, .inr (15, xf_5))] := hD
  obtain ⟨ce, hce1, hce2, hce3⟩ := exc_cell (ct := ct) hK hP (k := 1) rfl
  refine vx_catch (own := RX16) (name := RX15) (E := RX15) hown [] { startPc := 33, endPc := 58, handlerPc := 61, catchType := 186 } [] htab (fun z hz => nomatch hz) (by decide) (by decide) (hn.get mw_1908 rfl) (hn.get mw_1929 rfl) hce1 hce2 hce3 ?_
  refine W.eq (g2 := F0 m 61 ls [.ref xq_4]) rfl ?_
  refine lv_astore_n (lv' := [(2, .ref xq_4), (0, .ref mm)]) hx hb dX16_compile_61 rfl hl (by decide) rfl (fun ls hl => ?_)
  refine lv_iconst (v := (-1)) hx hb dX16_compile_62 (by decide) ?_
  refine lv_aload_n hx hb dX16_compile_63 rfl (lv_at hl 0 rfl) ?_
  refine va_get (D := D) (ci := 15) (v := .int 0) (C := RX15) (T := TX15) (N := 7) hx hb (htX15 hn) (fun _ h => h) hown hK hP 1 rfl rfl 6 (by decide) (hn.get mw_1941 rfl) (fun _ h9 => h9) hx6 dX16_compile_64 ?_
  refine lv_isub hx hb dX16_compile_67 ?_
  refine top_c (v := (-1)) (by decide) ?_
  exact end_i hx hb hr hlocks dX16_compile_68 rfl () rfl hP hD hS [] rfl (by decide) rfl (Nat.le_of_ble_eq_true rfl) (Nat.le_of_ble_eq_true rfl)
end

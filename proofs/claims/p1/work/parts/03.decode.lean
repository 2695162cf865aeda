theorem dX0_init_0 : decode cX0_init 0 = .ok (.aload_n 0, 1) := by decide +kernel
theorem dX0_init_1 : decode cX0_init 1 = .ok (.invokespecial 3, 3) := by decide +kernel
theorem dX0_init_4 : decode cX0_init 4 = .ok (.aload_n 0, 1) := by decide +kernel
theorem dX0_init_5 : decode cX0_init 5 = .ok (.sipush 3002, 3) := by decide +kernel
theorem dX0_init_8 : decode cX0_init 8 = .ok (.newarray .int, 2) := by decide +kernel
theorem dX0_init_10 : decode cX0_init 10 = .ok (.putfield 11, 3) := by decide +kernel
theorem dX0_init_13 : decode cX0_init 13 = .ok (.aload_n 0, 1) := by decide +kernel
theorem dX0_init_14 : decode cX0_init 14 = .ok (.sipush 4000, 3) := by decide +kernel
theorem dX0_init_17 : decode cX0_init 17 = .ok (.newarray .int, 2) := by decide +kernel
theorem dX0_init_19 : decode cX0_init 19 = .ok (.putfield 19, 3) := by decide +kernel
theorem dX0_init_22 : decode cX0_init 22 = .ok (.aload_n 0, 1) := by decide +kernel
theorem dX0_init_23 : decode cX0_init 23 = .ok (.aload_n 1, 1) := by decide +kernel
theorem dX0_init_24 : decode cX0_init 24 = .ok (.putfield 22, 3) := by decide +kernel
theorem dX0_init_27 : decode cX0_init 27 = .ok (.aload_n 0, 1) := by decide +kernel
theorem dX0_init_28 : decode cX0_init 28 = .ok (.aload_n 2, 1) := by decide +kernel
theorem dX0_init_29 : decode cX0_init 29 = .ok (.putfield 26, 3) := by decide +kernel
theorem dX0_init_32 : decode cX0_init 32 = .ok (.return_, 1) := by decide +kernel
theorem dX1_init_0 : decode cX1_init 0 = .ok (.aload_n 0, 1) := by decide +kernel
theorem dX1_init_1 : decode cX1_init 1 = .ok (.invokespecial 3, 3) := by decide +kernel
theorem dX1_init_4 : decode cX1_init 4 = .ok (.return_, 1) := by decide +kernel
theorem dX2_init_0 : decode cX2_init 0 = .ok (.aload_n 0, 1) := by decide +kernel
theorem dX2_init_1 : decode cX2_init 1 = .ok (.invokespecial 3, 3) := by decide +kernel
theorem dX2_init_4 : decode cX2_init 4 = .ok (.aload_n 0, 1) := by decide +kernel
theorem dX2_init_5 : decode cX2_init 5 = .ok (.sipush 7000, 3) := by decide +kernel
theorem dX2_init_8 : decode cX2_init 8 = .ok (.newarray .int, 2) := by decide +kernel
theorem dX2_init_10 : decode cX2_init 10 = .ok (.putfield 11, 3) := by decide +kernel
theorem dX2_init_13 : decode cX2_init 13 = .ok (.aload_n 0, 1) := by decide +kernel
theorem dX2_init_14 : decode cX2_init 14 = .ok (.sipush 7000, 3) := by decide +kernel
theorem dX2_init_17 : decode cX2_init 17 = .ok (.newarray .int, 2) := by decide +kernel
theorem dX2_init_19 : decode cX2_init 19 = .ok (.putfield 15, 3) := by decide +kernel
theorem dX2_init_22 : decode cX2_init 22 = .ok (.aload_n 0, 1) := by decide +kernel
theorem dX2_init_23 : decode cX2_init 23 = .ok (.sipush 7000, 3) := by decide +kernel
theorem dX2_init_26 : decode cX2_init 26 = .ok (.newarray .int, 2) := by decide +kernel
theorem dX2_init_28 : decode cX2_init 28 = .ok (.putfield 18, 3) := by decide +kernel
theorem dX2_init_31 : decode cX2_init 31 = .ok (.aload_n 0, 1) := by decide +kernel
theorem dX2_init_32 : decode cX2_init 32 = .ok (.sipush 3000, 3) := by decide +kernel
theorem dX2_init_35 : decode cX2_init 35 = .ok (.newarray .int, 2) := by decide +kernel
theorem dX2_init_37 : decode cX2_init 37 = .ok (.putfield 21, 3) := by decide +kernel
theorem dX2_init_40 : decode cX2_init 40 = .ok (.aload_n 0, 1) := by decide +kernel
theorem dX2_init_41 : decode cX2_init 41 = .ok (.sipush 3000, 3) := by decide +kernel
theorem dX2_init_44 : decode cX2_init 44 = .ok (.newarray .int, 2) := by decide +kernel
theorem dX2_init_46 : decode cX2_init 46 = .ok (.putfield 24, 3) := by decide +kernel
theorem dX2_init_49 : decode cX2_init 49 = .ok (.aload_n 0, 1) := by decide +kernel
theorem dX2_init_50 : decode cX2_init 50 = .ok (.sipush 3000, 3) := by decide +kernel
theorem dX2_init_53 : decode cX2_init 53 = .ok (.newarray .int, 2) := by decide +kernel
theorem dX2_init_55 : decode cX2_init 55 = .ok (.putfield 27, 3) := by decide +kernel
theorem dX2_init_58 : decode cX2_init 58 = .ok (.aload_n 0, 1) := by decide +kernel
theorem dX2_init_59 : decode cX2_init 59 = .ok (.sipush 3000, 3) := by decide +kernel
theorem dX2_init_62 : decode cX2_init 62 = .ok (.newarray .int, 2) := by decide +kernel
theorem dX2_init_64 : decode cX2_init 64 = .ok (.putfield 30, 3) := by decide +kernel
theorem dX2_init_67 : decode cX2_init 67 = .ok (.aload_n 0, 1) := by decide +kernel
theorem dX2_init_68 : decode cX2_init 68 = .ok (.sipush 3000, 3) := by decide +kernel
theorem dX2_init_71 : decode cX2_init 71 = .ok (.newarray .int, 2) := by decide +kernel
theorem dX2_init_73 : decode cX2_init 73 = .ok (.putfield 33, 3) := by decide +kernel
theorem dX2_init_76 : decode cX2_init 76 = .ok (.aload_n 0, 1) := by decide +kernel
theorem dX2_init_77 : decode cX2_init 77 = .ok (.sipush 3000, 3) := by decide +kernel
theorem dX2_init_80 : decode cX2_init 80 = .ok (.newarray .int, 2) := by decide +kernel
theorem dX2_init_82 : decode cX2_init 82 = .ok (.putfield 36, 3) := by decide +kernel
theorem dX2_init_85 : decode cX2_init 85 = .ok (.aload_n 0, 1) := by decide +kernel
theorem dX2_init_86 : decode cX2_init 86 = .ok (.sipush 3000, 3) := by decide +kernel
theorem dX2_init_89 : decode cX2_init 89 = .ok (.newarray .boolean, 2) := by decide +kernel
theorem dX2_init_91 : decode cX2_init 91 = .ok (.putfield 39, 3) := by decide +kernel
theorem dX2_init_94 : decode cX2_init 94 = .ok (.aload_n 0, 1) := by decide +kernel
theorem dX2_init_95 : decode cX2_init 95 = .ok (.sipush 5000, 3) := by decide +kernel
theorem dX2_init_98 : decode cX2_init 98 = .ok (.newarray .int, 2) := by decide +kernel
theorem dX2_init_100 : decode cX2_init 100 = .ok (.putfield 43, 3) := by decide +kernel
theorem dX2_init_103 : decode cX2_init 103 = .ok (.aload_n 0, 1) := by decide +kernel
theorem dX2_init_104 : decode cX2_init 104 = .ok (.bipush 6, 2) := by decide +kernel
theorem dX2_init_106 : decode cX2_init 106 = .ok (.newarray .int, 2) := by decide +kernel
theorem dX2_init_108 : decode cX2_init 108 = .ok (.putfield 46, 3) := by decide +kernel
theorem dX2_init_111 : decode cX2_init 111 = .ok (.aload_n 0, 1) := by decide +kernel
theorem dX2_init_112 : decode cX2_init 112 = .ok (.bipush 8, 2) := by decide +kernel
theorem dX2_init_114 : decode cX2_init 114 = .ok (.newarray .long, 2) := by decide +kernel
theorem dX2_init_116 : decode cX2_init 116 = .ok (.putfield 49, 3) := by decide +kernel
theorem dX2_init_119 : decode cX2_init 119 = .ok (.return_, 1) := by decide +kernel
theorem dX2_clear_0 : decode cX2_clear 0 = .ok (.aload_n 0, 1) := by decide +kernel
theorem dX2_clear_1 : decode cX2_clear 1 = .ok (.iconst 0, 1) := by decide +kernel
theorem dX2_clear_2 : decode cX2_clear 2 = .ok (.putfield 53, 3) := by decide +kernel
theorem dX2_clear_5 : decode cX2_clear 5 = .ok (.aload_n 0, 1) := by decide +kernel
theorem dX2_clear_6 : decode cX2_clear 6 = .ok (.iconst 0, 1) := by decide +kernel
theorem dX2_clear_7 : decode cX2_clear 7 = .ok (.putfield 57, 3) := by decide +kernel
theorem dX2_clear_10 : decode cX2_clear 10 = .ok (.aload_n 0, 1) := by decide +kernel
theorem dX2_clear_11 : decode cX2_clear 11 = .ok (.iconst 0, 1) := by decide +kernel
theorem dX2_clear_12 : decode cX2_clear 12 = .ok (.putfield 60, 3) := by decide +kernel
theorem dX2_clear_15 : decode cX2_clear 15 = .ok (.aload_n 0, 1) := by decide +kernel
theorem dX2_clear_16 : decode cX2_clear 16 = .ok (.iconst 2, 1) := by decide +kernel
theorem dX2_clear_17 : decode cX2_clear 17 = .ok (.putfield 63, 3) := by decide +kernel
theorem dX2_clear_20 : decode cX2_clear 20 = .ok (.return_, 1) := by decide +kernel
theorem dX2_newLabel_0 : decode cX2_newLabel 0 = .ok (.aload_n 0, 1) := by decide +kernel
theorem dX2_newLabel_1 : decode cX2_newLabel 1 = .ok (.getfield 63, 3) := by decide +kernel
theorem dX2_newLabel_4 : decode cX2_newLabel 4 = .ok (.sipush 5000, 3) := by decide +kernel
theorem dX2_newLabel_7 : decode cX2_newLabel 7 = .ok (.if_icmp .ge 13, 3) := by decide +kernel
theorem dX2_newLabel_10 : decode cX2_newLabel 10 = .ok (.aload_n 0, 1) := by decide +kernel
theorem dX2_newLabel_11 : decode cX2_newLabel 11 = .ok (.dup, 1) := by decide +kernel
theorem dX2_newLabel_12 : decode cX2_newLabel 12 = .ok (.getfield 63, 3) := by decide +kernel
theorem dX2_newLabel_15 : decode cX2_newLabel 15 = .ok (.iconst 1, 1) := by decide +kernel
theorem dX2_newLabel_16 : decode cX2_newLabel 16 = .ok (.iadd, 1) := by decide +kernel
theorem dX2_newLabel_17 : decode cX2_newLabel 17 = .ok (.putfield 63, 3) := by decide +kernel
theorem dX2_newLabel_20 : decode cX2_newLabel 20 = .ok (.aload_n 0, 1) := by decide +kernel
theorem dX2_newLabel_21 : decode cX2_newLabel 21 = .ok (.getfield 63, 3) := by decide +kernel
theorem dX2_newLabel_24 : decode cX2_newLabel 24 = .ok (.iconst 1, 1) := by decide +kernel
theorem dX2_newLabel_25 : decode cX2_newLabel 25 = .ok (.isub, 1) := by decide +kernel
theorem dX2_newLabel_26 : decode cX2_newLabel 26 = .ok (.ireturn, 1) := by decide +kernel
theorem dX2_joinLabel_0 : decode cX2_joinLabel 0 = .ok (.iload_n 1, 1) := by decide +kernel
theorem dX2_joinLabel_1 : decode cX2_joinLabel 1 = .ok (.ifCond .lt 20, 3) := by decide +kernel
theorem dX2_joinLabel_4 : decode cX2_joinLabel 4 = .ok (.iload_n 1, 1) := by decide +kernel
theorem dX2_joinLabel_5 : decode cX2_joinLabel 5 = .ok (.aload_n 0, 1) := by decide +kernel
theorem dX2_joinLabel_6 : decode cX2_joinLabel 6 = .ok (.getfield 63, 3) := by decide +kernel
theorem dX2_joinLabel_9 : decode cX2_joinLabel 9 = .ok (.if_icmp .ge 12, 3) := by decide +kernel
theorem dX2_joinLabel_12 : decode cX2_joinLabel 12 = .ok (.aload_n 0, 1) := by decide +kernel
theorem dX2_joinLabel_13 : decode cX2_joinLabel 13 = .ok (.getfield 43, 3) := by decide +kernel
theorem dX2_joinLabel_16 : decode cX2_joinLabel 16 = .ok (.iload_n 1, 1) := by decide +kernel
theorem dX2_joinLabel_17 : decode cX2_joinLabel 17 = .ok (.iconst (-1), 1) := by decide +kernel
theorem dX2_joinLabel_18 : decode cX2_joinLabel 18 = .ok (.iload_n 2, 1) := by decide +kernel
theorem dX2_joinLabel_19 : decode cX2_joinLabel 19 = .ok (.isub, 1) := by decide +kernel
theorem dX2_joinLabel_20 : decode cX2_joinLabel 20 = .ok (.iastore, 1) := by decide +kernel
theorem dX2_joinLabel_21 : decode cX2_joinLabel 21 = .ok (.return_, 1) := by decide +kernel
theorem dX3_init_0 : decode cX3_init 0 = .ok (.aload_n 0, 1) := by decide +kernel
theorem dX3_init_1 : decode cX3_init 1 = .ok (.invokespecial 3, 3) := by decide +kernel
theorem dX3_init_4 : decode cX3_init 4 = .ok (.aload_n 0, 1) := by decide +kernel
theorem dX3_init_5 : decode cX3_init 5 = .ok (.iconst 0, 1) := by decide +kernel
theorem dX3_init_6 : decode cX3_init 6 = .ok (.newarray .byte, 2) := by decide +kernel
theorem dX3_init_8 : decode cX3_init 8 = .ok (.putfield 9, 3) := by decide +kernel
theorem dX3_init_11 : decode cX3_init 11 = .ok (.aload_n 0, 1) := by decide +kernel
theorem dX3_init_12 : decode cX3_init 12 = .ok (.iconst 0, 1) := by decide +kernel
theorem dX3_init_13 : decode cX3_init 13 = .ok (.newarray .long, 2) := by decide +kernel
theorem dX3_init_15 : decode cX3_init 15 = .ok (.putfield 15, 3) := by decide +kernel
theorem dX3_init_18 : decode cX3_init 18 = .ok (.aload_n 0, 1) := by decide +kernel
theorem dX3_init_19 : decode cX3_init 19 = .ok (.iconst 0, 1) := by decide +kernel
theorem dX3_init_20 : decode cX3_init 20 = .ok (.newarray .long, 2) := by decide +kernel
theorem dX3_init_22 : decode cX3_init 22 = .ok (.putfield 19, 3) := by decide +kernel
theorem dX3_init_25 : decode cX3_init 25 = .ok (.aload_n 0, 1) := by decide +kernel
theorem dX3_init_26 : decode cX3_init 26 = .ok (.iconst 0, 1) := by decide +kernel
theorem dX3_init_27 : decode cX3_init 27 = .ok (.newarray .long, 2) := by decide +kernel
theorem dX3_init_29 : decode cX3_init 29 = .ok (.putfield 22, 3) := by decide +kernel
theorem dX3_init_32 : decode cX3_init 32 = .ok (.aload_n 0, 1) := by decide +kernel
theorem dX3_init_33 : decode cX3_init 33 = .ok (.iconst 0, 1) := by decide +kernel
theorem dX3_init_34 : decode cX3_init 34 = .ok (.newarray .long, 2) := by decide +kernel
theorem dX3_init_36 : decode cX3_init 36 = .ok (.putfield 25, 3) := by decide +kernel
theorem dX3_init_39 : decode cX3_init 39 = .ok (.aload_n 0, 1) := by decide +kernel
theorem dX3_init_40 : decode cX3_init 40 = .ok (.iconst 0, 1) := by decide +kernel
theorem dX3_init_41 : decode cX3_init 41 = .ok (.newarray .long, 2) := by decide +kernel
theorem dX3_init_43 : decode cX3_init 43 = .ok (.putfield 28, 3) := by decide +kernel
theorem dX3_init_46 : decode cX3_init 46 = .ok (.aload_n 0, 1) := by decide +kernel
theorem dX3_init_47 : decode cX3_init 47 = .ok (.iconst 0, 1) := by decide +kernel
theorem dX3_init_48 : decode cX3_init 48 = .ok (.newarray .boolean, 2) := by decide +kernel
theorem dX3_init_50 : decode cX3_init 50 = .ok (.putfield 31, 3) := by decide +kernel
theorem dX3_init_53 : decode cX3_init 53 = .ok (.aload_n 0, 1) := by decide +kernel
theorem dX3_init_54 : decode cX3_init 54 = .ok (.bipush 11, 2) := by decide +kernel
theorem dX3_init_56 : decode cX3_init 56 = .ok (.anewarray 35, 3) := by decide +kernel
theorem dX3_init_59 : decode cX3_init 59 = .ok (.putfield 37, 3) := by decide +kernel
theorem dX3_init_62 : decode cX3_init 62 = .ok (.aload_n 0, 1) := by decide +kernel
theorem dX3_init_63 : decode cX3_init 63 = .ok (.new 35, 3) := by decide +kernel
theorem dX3_init_66 : decode cX3_init 66 = .ok (.dup, 1) := by decide +kernel
theorem dX3_init_67 : decode cX3_init 67 = .ok (.invokespecial 41, 3) := by decide +kernel
theorem dX3_init_70 : decode cX3_init 70 = .ok (.putfield 42, 3) := by decide +kernel
theorem dX3_init_73 : decode cX3_init 73 = .ok (.aload_n 0, 1) := by decide +kernel
theorem dX3_init_74 : decode cX3_init 74 = .ok (.new 35, 3) := by decide +kernel
theorem dX3_init_77 : decode cX3_init 77 = .ok (.dup, 1) := by decide +kernel
theorem dX3_init_78 : decode cX3_init 78 = .ok (.invokespecial 41, 3) := by decide +kernel
theorem dX3_init_81 : decode cX3_init 81 = .ok (.putfield 46, 3) := by decide +kernel
theorem dX3_init_84 : decode cX3_init 84 = .ok (.aload_n 0, 1) := by decide +kernel
theorem dX3_init_85 : decode cX3_init 85 = .ok (.new 35, 3) := by decide +kernel
theorem dX3_init_88 : decode cX3_init 88 = .ok (.dup, 1) := by decide +kernel
theorem dX3_init_89 : decode cX3_init 89 = .ok (.invokespecial 41, 3) := by decide +kernel
theorem dX3_init_92 : decode cX3_init 92 = .ok (.putfield 49, 3) := by decide +kernel
theorem dX3_init_95 : decode cX3_init 95 = .ok (.aload_n 0, 1) := by decide +kernel
theorem dX3_init_96 : decode cX3_init 96 = .ok (.iconst (-1), 1) := by decide +kernel
theorem dX3_init_97 : decode cX3_init 97 = .ok (.putfield 52, 3) := by decide +kernel
theorem dX3_init_100 : decode cX3_init 100 = .ok (.aload_n 0, 1) := by decide +kernel
theorem dX3_init_101 : decode cX3_init 101 = .ok (.aload_n 1, 1) := by decide +kernel
theorem dX3_init_102 : decode cX3_init 102 = .ok (.putfield 56, 3) := by decide +kernel
theorem dX3_init_105 : decode cX3_init 105 = .ok (.iconst 0, 1) := by decide +kernel
theorem dX3_init_106 : decode cX3_init 106 = .ok (.istore_n 2, 1) := by decide +kernel
theorem dX3_init_107 : decode cX3_init 107 = .ok (.iload_n 2, 1) := by decide +kernel
theorem dX3_init_108 : decode cX3_init 108 = .ok (.bipush 11, 2) := by decide +kernel
theorem dX3_init_110 : decode cX3_init 110 = .ok (.if_icmp .ge 22, 3) := by decide +kernel
theorem dX3_init_113 : decode cX3_init 113 = .ok (.aload_n 0, 1) := by decide +kernel
theorem dX3_init_114 : decode cX3_init 114 = .ok (.getfield 37, 3) := by decide +kernel
theorem dX3_init_117 : decode cX3_init 117 = .ok (.iload_n 2, 1) := by decide +kernel
theorem dX3_init_118 : decode cX3_init 118 = .ok (.new 35, 3) := by decide +kernel
theorem dX3_init_121 : decode cX3_init 121 = .ok (.dup, 1) := by decide +kernel
theorem dX3_init_122 : decode cX3_init 122 = .ok (.invokespecial 41, 3) := by decide +kernel
theorem dX3_init_125 : decode cX3_init 125 = .ok (.aastore, 1) := by decide +kernel
theorem dX3_init_126 : decode cX3_init 126 = .ok (.iinc 2 1, 3) := by decide +kernel
theorem dX3_init_129 : decode cX3_init 129 = .ok (.goto (-22), 3) := by decide +kernel
theorem dX3_init_132 : decode cX3_init 132 = .ok (.return_, 1) := by decide +kernel
theorem dX3_look_0 : decode cX3_look 0 = .ok (.aload_n 0, 1) := by decide +kernel
theorem dX3_look_1 : decode cX3_look 1 = .ok (.aload_n 1, 1) := by decide +kernel
theorem dX3_look_2 : decode cX3_look 2 = .ok (.putfield 56, 3) := by decide +kernel
theorem dX3_look_5 : decode cX3_look 5 = .ok (.aload_n 0, 1) := by decide +kernel
theorem dX3_look_6 : decode cX3_look 6 = .ok (.iconst (-1), 1) := by decide +kernel
theorem dX3_look_7 : decode cX3_look 7 = .ok (.putfield 52, 3) := by decide +kernel
theorem dX3_look_10 : decode cX3_look 10 = .ok (.aload_n 0, 1) := by decide +kernel
theorem dX3_look_11 : decode cX3_look 11 = .ok (.getfield 56, 3) := by decide +kernel
theorem dX3_look_14 : decode cX3_look 14 = .ok (.getfield 60, 3) := by decide +kernel
theorem dX3_look_17 : decode cX3_look 17 = .ok (.ifCond .ne 5, 3) := by decide +kernel
theorem dX3_look_20 : decode cX3_look 20 = .ok (.iconst (-1), 1) := by decide +kernel
theorem dX3_look_21 : decode cX3_look 21 = .ok (.ireturn, 1) := by decide +kernel
theorem dX3_look_22 : decode cX3_look 22 = .ok (.aload_n 0, 1) := by decide +kernel
theorem dX3_look_23 : decode cX3_look 23 = .ok (.invokevirtual 65, 3) := by decide +kernel
theorem dX3_look_26 : decode cX3_look 26 = .ok (.istore_n 2, 1) := by decide +kernel
theorem dX3_look_27 : decode cX3_look 27 = .ok (.iload_n 2, 1) := by decide +kernel
theorem dX3_look_28 : decode cX3_look 28 = .ok (.ifCond .eq 5, 3) := by decide +kernel
theorem dX3_look_31 : decode cX3_look 31 = .ok (.iload_n 2, 1) := by decide +kernel
theorem dX3_look_32 : decode cX3_look 32 = .ok (.ireturn, 1) := by decide +kernel
theorem dX3_look_33 : decode cX3_look 33 = .ok (.aload_n 0, 1) := by decide +kernel
theorem dX3_look_34 : decode cX3_look 34 = .ok (.invokevirtual 69, 3) := by decide +kernel
theorem dX3_look_37 : decode cX3_look 37 = .ok (.aload_n 0, 1) := by decide +kernel
theorem dX3_look_38 : decode cX3_look 38 = .ok (.invokevirtual 72, 3) := by decide +kernel
theorem dX3_look_41 : decode cX3_look 41 = .ok (.iconst 0, 1) := by decide +kernel
theorem dX3_look_42 : decode cX3_look 42 = .ok (.istore_n 3, 1) := by decide +kernel
theorem dX3_look_43 : decode cX3_look 43 = .ok (.iload_n 3, 1) := by decide +kernel
theorem dX3_look_44 : decode cX3_look 44 = .ok (.aload_n 0, 1) := by decide +kernel
theorem dX3_look_45 : decode cX3_look 45 = .ok (.getfield 56, 3) := by decide +kernel
theorem dX3_look_48 : decode cX3_look 48 = .ok (.getfield 60, 3) := by decide +kernel
theorem dX3_look_51 : decode cX3_look 51 = .ok (.if_icmp .ge 68, 3) := by decide +kernel
theorem dX3_look_54 : decode cX3_look 54 = .ok (.aload_n 0, 1) := by decide +kernel
theorem dX3_look_55 : decode cX3_look 55 = .ok (.iload_n 3, 1) := by decide +kernel
theorem dX3_look_56 : decode cX3_look 56 = .ok (.putfield 52, 3) := by decide +kernel
theorem dX3_look_59 : decode cX3_look 59 = .ok (.aload_n 0, 1) := by decide +kernel
theorem dX3_look_60 : decode cX3_look 60 = .ok (.getfield 31, 3) := by decide +kernel
theorem dX3_look_63 : decode cX3_look 63 = .ok (.iload_n 3, 1) := by decide +kernel
theorem dX3_look_64 : decode cX3_look 64 = .ok (.baload, 1) := by decide +kernel
theorem dX3_look_65 : decode cX3_look 65 = .ok (.ifCond .eq 48, 3) := by decide +kernel
theorem dX3_look_68 : decode cX3_look 68 = .ok (.aload_n 0, 1) := by decide +kernel
theorem dX3_look_69 : decode cX3_look 69 = .ok (.iload_n 3, 1) := by decide +kernel
theorem dX3_look_70 : decode cX3_look 70 = .ok (.invokevirtual 75, 3) := by decide +kernel
theorem dX3_look_73 : decode cX3_look 73 = .ok (.aload_n 0, 1) := by decide +kernel
theorem dX3_look_74 : decode cX3_look 74 = .ok (.aload_n 0, 1) := by decide +kernel
theorem dX3_look_75 : decode cX3_look 75 = .ok (.getfield 56, 3) := by decide +kernel
theorem dX3_look_78 : decode cX3_look 78 = .ok (.iload_n 3, 1) := by decide +kernel
theorem dX3_look_79 : decode cX3_look 79 = .ok (.invokevirtual 79, 3) := by decide +kernel
theorem dX3_look_82 : decode cX3_look 82 = .ok (.invokevirtual 83, 3) := by decide +kernel
theorem dX3_look_85 : decode cX3_look 85 = .ok (.istore 4, 2) := by decide +kernel
theorem dX3_look_87 : decode cX3_look 87 = .ok (.iload 4, 2) := by decide +kernel
theorem dX3_look_89 : decode cX3_look 89 = .ok (.ifCond .eq 11, 3) := by decide +kernel
theorem dX3_look_92 : decode cX3_look 92 = .ok (.bipush 16, 2) := by decide +kernel
theorem dX3_look_94 : decode cX3_look 94 = .ok (.iload_n 3, 1) := by decide +kernel
theorem dX3_look_95 : decode cX3_look 95 = .ok (.imul, 1) := by decide +kernel
theorem dX3_look_96 : decode cX3_look 96 = .ok (.iload 4, 2) := by decide +kernel
theorem dX3_look_98 : decode cX3_look 98 = .ok (.iadd, 1) := by decide +kernel
theorem dX3_look_99 : decode cX3_look 99 = .ok (.ireturn, 1) := by decide +kernel
theorem dX3_look_100 : decode cX3_look 100 = .ok (.aload_n 0, 1) := by decide +kernel
theorem dX3_look_101 : decode cX3_look 101 = .ok (.iload_n 3, 1) := by decide +kernel
theorem dX3_look_102 : decode cX3_look 102 = .ok (.aload_n 0, 1) := by decide +kernel
theorem dX3_look_103 : decode cX3_look 103 = .ok (.getfield 56, 3) := by decide +kernel
theorem dX3_look_106 : decode cX3_look 106 = .ok (.iload_n 3, 1) := by decide +kernel
theorem dX3_look_107 : decode cX3_look 107 = .ok (.invokevirtual 79, 3) := by decide +kernel
theorem dX3_look_110 : decode cX3_look 110 = .ok (.invokevirtual 87, 3) := by decide +kernel
theorem dX3_look_113 : decode cX3_look 113 = .ok (.iinc 3 1, 3) := by decide +kernel
theorem dX3_look_116 : decode cX3_look 116 = .ok (.goto (-73), 3) := by decide +kernel
theorem dX3_look_119 : decode cX3_look 119 = .ok (.iconst 0, 1) := by decide +kernel
theorem dX3_look_120 : decode cX3_look 120 = .ok (.ireturn, 1) := by decide +kernel
theorem dX3_tell_0 : decode cX3_tell 0 = .ok (.iload_n 1, 1) := by decide +kernel
theorem dX3_tell_1 : decode cX3_tell 1 = .ok (.ifCond .lt 34, 3) := by decide +kernel
theorem dX3_tell_4 : decode cX3_tell 4 = .ok (.iload_n 1, 1) := by decide +kernel
theorem dX3_tell_5 : decode cX3_tell 5 = .ok (.aload_n 0, 1) := by decide +kernel
theorem dX3_tell_6 : decode cX3_tell 6 = .ok (.getfield 52, 3) := by decide +kernel
theorem dX3_tell_9 : decode cX3_tell 9 = .ok (.if_icmp .gt 26, 3) := by decide +kernel
theorem dX3_tell_12 : decode cX3_tell 12 = .ok (.aload_n 0, 1) := by decide +kernel
theorem dX3_tell_13 : decode cX3_tell 13 = .ok (.getfield 31, 3) := by decide +kernel
theorem dX3_tell_16 : decode cX3_tell 16 = .ok (.iload_n 1, 1) := by decide +kernel
theorem dX3_tell_17 : decode cX3_tell 17 = .ok (.baload, 1) := by decide +kernel
theorem dX3_tell_18 : decode cX3_tell 18 = .ok (.ifCond .eq 17, 3) := by decide +kernel
theorem dX3_tell_21 : decode cX3_tell 21 = .ok (.iload_n 2, 1) := by decide +kernel
theorem dX3_tell_22 : decode cX3_tell 22 = .ok (.ifCond .lt 13, 3) := by decide +kernel
theorem dX3_tell_25 : decode cX3_tell 25 = .ok (.iload_n 2, 1) := by decide +kernel
theorem dX3_tell_26 : decode cX3_tell 26 = .ok (.bipush 11, 2) := by decide +kernel
theorem dX3_tell_28 : decode cX3_tell 28 = .ok (.if_icmp .gt 7, 3) := by decide +kernel
theorem dX3_tell_31 : decode cX3_tell 31 = .ok (.iconst 1, 1) := by decide +kernel
theorem dX3_tell_32 : decode cX3_tell 32 = .ok (.goto 4, 3) := by decide +kernel
theorem dX3_tell_35 : decode cX3_tell 35 = .ok (.iconst 0, 1) := by decide +kernel
theorem dX3_tell_36 : decode cX3_tell 36 = .ok (.istore 4, 2) := by decide +kernel
theorem dX3_tell_38 : decode cX3_tell 38 = .ok (.iload 4, 2) := by decide +kernel
theorem dX3_tell_40 : decode cX3_tell 40 = .ok (.ifCond .ne 15, 3) := by decide +kernel
theorem dX3_tell_43 : decode cX3_tell 43 = .ok (.iload_n 3, 1) := by decide +kernel
theorem dX3_tell_44 : decode cX3_tell 44 = .ok (.ifCond .ne 9, 3) := by decide +kernel
theorem dX3_tell_47 : decode cX3_tell 47 = .ok (.ldc2_w 91, 3) := by decide +kernel
theorem dX3_tell_50 : decode cX3_tell 50 = .ok (.goto 4, 3) := by decide +kernel
theorem dX3_tell_53 : decode cX3_tell 53 = .ok (.lconst 0, 1) := by decide +kernel
theorem dX3_tell_54 : decode cX3_tell 54 = .ok (.lreturn, 1) := by decide +kernel
theorem dX3_tell_55 : decode cX3_tell 55 = .ok (.iload_n 2, 1) := by decide +kernel
theorem dX3_tell_56 : decode cX3_tell 56 = .ok (.bipush 11, 2) := by decide +kernel
theorem dX3_tell_58 : decode cX3_tell 58 = .ok (.if_icmp .ne 28, 3) := by decide +kernel
theorem dX3_tell_61 : decode cX3_tell 61 = .ok (.iload_n 3, 1) := by decide +kernel
theorem dX3_tell_62 : decode cX3_tell 62 = .ok (.ifCond .lt 9, 3) := by decide +kernel
theorem dX3_tell_65 : decode cX3_tell 65 = .ok (.iload_n 3, 1) := by decide +kernel
theorem dX3_tell_66 : decode cX3_tell 66 = .ok (.bipush 64, 2) := by decide +kernel
theorem dX3_tell_68 : decode cX3_tell 68 = .ok (.if_icmp .lt 7, 3) := by decide +kernel
theorem dX3_tell_71 : decode cX3_tell 71 = .ok (.lconst 0, 1) := by decide +kernel
theorem dX3_tell_72 : decode cX3_tell 72 = .ok (.goto 13, 3) := by decide +kernel
theorem dX3_tell_75 : decode cX3_tell 75 = .ok (.aload_n 0, 1) := by decide +kernel
theorem dX3_tell_76 : decode cX3_tell 76 = .ok (.getfield 28, 3) := by decide +kernel
theorem dX3_tell_79 : decode cX3_tell 79 = .ok (.iload_n 1, 1) := by decide +kernel
theorem dX3_tell_80 : decode cX3_tell 80 = .ok (.laload, 1) := by decide +kernel
theorem dX3_tell_81 : decode cX3_tell 81 = .ok (.iload_n 3, 1) := by decide +kernel
theorem dX3_tell_82 : decode cX3_tell 82 = .ok (.lushr, 1) := by decide +kernel
theorem dX3_tell_83 : decode cX3_tell 83 = .ok (.lconst 1, 1) := by decide +kernel
theorem dX3_tell_84 : decode cX3_tell 84 = .ok (.land, 1) := by decide +kernel
theorem dX3_tell_85 : decode cX3_tell 85 = .ok (.lreturn, 1) := by decide +kernel
theorem dX3_tell_86 : decode cX3_tell 86 = .ok (.iload_n 1, 1) := by decide +kernel
theorem dX3_tell_87 : decode cX3_tell 87 = .ok (.bipush 11, 2) := by decide +kernel
theorem dX3_tell_89 : decode cX3_tell 89 = .ok (.imul, 1) := by decide +kernel
theorem dX3_tell_90 : decode cX3_tell 90 = .ok (.iload_n 2, 1) := by decide +kernel
theorem dX3_tell_91 : decode cX3_tell 91 = .ok (.iadd, 1) := by decide +kernel
theorem dX3_tell_92 : decode cX3_tell 92 = .ok (.istore 5, 2) := by decide +kernel
theorem dX3_tell_94 : decode cX3_tell 94 = .ok (.iload_n 3, 1) := by decide +kernel
theorem dX3_tell_95 : decode cX3_tell 95 = .ok (.tableswitch 74 0 4 #[33, 42, 50, 58, 66], 33) := by decide +kernel
theorem dX3_tell_128 : decode cX3_tell 128 = .ok (.aload_n 0, 1) := by decide +kernel
theorem dX3_tell_129 : decode cX3_tell 129 = .ok (.getfield 9, 3) := by decide +kernel
theorem dX3_tell_132 : decode cX3_tell 132 = .ok (.iload 5, 2) := by decide +kernel
theorem dX3_tell_134 : decode cX3_tell 134 = .ok (.baload, 1) := by decide +kernel
theorem dX3_tell_135 : decode cX3_tell 135 = .ok (.i2l, 1) := by decide +kernel
theorem dX3_tell_136 : decode cX3_tell 136 = .ok (.lreturn, 1) := by decide +kernel
theorem dX3_tell_137 : decode cX3_tell 137 = .ok (.aload_n 0, 1) := by decide +kernel
theorem dX3_tell_138 : decode cX3_tell 138 = .ok (.getfield 15, 3) := by decide +kernel
theorem dX3_tell_141 : decode cX3_tell 141 = .ok (.iload 5, 2) := by decide +kernel
theorem dX3_tell_143 : decode cX3_tell 143 = .ok (.laload, 1) := by decide +kernel
theorem dX3_tell_144 : decode cX3_tell 144 = .ok (.lreturn, 1) := by decide +kernel
theorem dX3_tell_145 : decode cX3_tell 145 = .ok (.aload_n 0, 1) := by decide +kernel
theorem dX3_tell_146 : decode cX3_tell 146 = .ok (.getfield 19, 3) := by decide +kernel
theorem dX3_tell_149 : decode cX3_tell 149 = .ok (.iload 5, 2) := by decide +kernel
theorem dX3_tell_151 : decode cX3_tell 151 = .ok (.laload, 1) := by decide +kernel
theorem dX3_tell_152 : decode cX3_tell 152 = .ok (.lreturn, 1) := by decide +kernel
theorem dX3_tell_153 : decode cX3_tell 153 = .ok (.aload_n 0, 1) := by decide +kernel
theorem dX3_tell_154 : decode cX3_tell 154 = .ok (.getfield 22, 3) := by decide +kernel
theorem dX3_tell_157 : decode cX3_tell 157 = .ok (.iload 5, 2) := by decide +kernel
theorem dX3_tell_159 : decode cX3_tell 159 = .ok (.laload, 1) := by decide +kernel
theorem dX3_tell_160 : decode cX3_tell 160 = .ok (.lreturn, 1) := by decide +kernel
theorem dX3_tell_161 : decode cX3_tell 161 = .ok (.aload_n 0, 1) := by decide +kernel
theorem dX3_tell_162 : decode cX3_tell 162 = .ok (.getfield 25, 3) := by decide +kernel
theorem dX3_tell_165 : decode cX3_tell 165 = .ok (.iload 5, 2) := by decide +kernel
theorem dX3_tell_167 : decode cX3_tell 167 = .ok (.laload, 1) := by decide +kernel
theorem dX3_tell_168 : decode cX3_tell 168 = .ok (.lreturn, 1) := by decide +kernel
theorem dX3_tell_169 : decode cX3_tell 169 = .ok (.lconst 0, 1) := by decide +kernel
theorem dX3_tell_170 : decode cX3_tell 170 = .ok (.lreturn, 1) := by decide +kernel
theorem dX4_init_0 : decode cX4_init 0 = .ok (.aload_n 0, 1) := by decide +kernel
theorem dX4_init_1 : decode cX4_init 1 = .ok (.invokespecial 3, 3) := by decide +kernel
theorem dX4_init_4 : decode cX4_init 4 = .ok (.aload_n 0, 1) := by decide +kernel
theorem dX4_init_5 : decode cX4_init 5 = .ok (.bipush 32, 2) := by decide +kernel
theorem dX4_init_7 : decode cX4_init 7 = .ok (.newarray .long, 2) := by decide +kernel
theorem dX4_init_9 : decode cX4_init 9 = .ok (.putfield 9, 3) := by decide +kernel
theorem dX4_init_12 : decode cX4_init 12 = .ok (.aload_n 0, 1) := by decide +kernel
theorem dX4_init_13 : decode cX4_init 13 = .ok (.bipush 64, 2) := by decide +kernel
theorem dX4_init_15 : decode cX4_init 15 = .ok (.newarray .byte, 2) := by decide +kernel
theorem dX4_init_17 : decode cX4_init 17 = .ok (.putfield 15, 3) := by decide +kernel
theorem dX4_init_20 : decode cX4_init 20 = .ok (.aload_n 0, 1) := by decide +kernel
theorem dX4_init_21 : decode cX4_init 21 = .ok (.aload_n 1, 1) := by decide +kernel
theorem dX4_init_22 : decode cX4_init 22 = .ok (.putfield 19, 3) := by decide +kernel
theorem dX4_init_25 : decode cX4_init 25 = .ok (.return_, 1) := by decide +kernel
theorem dX5_init_0 : decode cX5_init 0 = .ok (.aload_n 0, 1) := by decide +kernel
theorem dX5_init_1 : decode cX5_init 1 = .ok (.invokespecial 3, 3) := by decide +kernel
theorem dX5_init_4 : decode cX5_init 4 = .ok (.aload_n 0, 1) := by decide +kernel
theorem dX5_init_5 : decode cX5_init 5 = .ok (.ldc 11, 2) := by decide +kernel
theorem dX5_init_7 : decode cX5_init 7 = .ok (.newarray .int, 2) := by decide +kernel
theorem dX5_init_9 : decode cX5_init 9 = .ok (.putfield 12, 3) := by decide +kernel
theorem dX5_init_12 : decode cX5_init 12 = .ok (.return_, 1) := by decide +kernel
theorem dX5_takeTape_0 : decode cX5_takeTape 0 = .ok (.aload_n 1, 1) := by decide +kernel
theorem dX5_takeTape_1 : decode cX5_takeTape 1 = .ok (.getfield 16, 3) := by decide +kernel
theorem dX5_takeTape_4 : decode cX5_takeTape 4 = .ok (.ifCond .eq 12, 3) := by decide +kernel
theorem dX5_takeTape_7 : decode cX5_takeTape 7 = .ok (.aload_n 1, 1) := by decide +kernel
theorem dX5_takeTape_8 : decode cX5_takeTape 8 = .ok (.getfield 16, 3) := by decide +kernel
theorem dX5_takeTape_11 : decode cX5_takeTape 11 = .ok (.iconst 4, 1) := by decide +kernel
theorem dX5_takeTape_12 : decode cX5_takeTape 12 = .ok (.irem, 1) := by decide +kernel
theorem dX5_takeTape_13 : decode cX5_takeTape 13 = .ok (.ifCond .eq 5, 3) := by decide +kernel
theorem dX5_takeTape_16 : decode cX5_takeTape 16 = .ok (.iconst (-1), 1) := by decide +kernel
theorem dX5_takeTape_17 : decode cX5_takeTape 17 = .ok (.ireturn, 1) := by decide +kernel
theorem dX5_takeTape_18 : decode cX5_takeTape 18 = .ok (.aload_n 0, 1) := by decide +kernel
theorem dX5_takeTape_19 : decode cX5_takeTape 19 = .ok (.aload_n 1, 1) := by decide +kernel
theorem dX5_takeTape_20 : decode cX5_takeTape 20 = .ok (.getfield 16, 3) := by decide +kernel
theorem dX5_takeTape_23 : decode cX5_takeTape 23 = .ok (.iconst 4, 1) := by decide +kernel
theorem dX5_takeTape_24 : decode cX5_takeTape 24 = .ok (.idiv, 1) := by decide +kernel
theorem dX5_takeTape_25 : decode cX5_takeTape 25 = .ok (.putfield 22, 3) := by decide +kernel
theorem dX5_takeTape_28 : decode cX5_takeTape 28 = .ok (.iconst 0, 1) := by decide +kernel
theorem dX5_takeTape_29 : decode cX5_takeTape 29 = .ok (.istore_n 2, 1) := by decide +kernel
theorem dX5_takeTape_30 : decode cX5_takeTape 30 = .ok (.iload_n 2, 1) := by decide +kernel
theorem dX5_takeTape_31 : decode cX5_takeTape 31 = .ok (.aload_n 0, 1) := by decide +kernel
theorem dX5_takeTape_32 : decode cX5_takeTape 32 = .ok (.getfield 22, 3) := by decide +kernel
theorem dX5_takeTape_35 : decode cX5_takeTape 35 = .ok (.if_icmp .ge 24, 3) := by decide +kernel
theorem dX5_takeTape_38 : decode cX5_takeTape 38 = .ok (.aload_n 0, 1) := by decide +kernel
theorem dX5_takeTape_39 : decode cX5_takeTape 39 = .ok (.getfield 12, 3) := by decide +kernel
theorem dX5_takeTape_42 : decode cX5_takeTape 42 = .ok (.iload_n 2, 1) := by decide +kernel
theorem dX5_takeTape_43 : decode cX5_takeTape 43 = .ok (.aload_n 1, 1) := by decide +kernel
theorem dX5_takeTape_44 : decode cX5_takeTape 44 = .ok (.iconst 4, 1) := by decide +kernel
theorem dX5_takeTape_45 : decode cX5_takeTape 45 = .ok (.iload_n 2, 1) := by decide +kernel
theorem dX5_takeTape_46 : decode cX5_takeTape 46 = .ok (.imul, 1) := by decide +kernel
theorem dX5_takeTape_47 : decode cX5_takeTape 47 = .ok (.iconst 4, 1) := by decide +kernel
theorem dX5_takeTape_48 : decode cX5_takeTape 48 = .ok (.invokevirtual 23, 3) := by decide +kernel
theorem dX5_takeTape_51 : decode cX5_takeTape 51 = .ok (.l2i, 1) := by decide +kernel
theorem dX5_takeTape_52 : decode cX5_takeTape 52 = .ok (.iastore, 1) := by decide +kernel
theorem dX5_takeTape_53 : decode cX5_takeTape 53 = .ok (.iinc 2 1, 3) := by decide +kernel
theorem dX5_takeTape_56 : decode cX5_takeTape 56 = .ok (.goto (-26), 3) := by decide +kernel
theorem dX5_takeTape_59 : decode cX5_takeTape 59 = .ok (.aload_n 0, 1) := by decide +kernel
theorem dX5_takeTape_60 : decode cX5_takeTape 60 = .ok (.getfield 22, 3) := by decide +kernel
theorem dX5_takeTape_63 : decode cX5_takeTape 63 = .ok (.ireturn, 1) := by decide +kernel
theorem dX5_at_0 : decode cX5_at 0 = .ok (.iload_n 1, 1) := by decide +kernel
theorem dX5_at_1 : decode cX5_at 1 = .ok (.ifCond .lt 11, 3) := by decide +kernel
theorem dX5_at_4 : decode cX5_at 4 = .ok (.iload_n 1, 1) := by decide +kernel
theorem dX5_at_5 : decode cX5_at 5 = .ok (.aload_n 0, 1) := by decide +kernel
theorem dX5_at_6 : decode cX5_at 6 = .ok (.getfield 22, 3) := by decide +kernel
theorem dX5_at_9 : decode cX5_at 9 = .ok (.if_icmp .lt 7, 3) := by decide +kernel
theorem dX5_at_12 : decode cX5_at 12 = .ok (.iconst 0, 1) := by decide +kernel
theorem dX5_at_13 : decode cX5_at 13 = .ok (.goto 9, 3) := by decide +kernel
theorem dX5_at_16 : decode cX5_at 16 = .ok (.aload_n 0, 1) := by decide +kernel
theorem dX5_at_17 : decode cX5_at 17 = .ok (.getfield 12, 3) := by decide +kernel
theorem dX5_at_20 : decode cX5_at 20 = .ok (.iload_n 1, 1) := by decide +kernel
theorem dX5_at_21 : decode cX5_at 21 = .ok (.iaload, 1) := by decide +kernel
theorem dX5_at_22 : decode cX5_at 22 = .ok (.ireturn, 1) := by decide +kernel
theorem dX6_init_0 : decode cX6_init 0 = .ok (.aload_n 0, 1) := by decide +kernel
theorem dX6_init_1 : decode cX6_init 1 = .ok (.invokespecial 1, 3) := by decide +kernel
theorem dX6_init_4 : decode cX6_init 4 = .ok (.aload_n 0, 1) := by decide +kernel
theorem dX6_init_5 : decode cX6_init 5 = .ok (.sipush 4096, 3) := by decide +kernel
theorem dX6_init_8 : decode cX6_init 8 = .ok (.newarray .byte, 2) := by decide +kernel
theorem dX6_init_10 : decode cX6_init 10 = .ok (.putfield 9, 3) := by decide +kernel
theorem dX6_init_13 : decode cX6_init 13 = .ok (.aload_n 0, 1) := by decide +kernel
theorem dX6_init_14 : decode cX6_init 14 = .ok (.bipush 16, 2) := by decide +kernel
theorem dX6_init_16 : decode cX6_init 16 = .ok (.newarray .int, 2) := by decide +kernel
theorem dX6_init_18 : decode cX6_init 18 = .ok (.putfield 13, 3) := by decide +kernel
theorem dX6_init_21 : decode cX6_init 21 = .ok (.return_, 1) := by decide +kernel
theorem dX6_add_0 : decode cX6_add 0 = .ok (.aload_n 0, 1) := by decide +kernel
theorem dX6_add_1 : decode cX6_add 1 = .ok (.getfield 17, 3) := by decide +kernel
theorem dX6_add_4 : decode cX6_add 4 = .ok (.bipush 16, 2) := by decide +kernel
theorem dX6_add_6 : decode cX6_add 6 = .ok (.if_icmp .lt 5, 3) := by decide +kernel
theorem dX6_add_9 : decode cX6_add 9 = .ok (.iconst (-1), 1) := by decide +kernel
theorem dX6_add_10 : decode cX6_add 10 = .ok (.ireturn, 1) := by decide +kernel
theorem dX6_add_11 : decode cX6_add 11 = .ok (.aload_n 1, 1) := by decide +kernel
theorem dX6_add_12 : decode cX6_add 12 = .ok (.getfield 21, 3) := by decide +kernel
theorem dX6_add_15 : decode cX6_add 15 = .ok (.sipush 256, 3) := by decide +kernel
theorem dX6_add_18 : decode cX6_add 18 = .ok (.if_icmp .le 6, 3) := by decide +kernel
theorem dX6_add_21 : decode cX6_add 21 = .ok (.bipush (-2), 2) := by decide +kernel
theorem dX6_add_23 : decode cX6_add 23 = .ok (.ireturn, 1) := by decide +kernel
theorem dX6_add_24 : decode cX6_add 24 = .ok (.iconst 0, 1) := by decide +kernel
theorem dX6_add_25 : decode cX6_add 25 = .ok (.istore_n 2, 1) := by decide +kernel
theorem dX6_add_26 : decode cX6_add 26 = .ok (.iload_n 2, 1) := by decide +kernel
theorem dX6_add_27 : decode cX6_add 27 = .ok (.aload_n 1, 1) := by decide +kernel
theorem dX6_add_28 : decode cX6_add 28 = .ok (.getfield 21, 3) := by decide +kernel
theorem dX6_add_31 : decode cX6_add 31 = .ok (.if_icmp .ge 30, 3) := by decide +kernel
theorem dX6_add_34 : decode cX6_add 34 = .ok (.aload_n 0, 1) := by decide +kernel
theorem dX6_add_35 : decode cX6_add 35 = .ok (.getfield 9, 3) := by decide +kernel
theorem dX6_add_38 : decode cX6_add 38 = .ok (.aload_n 0, 1) := by decide +kernel
theorem dX6_add_39 : decode cX6_add 39 = .ok (.getfield 17, 3) := by decide +kernel
theorem dX6_add_42 : decode cX6_add 42 = .ok (.sipush 256, 3) := by decide +kernel
theorem dX6_add_45 : decode cX6_add 45 = .ok (.imul, 1) := by decide +kernel
theorem dX6_add_46 : decode cX6_add 46 = .ok (.iload_n 2, 1) := by decide +kernel
theorem dX6_add_47 : decode cX6_add 47 = .ok (.iadd, 1) := by decide +kernel
theorem dX6_add_48 : decode cX6_add 48 = .ok (.aload_n 1, 1) := by decide +kernel
theorem dX6_add_49 : decode cX6_add 49 = .ok (.iload_n 2, 1) := by decide +kernel
theorem dX6_add_50 : decode cX6_add 50 = .ok (.invokevirtual 26, 3) := by decide +kernel
theorem dX6_add_53 : decode cX6_add 53 = .ok (.i2b, 1) := by decide +kernel
theorem dX6_add_54 : decode cX6_add 54 = .ok (.bastore, 1) := by decide +kernel
theorem dX6_add_55 : decode cX6_add 55 = .ok (.iinc 2 1, 3) := by decide +kernel
theorem dX6_add_58 : decode cX6_add 58 = .ok (.goto (-32), 3) := by decide +kernel
theorem dX6_add_61 : decode cX6_add 61 = .ok (.aload_n 0, 1) := by decide +kernel
theorem dX6_add_62 : decode cX6_add 62 = .ok (.getfield 13, 3) := by decide +kernel
theorem dX6_add_65 : decode cX6_add 65 = .ok (.aload_n 0, 1) := by decide +kernel
theorem dX6_add_66 : decode cX6_add 66 = .ok (.getfield 17, 3) := by decide +kernel
theorem dX6_add_69 : decode cX6_add 69 = .ok (.aload_n 1, 1) := by decide +kernel
theorem dX6_add_70 : decode cX6_add 70 = .ok (.getfield 21, 3) := by decide +kernel
theorem dX6_add_73 : decode cX6_add 73 = .ok (.iastore, 1) := by decide +kernel
theorem dX6_add_74 : decode cX6_add 74 = .ok (.aload_n 0, 1) := by decide +kernel
theorem dX6_add_75 : decode cX6_add 75 = .ok (.dup, 1) := by decide +kernel
theorem dX6_add_76 : decode cX6_add 76 = .ok (.getfield 17, 3) := by decide +kernel
theorem dX6_add_79 : decode cX6_add 79 = .ok (.iconst 1, 1) := by decide +kernel
theorem dX6_add_80 : decode cX6_add 80 = .ok (.iadd, 1) := by decide +kernel
theorem dX6_add_81 : decode cX6_add 81 = .ok (.putfield 17, 3) := by decide +kernel
theorem dX6_add_84 : decode cX6_add 84 = .ok (.aload_n 0, 1) := by decide +kernel
theorem dX6_add_85 : decode cX6_add 85 = .ok (.getfield 17, 3) := by decide +kernel
theorem dX6_add_88 : decode cX6_add 88 = .ok (.iconst 1, 1) := by decide +kernel
theorem dX6_add_89 : decode cX6_add 89 = .ok (.isub, 1) := by decide +kernel
theorem dX6_add_90 : decode cX6_add 90 = .ok (.ireturn, 1) := by decide +kernel
theorem dX6_lengthOf_0 : decode cX6_lengthOf 0 = .ok (.iload_n 1, 1) := by decide +kernel
theorem dX6_lengthOf_1 : decode cX6_lengthOf 1 = .ok (.ifCond .lt 11, 3) := by decide +kernel
theorem dX6_lengthOf_4 : decode cX6_lengthOf 4 = .ok (.iload_n 1, 1) := by decide +kernel
theorem dX6_lengthOf_5 : decode cX6_lengthOf 5 = .ok (.aload_n 0, 1) := by decide +kernel
theorem dX6_lengthOf_6 : decode cX6_lengthOf 6 = .ok (.getfield 17, 3) := by decide +kernel
theorem dX6_lengthOf_9 : decode cX6_lengthOf 9 = .ok (.if_icmp .lt 7, 3) := by decide +kernel
theorem dX6_lengthOf_12 : decode cX6_lengthOf 12 = .ok (.iconst (-1), 1) := by decide +kernel
theorem dX6_lengthOf_13 : decode cX6_lengthOf 13 = .ok (.goto 9, 3) := by decide +kernel
theorem dX6_lengthOf_16 : decode cX6_lengthOf 16 = .ok (.aload_n 0, 1) := by decide +kernel
theorem dX6_lengthOf_17 : decode cX6_lengthOf 17 = .ok (.getfield 13, 3) := by decide +kernel
theorem dX6_lengthOf_20 : decode cX6_lengthOf 20 = .ok (.iload_n 1, 1) := by decide +kernel
theorem dX6_lengthOf_21 : decode cX6_lengthOf 21 = .ok (.iaload, 1) := by decide +kernel
theorem dX6_lengthOf_22 : decode cX6_lengthOf 22 = .ok (.ireturn, 1) := by decide +kernel
theorem dX6_at_0 : decode cX6_at 0 = .ok (.lload_n 2, 1) := by decide +kernel
theorem dX6_at_1 : decode cX6_at 1 = .ok (.lconst 0, 1) := by decide +kernel
theorem dX6_at_2 : decode cX6_at 2 = .ok (.lcmp, 1) := by decide +kernel
theorem dX6_at_3 : decode cX6_at 3 = .ok (.ifCond .lt 14, 3) := by decide +kernel
theorem dX6_at_6 : decode cX6_at 6 = .ok (.lload_n 2, 1) := by decide +kernel
theorem dX6_at_7 : decode cX6_at 7 = .ok (.aload_n 0, 1) := by decide +kernel
theorem dX6_at_8 : decode cX6_at 8 = .ok (.iload_n 1, 1) := by decide +kernel
theorem dX6_at_9 : decode cX6_at 9 = .ok (.invokevirtual 30, 3) := by decide +kernel
theorem dX6_at_12 : decode cX6_at 12 = .ok (.i2l, 1) := by decide +kernel
theorem dX6_at_13 : decode cX6_at 13 = .ok (.lcmp, 1) := by decide +kernel
theorem dX6_at_14 : decode cX6_at 14 = .ok (.ifCond .lt 7, 3) := by decide +kernel
theorem dX6_at_17 : decode cX6_at 17 = .ok (.iconst (-1), 1) := by decide +kernel
theorem dX6_at_18 : decode cX6_at 18 = .ok (.goto 20, 3) := by decide +kernel
theorem dX6_at_21 : decode cX6_at 21 = .ok (.aload_n 0, 1) := by decide +kernel
theorem dX6_at_22 : decode cX6_at 22 = .ok (.getfield 9, 3) := by decide +kernel
theorem dX6_at_25 : decode cX6_at 25 = .ok (.iload_n 1, 1) := by decide +kernel
theorem dX6_at_26 : decode cX6_at 26 = .ok (.sipush 256, 3) := by decide +kernel
theorem dX6_at_29 : decode cX6_at 29 = .ok (.imul, 1) := by decide +kernel
theorem dX6_at_30 : decode cX6_at 30 = .ok (.lload_n 2, 1) := by decide +kernel
theorem dX6_at_31 : decode cX6_at 31 = .ok (.l2i, 1) := by decide +kernel
theorem dX6_at_32 : decode cX6_at 32 = .ok (.iadd, 1) := by decide +kernel
theorem dX6_at_33 : decode cX6_at 33 = .ok (.baload, 1) := by decide +kernel
theorem dX6_at_34 : decode cX6_at 34 = .ok (.sipush 255, 3) := by decide +kernel
theorem dX6_at_37 : decode cX6_at 37 = .ok (.iand, 1) := by decide +kernel
theorem dX6_at_38 : decode cX6_at 38 = .ok (.ireturn, 1) := by decide +kernel
theorem dX6_eightFrom_0 : decode cX6_eightFrom 0 = .ok (.aload_n 0, 1) := by decide +kernel
theorem dX6_eightFrom_1 : decode cX6_eightFrom 1 = .ok (.iload_n 1, 1) := by decide +kernel
theorem dX6_eightFrom_2 : decode cX6_eightFrom 2 = .ok (.iload_n 2, 1) := by decide +kernel
theorem dX6_eightFrom_3 : decode cX6_eightFrom 3 = .ok (.i2l, 1) := by decide +kernel
theorem dX6_eightFrom_4 : decode cX6_eightFrom 4 = .ok (.invokevirtual 33, 3) := by decide +kernel
theorem dX6_eightFrom_7 : decode cX6_eightFrom 7 = .ok (.ifCond .ge 7, 3) := by decide +kernel
theorem dX6_eightFrom_10 : decode cX6_eightFrom 10 = .ok (.ldc2_w 36, 3) := by decide +kernel
theorem dX6_eightFrom_13 : decode cX6_eightFrom 13 = .ok (.lreturn, 1) := by decide +kernel
theorem dX6_eightFrom_14 : decode cX6_eightFrom 14 = .ok (.lconst 0, 1) := by decide +kernel
theorem dX6_eightFrom_15 : decode cX6_eightFrom 15 = .ok (.lstore_n 3, 1) := by decide +kernel
theorem dX6_eightFrom_16 : decode cX6_eightFrom 16 = .ok (.iconst 0, 1) := by decide +kernel
theorem dX6_eightFrom_17 : decode cX6_eightFrom 17 = .ok (.istore 5, 2) := by decide +kernel
theorem dX6_eightFrom_19 : decode cX6_eightFrom 19 = .ok (.iload 5, 2) := by decide +kernel
theorem dX6_eightFrom_21 : decode cX6_eightFrom 21 = .ok (.bipush 8, 2) := by decide +kernel
theorem dX6_eightFrom_23 : decode cX6_eightFrom 23 = .ok (.if_icmp .ge 40, 3) := by decide +kernel
theorem dX6_eightFrom_26 : decode cX6_eightFrom 26 = .ok (.aload_n 0, 1) := by decide +kernel
theorem dX6_eightFrom_27 : decode cX6_eightFrom 27 = .ok (.iload_n 1, 1) := by decide +kernel
theorem dX6_eightFrom_28 : decode cX6_eightFrom 28 = .ok (.iload_n 2, 1) := by decide +kernel
theorem dX6_eightFrom_29 : decode cX6_eightFrom 29 = .ok (.i2l, 1) := by decide +kernel
theorem dX6_eightFrom_30 : decode cX6_eightFrom 30 = .ok (.iload 5, 2) := by decide +kernel
theorem dX6_eightFrom_32 : decode cX6_eightFrom 32 = .ok (.i2l, 1) := by decide +kernel
theorem dX6_eightFrom_33 : decode cX6_eightFrom 33 = .ok (.ladd, 1) := by decide +kernel
theorem dX6_eightFrom_34 : decode cX6_eightFrom 34 = .ok (.invokevirtual 33, 3) := by decide +kernel
theorem dX6_eightFrom_37 : decode cX6_eightFrom 37 = .ok (.istore 6, 2) := by decide +kernel
theorem dX6_eightFrom_39 : decode cX6_eightFrom 39 = .ok (.lload_n 3, 1) := by decide +kernel
theorem dX6_eightFrom_40 : decode cX6_eightFrom 40 = .ok (.bipush 8, 2) := by decide +kernel
theorem dX6_eightFrom_42 : decode cX6_eightFrom 42 = .ok (.lshl, 1) := by decide +kernel
theorem dX6_eightFrom_43 : decode cX6_eightFrom 43 = .ok (.iload 6, 2) := by decide +kernel
theorem dX6_eightFrom_45 : decode cX6_eightFrom 45 = .ok (.ifCond .ge 7, 3) := by decide +kernel
theorem dX6_eightFrom_48 : decode cX6_eightFrom 48 = .ok (.iconst 0, 1) := by decide +kernel
theorem dX6_eightFrom_49 : decode cX6_eightFrom 49 = .ok (.goto 5, 3) := by decide +kernel
theorem dX6_eightFrom_52 : decode cX6_eightFrom 52 = .ok (.iload 6, 2) := by decide +kernel
theorem dX6_eightFrom_54 : decode cX6_eightFrom 54 = .ok (.i2l, 1) := by decide +kernel
theorem dX6_eightFrom_55 : decode cX6_eightFrom 55 = .ok (.lor, 1) := by decide +kernel
theorem dX6_eightFrom_56 : decode cX6_eightFrom 56 = .ok (.lstore_n 3, 1) := by decide +kernel
theorem dX6_eightFrom_57 : decode cX6_eightFrom 57 = .ok (.iinc 5 1, 3) := by decide +kernel
theorem dX6_eightFrom_60 : decode cX6_eightFrom 60 = .ok (.goto (-41), 3) := by decide +kernel
theorem dX6_eightFrom_63 : decode cX6_eightFrom 63 = .ok (.lload_n 3, 1) := by decide +kernel
theorem dX6_eightFrom_64 : decode cX6_eightFrom 64 = .ok (.lreturn, 1) := by decide +kernel
theorem dX7_init_0 : decode cX7_init 0 = .ok (.aload_n 0, 1) := by decide +kernel
theorem dX7_init_1 : decode cX7_init 1 = .ok (.invokespecial 3, 3) := by decide +kernel
theorem dX7_init_4 : decode cX7_init 4 = .ok (.aload_n 0, 1) := by decide +kernel
theorem dX7_init_5 : decode cX7_init 5 = .ok (.sipush 4000, 3) := by decide +kernel
theorem dX7_init_8 : decode cX7_init 8 = .ok (.newarray .long, 2) := by decide +kernel
theorem dX7_init_10 : decode cX7_init 10 = .ok (.putfield 11, 3) := by decide +kernel
theorem dX7_init_13 : decode cX7_init 13 = .ok (.return_, 1) := by decide +kernel
theorem dX7_takeTape_0 : decode cX7_takeTape 0 = .ok (.aload_n 1, 1) := by decide +kernel
theorem dX7_takeTape_1 : decode cX7_takeTape 1 = .ok (.getfield 15, 3) := by decide +kernel
theorem dX7_takeTape_4 : decode cX7_takeTape 4 = .ok (.ifCond .eq 13, 3) := by decide +kernel
theorem dX7_takeTape_7 : decode cX7_takeTape 7 = .ok (.aload_n 1, 1) := by decide +kernel
theorem dX7_takeTape_8 : decode cX7_takeTape 8 = .ok (.getfield 15, 3) := by decide +kernel
theorem dX7_takeTape_11 : decode cX7_takeTape 11 = .ok (.bipush 8, 2) := by decide +kernel
theorem dX7_takeTape_13 : decode cX7_takeTape 13 = .ok (.irem, 1) := by decide +kernel
theorem dX7_takeTape_14 : decode cX7_takeTape 14 = .ok (.ifCond .eq 5, 3) := by decide +kernel
theorem dX7_takeTape_17 : decode cX7_takeTape 17 = .ok (.iconst (-1), 1) := by decide +kernel
theorem dX7_takeTape_18 : decode cX7_takeTape 18 = .ok (.ireturn, 1) := by decide +kernel
theorem dX7_takeTape_19 : decode cX7_takeTape 19 = .ok (.aload_n 0, 1) := by decide +kernel
theorem dX7_takeTape_20 : decode cX7_takeTape 20 = .ok (.aload_n 1, 1) := by decide +kernel
theorem dX7_takeTape_21 : decode cX7_takeTape 21 = .ok (.getfield 15, 3) := by decide +kernel
theorem dX7_takeTape_24 : decode cX7_takeTape 24 = .ok (.bipush 8, 2) := by decide +kernel
theorem dX7_takeTape_26 : decode cX7_takeTape 26 = .ok (.idiv, 1) := by decide +kernel
theorem dX7_takeTape_27 : decode cX7_takeTape 27 = .ok (.putfield 21, 3) := by decide +kernel
theorem dX7_takeTape_30 : decode cX7_takeTape 30 = .ok (.iconst 0, 1) := by decide +kernel
theorem dX7_takeTape_31 : decode cX7_takeTape 31 = .ok (.istore_n 2, 1) := by decide +kernel
theorem dX7_takeTape_32 : decode cX7_takeTape 32 = .ok (.iload_n 2, 1) := by decide +kernel
theorem dX7_takeTape_33 : decode cX7_takeTape 33 = .ok (.aload_n 0, 1) := by decide +kernel
theorem dX7_takeTape_34 : decode cX7_takeTape 34 = .ok (.getfield 21, 3) := by decide +kernel
theorem dX7_takeTape_37 : decode cX7_takeTape 37 = .ok (.if_icmp .ge 25, 3) := by decide +kernel
theorem dX7_takeTape_40 : decode cX7_takeTape 40 = .ok (.aload_n 0, 1) := by decide +kernel
theorem dX7_takeTape_41 : decode cX7_takeTape 41 = .ok (.getfield 11, 3) := by decide +kernel
theorem dX7_takeTape_44 : decode cX7_takeTape 44 = .ok (.iload_n 2, 1) := by decide +kernel
theorem dX7_takeTape_45 : decode cX7_takeTape 45 = .ok (.aload_n 1, 1) := by decide +kernel
theorem dX7_takeTape_46 : decode cX7_takeTape 46 = .ok (.bipush 8, 2) := by decide +kernel
theorem dX7_takeTape_48 : decode cX7_takeTape 48 = .ok (.iload_n 2, 1) := by decide +kernel
theorem dX7_takeTape_49 : decode cX7_takeTape 49 = .ok (.imul, 1) := by decide +kernel
theorem dX7_takeTape_50 : decode cX7_takeTape 50 = .ok (.bipush 8, 2) := by decide +kernel
theorem dX7_takeTape_52 : decode cX7_takeTape 52 = .ok (.invokevirtual 22, 3) := by decide +kernel
theorem dX7_takeTape_55 : decode cX7_takeTape 55 = .ok (.lastore, 1) := by decide +kernel
theorem dX7_takeTape_56 : decode cX7_takeTape 56 = .ok (.iinc 2 1, 3) := by decide +kernel
theorem dX7_takeTape_59 : decode cX7_takeTape 59 = .ok (.goto (-27), 3) := by decide +kernel
theorem dX7_takeTape_62 : decode cX7_takeTape 62 = .ok (.aload_n 0, 1) := by decide +kernel
theorem dX7_takeTape_63 : decode cX7_takeTape 63 = .ok (.getfield 21, 3) := by decide +kernel
theorem dX7_takeTape_66 : decode cX7_takeTape 66 = .ok (.ireturn, 1) := by decide +kernel
theorem dX7_at_0 : decode cX7_at 0 = .ok (.iload_n 1, 1) := by decide +kernel
theorem dX7_at_1 : decode cX7_at 1 = .ok (.ifCond .lt 11, 3) := by decide +kernel
theorem dX7_at_4 : decode cX7_at 4 = .ok (.iload_n 1, 1) := by decide +kernel
theorem dX7_at_5 : decode cX7_at 5 = .ok (.aload_n 0, 1) := by decide +kernel
theorem dX7_at_6 : decode cX7_at 6 = .ok (.getfield 21, 3) := by decide +kernel
theorem dX7_at_9 : decode cX7_at 9 = .ok (.if_icmp .lt 7, 3) := by decide +kernel
theorem dX7_at_12 : decode cX7_at 12 = .ok (.lconst 0, 1) := by decide +kernel
theorem dX7_at_13 : decode cX7_at 13 = .ok (.goto 9, 3) := by decide +kernel
theorem dX7_at_16 : decode cX7_at 16 = .ok (.aload_n 0, 1) := by decide +kernel
theorem dX7_at_17 : decode cX7_at 17 = .ok (.getfield 11, 3) := by decide +kernel
theorem dX7_at_20 : decode cX7_at 20 = .ok (.iload_n 1, 1) := by decide +kernel
theorem dX7_at_21 : decode cX7_at 21 = .ok (.laload, 1) := by decide +kernel
theorem dX7_at_22 : decode cX7_at 22 = .ok (.lreturn, 1) := by decide +kernel
theorem dX8_init_0 : decode cX8_init 0 = .ok (.aload_n 0, 1) := by decide +kernel
theorem dX8_init_1 : decode cX8_init 1 = .ok (.invokespecial 3, 3) := by decide +kernel
theorem dX8_init_4 : decode cX8_init 4 = .ok (.aload_n 0, 1) := by decide +kernel
theorem dX8_init_5 : decode cX8_init 5 = .ok (.aload_n 1, 1) := by decide +kernel
theorem dX8_init_6 : decode cX8_init 6 = .ok (.putfield 9, 3) := by decide +kernel
theorem dX8_init_9 : decode cX8_init 9 = .ok (.aload_n 0, 1) := by decide +kernel
theorem dX8_init_10 : decode cX8_init 10 = .ok (.aload_n 2, 1) := by decide +kernel
theorem dX8_init_11 : decode cX8_init 11 = .ok (.putfield 15, 3) := by decide +kernel
theorem dX8_init_14 : decode cX8_init 14 = .ok (.return_, 1) := by decide +kernel
theorem dX8_begin_0 : decode cX8_begin 0 = .ok (.aload_n 0, 1) := by decide +kernel
theorem dX8_begin_1 : decode cX8_begin 1 = .ok (.aload_n 1, 1) := by decide +kernel
theorem dX8_begin_2 : decode cX8_begin 2 = .ok (.putfield 15, 3) := by decide +kernel
theorem dX8_begin_5 : decode cX8_begin 5 = .ok (.aload_n 0, 1) := by decide +kernel
theorem dX8_begin_6 : decode cX8_begin 6 = .ok (.getfield 15, 3) := by decide +kernel
theorem dX8_begin_9 : decode cX8_begin 9 = .ok (.invokevirtual 19, 3) := by decide +kernel
theorem dX8_begin_12 : decode cX8_begin 12 = .ok (.aload_n 0, 1) := by decide +kernel
theorem dX8_begin_13 : decode cX8_begin 13 = .ok (.iconst 0, 1) := by decide +kernel
theorem dX8_begin_14 : decode cX8_begin 14 = .ok (.putfield 24, 3) := by decide +kernel
theorem dX8_begin_17 : decode cX8_begin 17 = .ok (.aload_n 0, 1) := by decide +kernel
theorem dX8_begin_18 : decode cX8_begin 18 = .ok (.iconst (-1), 1) := by decide +kernel
theorem dX8_begin_19 : decode cX8_begin 19 = .ok (.putfield 28, 3) := by decide +kernel
theorem dX8_begin_22 : decode cX8_begin 22 = .ok (.aload_n 0, 1) := by decide +kernel
theorem dX8_begin_23 : decode cX8_begin 23 = .ok (.iconst 1, 1) := by decide +kernel
theorem dX8_begin_24 : decode cX8_begin 24 = .ok (.putfield 31, 3) := by decide +kernel
theorem dX8_begin_27 : decode cX8_begin 27 = .ok (.aload_n 0, 1) := by decide +kernel
theorem dX8_begin_28 : decode cX8_begin 28 = .ok (.invokevirtual 34, 3) := by decide +kernel
theorem dX8_begin_31 : decode cX8_begin 31 = .ok (.return_, 1) := by decide +kernel
theorem dX8_wrongPlace_0 : decode cX8_wrongPlace 0 = .ok (.aload_n 0, 1) := by decide +kernel
theorem dX8_wrongPlace_1 : decode cX8_wrongPlace 1 = .ok (.getfield 31, 3) := by decide +kernel
theorem dX8_wrongPlace_4 : decode cX8_wrongPlace 4 = .ok (.iconst 1, 1) := by decide +kernel
theorem dX8_wrongPlace_5 : decode cX8_wrongPlace 5 = .ok (.if_icmp .eq 7, 3) := by decide +kernel
theorem dX8_wrongPlace_8 : decode cX8_wrongPlace 8 = .ok (.aload_n 0, 1) := by decide +kernel
theorem dX8_wrongPlace_9 : decode cX8_wrongPlace 9 = .ok (.invokevirtual 37, 3) := by decide +kernel
theorem dX8_wrongPlace_12 : decode cX8_wrongPlace 12 = .ok (.aload_n 0, 1) := by decide +kernel
theorem dX8_wrongPlace_13 : decode cX8_wrongPlace 13 = .ok (.getfield 28, 3) := by decide +kernel
theorem dX8_wrongPlace_16 : decode cX8_wrongPlace 16 = .ok (.ireturn, 1) := by decide +kernel
theorem dX8_fail_0 : decode cX8_fail 0 = .ok (.aload_n 0, 1) := by decide +kernel
theorem dX8_fail_1 : decode cX8_fail 1 = .ok (.getfield 28, 3) := by decide +kernel
theorem dX8_fail_4 : decode cX8_fail 4 = .ok (.ifCond .ge 11, 3) := by decide +kernel
theorem dX8_fail_7 : decode cX8_fail 7 = .ok (.aload_n 0, 1) := by decide +kernel
theorem dX8_fail_8 : decode cX8_fail 8 = .ok (.aload_n 0, 1) := by decide +kernel
theorem dX8_fail_9 : decode cX8_fail 9 = .ok (.getfield 40, 3) := by decide +kernel
theorem dX8_fail_12 : decode cX8_fail 12 = .ok (.putfield 28, 3) := by decide +kernel
theorem dX8_fail_15 : decode cX8_fail 15 = .ok (.aload_n 0, 1) := by decide +kernel
theorem dX8_fail_16 : decode cX8_fail 16 = .ok (.iconst 3, 1) := by decide +kernel
theorem dX8_fail_17 : decode cX8_fail 17 = .ok (.putfield 31, 3) := by decide +kernel
theorem dX8_fail_20 : decode cX8_fail 20 = .ok (.return_, 1) := by decide +kernel
theorem dX8_next_0 : decode cX8_next 0 = .ok (.aload_n 0, 1) := by decide +kernel
theorem dX8_next_1 : decode cX8_next 1 = .ok (.getfield 28, 3) := by decide +kernel
theorem dX8_next_4 : decode cX8_next 4 = .ok (.ifCond .lt 4, 3) := by decide +kernel
theorem dX8_next_7 : decode cX8_next 7 = .ok (.return_, 1) := by decide +kernel
theorem dX8_next_8 : decode cX8_next 8 = .ok (.aload_n 0, 1) := by decide +kernel
theorem dX8_next_9 : decode cX8_next 9 = .ok (.aload_n 0, 1) := by decide +kernel
theorem dX8_next_10 : decode cX8_next 10 = .ok (.aload_n 0, 1) := by decide +kernel
theorem dX8_next_11 : decode cX8_next 11 = .ok (.getfield 24, 3) := by decide +kernel
theorem dX8_next_14 : decode cX8_next 14 = .ok (.invokevirtual 43, 3) := by decide +kernel
theorem dX8_next_17 : decode cX8_next 17 = .ok (.putfield 40, 3) := by decide +kernel
theorem dX8_next_20 : decode cX8_next 20 = .ok (.aload_n 0, 1) := by decide +kernel
theorem dX8_next_21 : decode cX8_next 21 = .ok (.aload_n 0, 1) := by decide +kernel
theorem dX8_next_22 : decode cX8_next 22 = .ok (.getfield 40, 3) := by decide +kernel
theorem dX8_next_25 : decode cX8_next 25 = .ok (.iconst 1, 1) := by decide +kernel
theorem dX8_next_26 : decode cX8_next 26 = .ok (.iadd, 1) := by decide +kernel
theorem dX8_next_27 : decode cX8_next 27 = .ok (.putfield 24, 3) := by decide +kernel
theorem dX8_next_30 : decode cX8_next 30 = .ok (.aload_n 0, 1) := by decide +kernel
theorem dX8_next_31 : decode cX8_next 31 = .ok (.getfield 9, 3) := by decide +kernel
theorem dX8_next_34 : decode cX8_next 34 = .ok (.aload_n 0, 1) := by decide +kernel
theorem dX8_next_35 : decode cX8_next 35 = .ok (.getfield 40, 3) := by decide +kernel
theorem dX8_next_38 : decode cX8_next 38 = .ok (.invokevirtual 47, 3) := by decide +kernel
theorem dX8_next_41 : decode cX8_next 41 = .ok (.istore_n 1, 1) := by decide +kernel
theorem dX8_next_42 : decode cX8_next 42 = .ok (.iload_n 1, 1) := by decide +kernel
theorem dX8_next_43 : decode cX8_next 43 = .ok (.ifCond .ge 11, 3) := by decide +kernel
theorem dX8_next_46 : decode cX8_next 46 = .ok (.aload_n 0, 1) := by decide +kernel
theorem dX8_next_47 : decode cX8_next 47 = .ok (.iconst 1, 1) := by decide +kernel
theorem dX8_next_48 : decode cX8_next 48 = .ok (.putfield 31, 3) := by decide +kernel
theorem dX8_next_51 : decode cX8_next 51 = .ok (.goto 71, 3) := by decide +kernel
theorem dX8_next_54 : decode cX8_next 54 = .ok (.iload_n 1, 1) := by decide +kernel
theorem dX8_next_55 : decode cX8_next 55 = .ok (.invokestatic 52, 3) := by decide +kernel
theorem dX8_next_58 : decode cX8_next 58 = .ok (.ifCond .eq 23, 3) := by decide +kernel
theorem dX8_next_61 : decode cX8_next 61 = .ok (.aload_n 0, 1) := by decide +kernel
theorem dX8_next_62 : decode cX8_next 62 = .ok (.iconst 2, 1) := by decide +kernel
theorem dX8_next_63 : decode cX8_next 63 = .ok (.putfield 31, 3) := by decide +kernel
theorem dX8_next_66 : decode cX8_next 66 = .ok (.aload_n 0, 1) := by decide +kernel
theorem dX8_next_67 : decode cX8_next 67 = .ok (.aload_n 0, 1) := by decide +kernel
theorem dX8_next_68 : decode cX8_next 68 = .ok (.aload_n 0, 1) := by decide +kernel
theorem dX8_next_69 : decode cX8_next 69 = .ok (.getfield 40, 3) := by decide +kernel
theorem dX8_next_72 : decode cX8_next 72 = .ok (.invokevirtual 56, 3) := by decide +kernel
theorem dX8_next_75 : decode cX8_next 75 = .ok (.putfield 24, 3) := by decide +kernel
theorem dX8_next_78 : decode cX8_next 78 = .ok (.goto 44, 3) := by decide +kernel
theorem dX8_next_81 : decode cX8_next 81 = .ok (.aload_n 0, 1) := by decide +kernel
theorem dX8_next_82 : decode cX8_next 82 = .ok (.iload_n 1, 1) := by decide +kernel
theorem dX8_next_83 : decode cX8_next 83 = .ok (.aload_n 0, 1) := by decide +kernel
theorem dX8_next_84 : decode cX8_next 84 = .ok (.getfield 9, 3) := by decide +kernel
theorem dX8_next_87 : decode cX8_next 87 = .ok (.aload_n 0, 1) := by decide +kernel
theorem dX8_next_88 : decode cX8_next 88 = .ok (.getfield 40, 3) := by decide +kernel
theorem dX8_next_91 : decode cX8_next 91 = .ok (.iconst 1, 1) := by decide +kernel
theorem dX8_next_92 : decode cX8_next 92 = .ok (.iadd, 1) := by decide +kernel
theorem dX8_next_93 : decode cX8_next 93 = .ok (.invokevirtual 47, 3) := by decide +kernel
theorem dX8_next_96 : decode cX8_next 96 = .ok (.invokestatic 59, 3) := by decide +kernel
theorem dX8_next_99 : decode cX8_next 99 = .ok (.putfield 31, 3) := by decide +kernel
theorem dX8_next_102 : decode cX8_next 102 = .ok (.aload_n 0, 1) := by decide +kernel
theorem dX8_next_103 : decode cX8_next 103 = .ok (.getfield 31, 3) := by decide +kernel
theorem dX8_next_106 : decode cX8_next 106 = .ok (.sipush 256, 3) := by decide +kernel
theorem dX8_next_109 : decode cX8_next 109 = .ok (.if_icmp .lt 13, 3) := by decide +kernel
theorem dX8_next_112 : decode cX8_next 112 = .ok (.aload_n 0, 1) := by decide +kernel
theorem dX8_next_113 : decode cX8_next 113 = .ok (.aload_n 0, 1) := by decide +kernel
theorem dX8_next_114 : decode cX8_next 114 = .ok (.getfield 40, 3) := by decide +kernel
theorem dX8_next_117 : decode cX8_next 117 = .ok (.iconst 2, 1) := by decide +kernel
theorem dX8_next_118 : decode cX8_next 118 = .ok (.iadd, 1) := by decide +kernel
theorem dX8_next_119 : decode cX8_next 119 = .ok (.putfield 24, 3) := by decide +kernel
theorem dX8_next_122 : decode cX8_next 122 = .ok (.aload_n 0, 1) := by decide +kernel
theorem dX8_next_123 : decode cX8_next 123 = .ok (.getfield 31, 3) := by decide +kernel
theorem dX8_next_126 : decode cX8_next 126 = .ok (.iconst 3, 1) := by decide +kernel
theorem dX8_next_127 : decode cX8_next 127 = .ok (.if_icmp .ne 7, 3) := by decide +kernel
theorem dX8_next_130 : decode cX8_next 130 = .ok (.aload_n 0, 1) := by decide +kernel
theorem dX8_next_131 : decode cX8_next 131 = .ok (.invokevirtual 37, 3) := by decide +kernel
theorem dX8_next_134 : decode cX8_next 134 = .ok (.return_, 1) := by decide +kernel
theorem dX8_behindBlanks_0 : decode cX8_behindBlanks 0 = .ok (.iload_n 1, 1) := by decide +kernel
theorem dX8_behindBlanks_1 : decode cX8_behindBlanks 1 = .ok (.istore_n 2, 1) := by decide +kernel
theorem dX8_behindBlanks_2 : decode cX8_behindBlanks 2 = .ok (.iload_n 2, 1) := by decide +kernel
theorem dX8_behindBlanks_3 : decode cX8_behindBlanks 3 = .ok (.aload_n 0, 1) := by decide +kernel
theorem dX8_behindBlanks_4 : decode cX8_behindBlanks 4 = .ok (.getfield 9, 3) := by decide +kernel
theorem dX8_behindBlanks_7 : decode cX8_behindBlanks 7 = .ok (.getfield 63, 3) := by decide +kernel
theorem dX8_behindBlanks_10 : decode cX8_behindBlanks 10 = .ok (.if_icmp .ge 35, 3) := by decide +kernel
theorem dX8_behindBlanks_13 : decode cX8_behindBlanks 13 = .ok (.aload_n 0, 1) := by decide +kernel
theorem dX8_behindBlanks_14 : decode cX8_behindBlanks 14 = .ok (.getfield 9, 3) := by decide +kernel
theorem dX8_behindBlanks_17 : decode cX8_behindBlanks 17 = .ok (.iload_n 2, 1) := by decide +kernel
theorem dX8_behindBlanks_18 : decode cX8_behindBlanks 18 = .ok (.invokevirtual 47, 3) := by decide +kernel
theorem dX8_behindBlanks_21 : decode cX8_behindBlanks 21 = .ok (.bipush 32, 2) := by decide +kernel
theorem dX8_behindBlanks_23 : decode cX8_behindBlanks 23 = .ok (.if_icmp .eq 16, 3) := by decide +kernel
theorem dX8_behindBlanks_26 : decode cX8_behindBlanks 26 = .ok (.aload_n 0, 1) := by decide +kernel
theorem dX8_behindBlanks_27 : decode cX8_behindBlanks 27 = .ok (.getfield 9, 3) := by decide +kernel
theorem dX8_behindBlanks_30 : decode cX8_behindBlanks 30 = .ok (.iload_n 2, 1) := by decide +kernel
theorem dX8_behindBlanks_31 : decode cX8_behindBlanks 31 = .ok (.invokevirtual 47, 3) := by decide +kernel
theorem dX8_behindBlanks_34 : decode cX8_behindBlanks 34 = .ok (.bipush 10, 2) := by decide +kernel
theorem dX8_behindBlanks_36 : decode cX8_behindBlanks 36 = .ok (.if_icmp .ne 9, 3) := by decide +kernel
theorem dX8_behindBlanks_39 : decode cX8_behindBlanks 39 = .ok (.iinc 2 1, 3) := by decide +kernel
theorem dX8_behindBlanks_42 : decode cX8_behindBlanks 42 = .ok (.goto (-40), 3) := by decide +kernel
theorem dX8_behindBlanks_45 : decode cX8_behindBlanks 45 = .ok (.iload_n 2, 1) := by decide +kernel
theorem dX8_behindBlanks_46 : decode cX8_behindBlanks 46 = .ok (.ireturn, 1) := by decide +kernel
theorem dX8_isWord_0 : decode cX8_isWord 0 = .ok (.aload_n 0, 1) := by decide +kernel
theorem dX8_isWord_1 : decode cX8_isWord 1 = .ok (.getfield 31, 3) := by decide +kernel
theorem dX8_isWord_4 : decode cX8_isWord 4 = .ok (.iconst 2, 1) := by decide +kernel
theorem dX8_isWord_5 : decode cX8_isWord 5 = .ok (.if_icmp .ne 19, 3) := by decide +kernel
theorem dX8_isWord_8 : decode cX8_isWord 8 = .ok (.aload_n 0, 1) := by decide +kernel
theorem dX8_isWord_9 : decode cX8_isWord 9 = .ok (.getfield 24, 3) := by decide +kernel
theorem dX8_isWord_12 : decode cX8_isWord 12 = .ok (.aload_n 0, 1) := by decide +kernel
theorem dX8_isWord_13 : decode cX8_isWord 13 = .ok (.getfield 40, 3) := by decide +kernel
theorem dX8_isWord_16 : decode cX8_isWord 16 = .ok (.isub, 1) := by decide +kernel
theorem dX8_isWord_17 : decode cX8_isWord 17 = .ok (.aload_n 1, 1) := by decide +kernel
theorem dX8_isWord_18 : decode cX8_isWord 18 = .ok (.invokevirtual 66, 3) := by decide +kernel
theorem dX8_isWord_21 : decode cX8_isWord 21 = .ok (.if_icmp .eq 5, 3) := by decide +kernel
theorem dX8_isWord_24 : decode cX8_isWord 24 = .ok (.iconst 0, 1) := by decide +kernel
theorem dX8_isWord_25 : decode cX8_isWord 25 = .ok (.ireturn, 1) := by decide +kernel
theorem dX8_isWord_26 : decode cX8_isWord 26 = .ok (.iconst 0, 1) := by decide +kernel
theorem dX8_isWord_27 : decode cX8_isWord 27 = .ok (.istore_n 2, 1) := by decide +kernel
theorem dX8_isWord_28 : decode cX8_isWord 28 = .ok (.iload_n 2, 1) := by decide +kernel
theorem dX8_isWord_29 : decode cX8_isWord 29 = .ok (.aload_n 1, 1) := by decide +kernel
theorem dX8_isWord_30 : decode cX8_isWord 30 = .ok (.invokevirtual 66, 3) := by decide +kernel
theorem dX8_isWord_33 : decode cX8_isWord 33 = .ok (.if_icmp .ge 32, 3) := by decide +kernel
theorem dX8_isWord_36 : decode cX8_isWord 36 = .ok (.aload_n 0, 1) := by decide +kernel
theorem dX8_isWord_37 : decode cX8_isWord 37 = .ok (.getfield 9, 3) := by decide +kernel
theorem dX8_isWord_40 : decode cX8_isWord 40 = .ok (.aload_n 0, 1) := by decide +kernel
theorem dX8_isWord_41 : decode cX8_isWord 41 = .ok (.getfield 40, 3) := by decide +kernel
theorem dX8_isWord_44 : decode cX8_isWord 44 = .ok (.iload_n 2, 1) := by decide +kernel
theorem dX8_isWord_45 : decode cX8_isWord 45 = .ok (.iadd, 1) := by decide +kernel
theorem dX8_isWord_46 : decode cX8_isWord 46 = .ok (.invokevirtual 47, 3) := by decide +kernel
theorem dX8_isWord_49 : decode cX8_isWord 49 = .ok (.aload_n 1, 1) := by decide +kernel
theorem dX8_isWord_50 : decode cX8_isWord 50 = .ok (.iload_n 2, 1) := by decide +kernel
theorem dX8_isWord_51 : decode cX8_isWord 51 = .ok (.invokevirtual 71, 3) := by decide +kernel
theorem dX8_isWord_54 : decode cX8_isWord 54 = .ok (.if_icmp .eq 5, 3) := by decide +kernel
theorem dX8_isWord_57 : decode cX8_isWord 57 = .ok (.iconst 0, 1) := by decide +kernel
theorem dX8_isWord_58 : decode cX8_isWord 58 = .ok (.ireturn, 1) := by decide +kernel
theorem dX8_isWord_59 : decode cX8_isWord 59 = .ok (.iinc 2 1, 3) := by decide +kernel
theorem dX8_isWord_62 : decode cX8_isWord 62 = .ok (.goto (-34), 3) := by decide +kernel
theorem dX8_isWord_65 : decode cX8_isWord 65 = .ok (.iconst 1, 1) := by decide +kernel
theorem dX8_isWord_66 : decode cX8_isWord 66 = .ok (.ireturn, 1) := by decide +kernel
theorem dX8_protocol_0 : decode cX8_protocol 0 = .ok (.aload_n 0, 1) := by decide +kernel
theorem dX8_protocol_1 : decode cX8_protocol 1 = .ok (.ldc 75, 2) := by decide +kernel
theorem dX8_protocol_3 : decode cX8_protocol 3 = .ok (.invokevirtual 77, 3) := by decide +kernel
theorem dX8_protocol_6 : decode cX8_protocol 6 = .ok (.ifCond .eq 7, 3) := by decide +kernel
theorem dX8_protocol_9 : decode cX8_protocol 9 = .ok (.iconst 0, 1) := by decide +kernel
theorem dX8_protocol_10 : decode cX8_protocol 10 = .ok (.goto 83, 3) := by decide +kernel
theorem dX8_protocol_13 : decode cX8_protocol 13 = .ok (.aload_n 0, 1) := by decide +kernel
theorem dX8_protocol_14 : decode cX8_protocol 14 = .ok (.ldc 81, 2) := by decide +kernel
theorem dX8_protocol_16 : decode cX8_protocol 16 = .ok (.invokevirtual 77, 3) := by decide +kernel
theorem dX8_protocol_19 : decode cX8_protocol 19 = .ok (.ifCond .eq 7, 3) := by decide +kernel
theorem dX8_protocol_22 : decode cX8_protocol 22 = .ok (.iconst 1, 1) := by decide +kernel
theorem dX8_protocol_23 : decode cX8_protocol 23 = .ok (.goto 70, 3) := by decide +kernel
theorem dX8_protocol_26 : decode cX8_protocol 26 = .ok (.aload_n 0, 1) := by decide +kernel
theorem dX8_protocol_27 : decode cX8_protocol 27 = .ok (.ldc 83, 2) := by decide +kernel
theorem dX8_protocol_29 : decode cX8_protocol 29 = .ok (.invokevirtual 77, 3) := by decide +kernel
theorem dX8_protocol_32 : decode cX8_protocol 32 = .ok (.ifCond .eq 7, 3) := by decide +kernel
theorem dX8_protocol_35 : decode cX8_protocol 35 = .ok (.iconst 2, 1) := by decide +kernel
theorem dX8_protocol_36 : decode cX8_protocol 36 = .ok (.goto 57, 3) := by decide +kernel
theorem dX8_protocol_39 : decode cX8_protocol 39 = .ok (.aload_n 0, 1) := by decide +kernel
theorem dX8_protocol_40 : decode cX8_protocol 40 = .ok (.ldc 85, 2) := by decide +kernel
theorem dX8_protocol_42 : decode cX8_protocol 42 = .ok (.invokevirtual 77, 3) := by decide +kernel
theorem dX8_protocol_45 : decode cX8_protocol 45 = .ok (.ifCond .eq 7, 3) := by decide +kernel
theorem dX8_protocol_48 : decode cX8_protocol 48 = .ok (.iconst 3, 1) := by decide +kernel
theorem dX8_protocol_49 : decode cX8_protocol 49 = .ok (.goto 44, 3) := by decide +kernel
theorem dX8_protocol_52 : decode cX8_protocol 52 = .ok (.aload_n 0, 1) := by decide +kernel
theorem dX8_protocol_53 : decode cX8_protocol 53 = .ok (.ldc 87, 2) := by decide +kernel
theorem dX8_protocol_55 : decode cX8_protocol 55 = .ok (.invokevirtual 77, 3) := by decide +kernel
theorem dX8_protocol_58 : decode cX8_protocol 58 = .ok (.ifCond .eq 7, 3) := by decide +kernel
theorem dX8_protocol_61 : decode cX8_protocol 61 = .ok (.iconst 4, 1) := by decide +kernel
theorem dX8_protocol_62 : decode cX8_protocol 62 = .ok (.goto 31, 3) := by decide +kernel
theorem dX8_protocol_65 : decode cX8_protocol 65 = .ok (.aload_n 0, 1) := by decide +kernel
theorem dX8_protocol_66 : decode cX8_protocol 66 = .ok (.ldc 89, 2) := by decide +kernel
theorem dX8_protocol_68 : decode cX8_protocol 68 = .ok (.invokevirtual 77, 3) := by decide +kernel
theorem dX8_protocol_71 : decode cX8_protocol 71 = .ok (.ifCond .eq 7, 3) := by decide +kernel
theorem dX8_protocol_74 : decode cX8_protocol 74 = .ok (.iconst 5, 1) := by decide +kernel
theorem dX8_protocol_75 : decode cX8_protocol 75 = .ok (.goto 18, 3) := by decide +kernel
theorem dX8_protocol_78 : decode cX8_protocol 78 = .ok (.aload_n 0, 1) := by decide +kernel
theorem dX8_protocol_79 : decode cX8_protocol 79 = .ok (.ldc 91, 2) := by decide +kernel
theorem dX8_protocol_81 : decode cX8_protocol 81 = .ok (.invokevirtual 77, 3) := by decide +kernel
theorem dX8_protocol_84 : decode cX8_protocol 84 = .ok (.ifCond .eq 8, 3) := by decide +kernel
theorem dX8_protocol_87 : decode cX8_protocol 87 = .ok (.bipush 6, 2) := by decide +kernel
theorem dX8_protocol_89 : decode cX8_protocol 89 = .ok (.goto 4, 3) := by decide +kernel
theorem dX8_protocol_92 : decode cX8_protocol 92 = .ok (.iconst (-1), 1) := by decide +kernel
theorem dX8_protocol_93 : decode cX8_protocol 93 = .ok (.ireturn, 1) := by decide +kernel
theorem dX8_number_0 : decode cX8_number 0 = .ok (.aload_n 0, 1) := by decide +kernel
theorem dX8_number_1 : decode cX8_number 1 = .ok (.getfield 31, 3) := by decide +kernel
theorem dX8_number_4 : decode cX8_number 4 = .ok (.iconst 2, 1) := by decide +kernel
theorem dX8_number_5 : decode cX8_number 5 = .ok (.if_icmp .eq 7, 3) := by decide +kernel
theorem dX8_number_8 : decode cX8_number 8 = .ok (.ldc2_w 93, 3) := by decide +kernel
theorem dX8_number_11 : decode cX8_number 11 = .ok (.lreturn, 1) := by decide +kernel
theorem dX8_number_12 : decode cX8_number 12 = .ok (.aload_n 0, 1) := by decide +kernel
theorem dX8_number_13 : decode cX8_number 13 = .ok (.getfield 9, 3) := by decide +kernel
theorem dX8_number_16 : decode cX8_number 16 = .ok (.aload_n 0, 1) := by decide +kernel
theorem dX8_number_17 : decode cX8_number 17 = .ok (.getfield 40, 3) := by decide +kernel
theorem dX8_number_20 : decode cX8_number 20 = .ok (.invokevirtual 47, 3) := by decide +kernel
theorem dX8_number_23 : decode cX8_number 23 = .ok (.bipush 48, 2) := by decide +kernel
theorem dX8_number_25 : decode cX8_number 25 = .ok (.if_icmp .ne 26, 3) := by decide +kernel
theorem dX8_number_28 : decode cX8_number 28 = .ok (.aload_n 0, 1) := by decide +kernel
theorem dX8_number_29 : decode cX8_number 29 = .ok (.getfield 9, 3) := by decide +kernel
theorem dX8_number_32 : decode cX8_number 32 = .ok (.aload_n 0, 1) := by decide +kernel
theorem dX8_number_33 : decode cX8_number 33 = .ok (.getfield 40, 3) := by decide +kernel
theorem dX8_number_36 : decode cX8_number 36 = .ok (.iconst 1, 1) := by decide +kernel
theorem dX8_number_37 : decode cX8_number 37 = .ok (.iadd, 1) := by decide +kernel
theorem dX8_number_38 : decode cX8_number 38 = .ok (.invokevirtual 47, 3) := by decide +kernel
theorem dX8_number_41 : decode cX8_number 41 = .ok (.bipush 120, 2) := by decide +kernel
theorem dX8_number_43 : decode cX8_number 43 = .ok (.if_icmp .ne 8, 3) := by decide +kernel
theorem dX8_number_46 : decode cX8_number 46 = .ok (.aload_n 0, 1) := by decide +kernel
theorem dX8_number_47 : decode cX8_number 47 = .ok (.invokevirtual 95, 3) := by decide +kernel
theorem dX8_number_50 : decode cX8_number 50 = .ok (.lreturn, 1) := by decide +kernel
theorem dX8_number_51 : decode cX8_number 51 = .ok (.aload_n 0, 1) := by decide +kernel
theorem dX8_number_52 : decode cX8_number 52 = .ok (.aload_n 0, 1) := by decide +kernel
theorem dX8_number_53 : decode cX8_number 53 = .ok (.getfield 40, 3) := by decide +kernel
theorem dX8_number_56 : decode cX8_number 56 = .ok (.aload_n 0, 1) := by decide +kernel
theorem dX8_number_57 : decode cX8_number 57 = .ok (.getfield 24, 3) := by decide +kernel
theorem dX8_number_60 : decode cX8_number 60 = .ok (.ldc2_w 99, 3) := by decide +kernel
theorem dX8_number_63 : decode cX8_number 63 = .ok (.invokevirtual 101, 3) := by decide +kernel
theorem dX8_number_66 : decode cX8_number 66 = .ok (.lreturn, 1) := by decide +kernel
theorem dX8_readFilter_0 : decode cX8_readFilter 0 = .ok (.iconst 1, 1) := by decide +kernel
theorem dX8_readFilter_1 : decode cX8_readFilter 1 = .ok (.istore 4, 2) := by decide +kernel
theorem dX8_readFilter_3 : decode cX8_readFilter 3 = .ok (.iconst 0, 1) := by decide +kernel
theorem dX8_readFilter_4 : decode cX8_readFilter 4 = .ok (.istore 5, 2) := by decide +kernel
theorem dX8_readFilter_6 : decode cX8_readFilter 6 = .ok (.iload 4, 2) := by decide +kernel
theorem dX8_readFilter_8 : decode cX8_readFilter 8 = .ok (.ifCond .eq 73, 3) := by decide +kernel
theorem dX8_readFilter_11 : decode cX8_readFilter 11 = .ok (.iload 5, 2) := by decide +kernel
theorem dX8_readFilter_13 : decode cX8_readFilter 13 = .ok (.sipush 2000, 3) := by decide +kernel
theorem dX8_readFilter_16 : decode cX8_readFilter 16 = .ok (.if_icmp .ge 65, 3) := by decide +kernel
theorem dX8_readFilter_19 : decode cX8_readFilter 19 = .ok (.aload_n 0, 1) := by decide +kernel
theorem dX8_readFilter_20 : decode cX8_readFilter 20 = .ok (.getfield 15, 3) := by decide +kernel
theorem dX8_readFilter_23 : decode cX8_readFilter 23 = .ok (.invokevirtual 129, 3) := by decide +kernel
theorem dX8_readFilter_26 : decode cX8_readFilter 26 = .ok (.istore 6, 2) := by decide +kernel
theorem dX8_readFilter_28 : decode cX8_readFilter 28 = .ok (.aload_n 0, 1) := by decide +kernel
theorem dX8_readFilter_29 : decode cX8_readFilter 29 = .ok (.iload_n 1, 1) := by decide +kernel
theorem dX8_readFilter_30 : decode cX8_readFilter 30 = .ok (.iload 6, 2) := by decide +kernel
theorem dX8_readFilter_32 : decode cX8_readFilter 32 = .ok (.iload_n 3, 1) := by decide +kernel
theorem dX8_readFilter_33 : decode cX8_readFilter 33 = .ok (.invokevirtual 132, 3) := by decide +kernel
theorem dX8_readFilter_36 : decode cX8_readFilter 36 = .ok (.aload_n 0, 1) := by decide +kernel
theorem dX8_readFilter_37 : decode cX8_readFilter 37 = .ok (.ldc 136, 2) := by decide +kernel
theorem dX8_readFilter_39 : decode cX8_readFilter 39 = .ok (.invokevirtual 77, 3) := by decide +kernel
theorem dX8_readFilter_42 : decode cX8_readFilter 42 = .ok (.istore 4, 2) := by decide +kernel
theorem dX8_readFilter_44 : decode cX8_readFilter 44 = .ok (.iload 4, 2) := by decide +kernel
theorem dX8_readFilter_46 : decode cX8_readFilter 46 = .ok (.ifCond .eq 19, 3) := by decide +kernel
theorem dX8_readFilter_49 : decode cX8_readFilter 49 = .ok (.aload_n 0, 1) := by decide +kernel
theorem dX8_readFilter_50 : decode cX8_readFilter 50 = .ok (.getfield 15, 3) := by decide +kernel
theorem dX8_readFilter_53 : decode cX8_readFilter 53 = .ok (.iload 6, 2) := by decide +kernel
theorem dX8_readFilter_55 : decode cX8_readFilter 55 = .ok (.invokevirtual 138, 3) := by decide +kernel
theorem dX8_readFilter_58 : decode cX8_readFilter 58 = .ok (.aload_n 0, 1) := by decide +kernel
theorem dX8_readFilter_59 : decode cX8_readFilter 59 = .ok (.invokevirtual 34, 3) := by decide +kernel
theorem dX8_readFilter_62 : decode cX8_readFilter 62 = .ok (.goto 13, 3) := by decide +kernel
theorem dX8_readFilter_65 : decode cX8_readFilter 65 = .ok (.aload_n 0, 1) := by decide +kernel
theorem dX8_readFilter_66 : decode cX8_readFilter 66 = .ok (.getfield 15, 3) := by decide +kernel
theorem dX8_readFilter_69 : decode cX8_readFilter 69 = .ok (.iload 6, 2) := by decide +kernel
theorem dX8_readFilter_71 : decode cX8_readFilter 71 = .ok (.iload_n 2, 1) := by decide +kernel
theorem dX8_readFilter_72 : decode cX8_readFilter 72 = .ok (.invokevirtual 142, 3) := by decide +kernel
theorem dX8_readFilter_75 : decode cX8_readFilter 75 = .ok (.iinc 5 1, 3) := by decide +kernel
theorem dX8_readFilter_78 : decode cX8_readFilter 78 = .ok (.goto (-72), 3) := by decide +kernel
theorem dX8_readFilter_81 : decode cX8_readFilter 81 = .ok (.return_, 1) := by decide +kernel
theorem dX8_readRow_0 : decode cX8_readRow 0 = .ok (.iconst 1, 1) := by decide +kernel
theorem dX8_readRow_1 : decode cX8_readRow 1 = .ok (.istore 4, 2) := by decide +kernel
theorem dX8_readRow_3 : decode cX8_readRow 3 = .ok (.iconst 0, 1) := by decide +kernel
theorem dX8_readRow_4 : decode cX8_readRow 4 = .ok (.istore 5, 2) := by decide +kernel
theorem dX8_readRow_6 : decode cX8_readRow 6 = .ok (.iload 4, 2) := by decide +kernel
theorem dX8_readRow_8 : decode cX8_readRow 8 = .ok (.ifCond .eq 73, 3) := by decide +kernel
theorem dX8_readRow_11 : decode cX8_readRow 11 = .ok (.iload 5, 2) := by decide +kernel
theorem dX8_readRow_13 : decode cX8_readRow 13 = .ok (.sipush 2000, 3) := by decide +kernel
theorem dX8_readRow_16 : decode cX8_readRow 16 = .ok (.if_icmp .ge 65, 3) := by decide +kernel
theorem dX8_readRow_19 : decode cX8_readRow 19 = .ok (.aload_n 0, 1) := by decide +kernel
theorem dX8_readRow_20 : decode cX8_readRow 20 = .ok (.getfield 15, 3) := by decide +kernel
theorem dX8_readRow_23 : decode cX8_readRow 23 = .ok (.invokevirtual 129, 3) := by decide +kernel
theorem dX8_readRow_26 : decode cX8_readRow 26 = .ok (.istore 6, 2) := by decide +kernel
theorem dX8_readRow_28 : decode cX8_readRow 28 = .ok (.aload_n 0, 1) := by decide +kernel
theorem dX8_readRow_29 : decode cX8_readRow 29 = .ok (.iload 6, 2) := by decide +kernel
theorem dX8_readRow_31 : decode cX8_readRow 31 = .ok (.iload_n 2, 1) := by decide +kernel
theorem dX8_readRow_32 : decode cX8_readRow 32 = .ok (.iload_n 3, 1) := by decide +kernel
theorem dX8_readRow_33 : decode cX8_readRow 33 = .ok (.invokevirtual 146, 3) := by decide +kernel
theorem dX8_readRow_36 : decode cX8_readRow 36 = .ok (.aload_n 0, 1) := by decide +kernel
theorem dX8_readRow_37 : decode cX8_readRow 37 = .ok (.ldc 149, 2) := by decide +kernel
theorem dX8_readRow_39 : decode cX8_readRow 39 = .ok (.invokevirtual 77, 3) := by decide +kernel
theorem dX8_readRow_42 : decode cX8_readRow 42 = .ok (.istore 4, 2) := by decide +kernel
theorem dX8_readRow_44 : decode cX8_readRow 44 = .ok (.iload 4, 2) := by decide +kernel
theorem dX8_readRow_46 : decode cX8_readRow 46 = .ok (.ifCond .eq 19, 3) := by decide +kernel
theorem dX8_readRow_49 : decode cX8_readRow 49 = .ok (.aload_n 0, 1) := by decide +kernel
theorem dX8_readRow_50 : decode cX8_readRow 50 = .ok (.getfield 15, 3) := by decide +kernel
theorem dX8_readRow_53 : decode cX8_readRow 53 = .ok (.iload 6, 2) := by decide +kernel
theorem dX8_readRow_55 : decode cX8_readRow 55 = .ok (.invokevirtual 138, 3) := by decide +kernel
theorem dX8_readRow_58 : decode cX8_readRow 58 = .ok (.aload_n 0, 1) := by decide +kernel
theorem dX8_readRow_59 : decode cX8_readRow 59 = .ok (.invokevirtual 34, 3) := by decide +kernel
theorem dX8_readRow_62 : decode cX8_readRow 62 = .ok (.goto 13, 3) := by decide +kernel
theorem dX8_readRow_65 : decode cX8_readRow 65 = .ok (.aload_n 0, 1) := by decide +kernel
theorem dX8_readRow_66 : decode cX8_readRow 66 = .ok (.getfield 15, 3) := by decide +kernel
theorem dX8_readRow_69 : decode cX8_readRow 69 = .ok (.iload 6, 2) := by decide +kernel
theorem dX8_readRow_71 : decode cX8_readRow 71 = .ok (.iload_n 1, 1) := by decide +kernel
theorem dX8_readRow_72 : decode cX8_readRow 72 = .ok (.invokevirtual 142, 3) := by decide +kernel
theorem dX8_readRow_75 : decode cX8_readRow 75 = .ok (.iinc 5 1, 3) := by decide +kernel
theorem dX8_readRow_78 : decode cX8_readRow 78 = .ok (.goto (-72), 3) := by decide +kernel
theorem dX8_readRow_81 : decode cX8_readRow 81 = .ok (.return_, 1) := by decide +kernel
theorem dX8_readOne_0 : decode cX8_readOne 0 = .ok (.aload_n 0, 1) := by decide +kernel
theorem dX8_readOne_1 : decode cX8_readOne 1 = .ok (.ldc 151, 2) := by decide +kernel
theorem dX8_readOne_3 : decode cX8_readOne 3 = .ok (.invokevirtual 77, 3) := by decide +kernel
theorem dX8_readOne_6 : decode cX8_readOne 6 = .ok (.istore 4, 2) := by decide +kernel
theorem dX8_readOne_8 : decode cX8_readOne 8 = .ok (.iload 4, 2) := by decide +kernel
theorem dX8_readOne_10 : decode cX8_readOne 10 = .ok (.ifCond .ne 55, 3) := by decide +kernel
theorem dX8_readOne_13 : decode cX8_readOne 13 = .ok (.aload_n 0, 1) := by decide +kernel
theorem dX8_readOne_14 : decode cX8_readOne 14 = .ok (.getfield 31, 3) := by decide +kernel
theorem dX8_readOne_17 : decode cX8_readOne 17 = .ok (.bipush 40, 2) := by decide +kernel
theorem dX8_readOne_19 : decode cX8_readOne 19 = .ok (.if_icmp .eq 46, 3) := by decide +kernel
theorem dX8_readOne_22 : decode cX8_readOne 22 = .ok (.aload_n 0, 1) := by decide +kernel
theorem dX8_readOne_23 : decode cX8_readOne 23 = .ok (.invokevirtual 153, 3) := by decide +kernel
theorem dX8_readOne_26 : decode cX8_readOne 26 = .ok (.ifCond .eq 12, 3) := by decide +kernel
theorem dX8_readOne_29 : decode cX8_readOne 29 = .ok (.aload_n 0, 1) := by decide +kernel
theorem dX8_readOne_30 : decode cX8_readOne 30 = .ok (.iload_n 1, 1) := by decide +kernel
theorem dX8_readOne_31 : decode cX8_readOne 31 = .ok (.iload_n 2, 1) := by decide +kernel
theorem dX8_readOne_32 : decode cX8_readOne 32 = .ok (.invokevirtual 157, 3) := by decide +kernel
theorem dX8_readOne_35 : decode cX8_readOne 35 = .ok (.goto 29, 3) := by decide +kernel
theorem dX8_readOne_38 : decode cX8_readOne 38 = .ok (.aload_n 0, 1) := by decide +kernel
theorem dX8_readOne_39 : decode cX8_readOne 39 = .ok (.invokevirtual 160, 3) := by decide +kernel
theorem dX8_readOne_42 : decode cX8_readOne 42 = .ok (.ifCond .lt 16, 3) := by decide +kernel
theorem dX8_readOne_45 : decode cX8_readOne 45 = .ok (.aload_n 0, 1) := by decide +kernel
theorem dX8_readOne_46 : decode cX8_readOne 46 = .ok (.aload_n 0, 1) := by decide +kernel
theorem dX8_readOne_47 : decode cX8_readOne 47 = .ok (.invokevirtual 160, 3) := by decide +kernel
theorem dX8_readOne_50 : decode cX8_readOne 50 = .ok (.iload_n 1, 1) := by decide +kernel
theorem dX8_readOne_51 : decode cX8_readOne 51 = .ok (.iload_n 2, 1) := by decide +kernel
theorem dX8_readOne_52 : decode cX8_readOne 52 = .ok (.invokevirtual 163, 3) := by decide +kernel
theorem dX8_readOne_55 : decode cX8_readOne 55 = .ok (.goto 9, 3) := by decide +kernel
theorem dX8_readOne_58 : decode cX8_readOne 58 = .ok (.aload_n 0, 1) := by decide +kernel
theorem dX8_readOne_59 : decode cX8_readOne 59 = .ok (.iload_n 1, 1) := by decide +kernel
theorem dX8_readOne_60 : decode cX8_readOne 60 = .ok (.iload_n 2, 1) := by decide +kernel
theorem dX8_readOne_61 : decode cX8_readOne 61 = .ok (.invokevirtual 166, 3) := by decide +kernel
theorem dX8_readOne_64 : decode cX8_readOne 64 = .ok (.return_, 1) := by decide +kernel
theorem dX8_readOne_65 : decode cX8_readOne 65 = .ok (.iload_n 3, 1) := by decide +kernel
theorem dX8_readOne_66 : decode cX8_readOne 66 = .ok (.bipush 20, 2) := by decide +kernel
theorem dX8_readOne_68 : decode cX8_readOne 68 = .ok (.if_icmp .lt 8, 3) := by decide +kernel
theorem dX8_readOne_71 : decode cX8_readOne 71 = .ok (.aload_n 0, 1) := by decide +kernel
theorem dX8_readOne_72 : decode cX8_readOne 72 = .ok (.invokevirtual 37, 3) := by decide +kernel
theorem dX8_readOne_75 : decode cX8_readOne 75 = .ok (.return_, 1) := by decide +kernel
theorem dX8_readOne_76 : decode cX8_readOne 76 = .ok (.aload_n 0, 1) := by decide +kernel
theorem dX8_readOne_77 : decode cX8_readOne 77 = .ok (.invokevirtual 34, 3) := by decide +kernel
theorem dX8_readOne_80 : decode cX8_readOne 80 = .ok (.iload 4, 2) := by decide +kernel
theorem dX8_readOne_82 : decode cX8_readOne 82 = .ok (.ifCond .eq 15, 3) := by decide +kernel
theorem dX8_readOne_85 : decode cX8_readOne 85 = .ok (.aload_n 0, 1) := by decide +kernel
theorem dX8_readOne_86 : decode cX8_readOne 86 = .ok (.iload_n 2, 1) := by decide +kernel
theorem dX8_readOne_87 : decode cX8_readOne 87 = .ok (.iload_n 1, 1) := by decide +kernel
theorem dX8_readOne_88 : decode cX8_readOne 88 = .ok (.iload_n 3, 1) := by decide +kernel
theorem dX8_readOne_89 : decode cX8_readOne 89 = .ok (.iconst 1, 1) := by decide +kernel
theorem dX8_readOne_90 : decode cX8_readOne 90 = .ok (.iadd, 1) := by decide +kernel
theorem dX8_readOne_91 : decode cX8_readOne 91 = .ok (.invokevirtual 146, 3) := by decide +kernel
theorem dX8_readOne_94 : decode cX8_readOne 94 = .ok (.goto 18, 3) := by decide +kernel
theorem dX8_readOne_97 : decode cX8_readOne 97 = .ok (.aload_n 0, 1) := by decide +kernel
theorem dX8_readOne_98 : decode cX8_readOne 98 = .ok (.iload_n 1, 1) := by decide +kernel
theorem dX8_readOne_99 : decode cX8_readOne 99 = .ok (.iload_n 2, 1) := by decide +kernel
theorem dX8_readOne_100 : decode cX8_readOne 100 = .ok (.iload_n 3, 1) := by decide +kernel
theorem dX8_readOne_101 : decode cX8_readOne 101 = .ok (.iconst 1, 1) := by decide +kernel
theorem dX8_readOne_102 : decode cX8_readOne 102 = .ok (.iadd, 1) := by decide +kernel
theorem dX8_readOne_103 : decode cX8_readOne 103 = .ok (.invokevirtual 169, 3) := by decide +kernel
theorem dX8_readOne_106 : decode cX8_readOne 106 = .ok (.aload_n 0, 1) := by decide +kernel
theorem dX8_readOne_107 : decode cX8_readOne 107 = .ok (.bipush 41, 2) := by decide +kernel
theorem dX8_readOne_109 : decode cX8_readOne 109 = .ok (.invokevirtual 172, 3) := by decide +kernel
theorem dX8_readOne_112 : decode cX8_readOne 112 = .ok (.return_, 1) := by decide +kernel
theorem dX8_beginsRelation_0 : decode cX8_beginsRelation 0 = .ok (.aload_n 0, 1) := by decide +kernel
theorem dX8_beginsRelation_1 : decode cX8_beginsRelation 1 = .ok (.getfield 31, 3) := by decide +kernel
theorem dX8_beginsRelation_4 : decode cX8_beginsRelation 4 = .ok (.bipush 123, 2) := by decide +kernel
theorem dX8_beginsRelation_6 : decode cX8_beginsRelation 6 = .ok (.if_icmp .eq 30, 3) := by decide +kernel
theorem dX8_beginsRelation_9 : decode cX8_beginsRelation 9 = .ok (.aload_n 0, 1) := by decide +kernel
theorem dX8_beginsRelation_10 : decode cX8_beginsRelation 10 = .ok (.getfield 31, 3) := by decide +kernel
theorem dX8_beginsRelation_13 : decode cX8_beginsRelation 13 = .ok (.bipush 45, 2) := by decide +kernel
theorem dX8_beginsRelation_15 : decode cX8_beginsRelation 15 = .ok (.if_icmp .eq 21, 3) := by decide +kernel
theorem dX8_beginsRelation_18 : decode cX8_beginsRelation 18 = .ok (.aload_n 0, 1) := by decide +kernel
theorem dX8_beginsRelation_19 : decode cX8_beginsRelation 19 = .ok (.ldc 175, 2) := by decide +kernel
theorem dX8_beginsRelation_21 : decode cX8_beginsRelation 21 = .ok (.invokevirtual 77, 3) := by decide +kernel
theorem dX8_beginsRelation_24 : decode cX8_beginsRelation 24 = .ok (.ifCond .ne 12, 3) := by decide +kernel
theorem dX8_beginsRelation_27 : decode cX8_beginsRelation 27 = .ok (.aload_n 0, 1) := by decide +kernel
theorem dX8_beginsRelation_28 : decode cX8_beginsRelation 28 = .ok (.invokevirtual 119, 3) := by decide +kernel
theorem dX8_beginsRelation_31 : decode cX8_beginsRelation 31 = .ok (.lconst 0, 1) := by decide +kernel
theorem dX8_beginsRelation_32 : decode cX8_beginsRelation 32 = .ok (.lcmp, 1) := by decide +kernel
theorem dX8_beginsRelation_33 : decode cX8_beginsRelation 33 = .ok (.ifCond .lt 5, 3) := by decide +kernel
theorem dX8_beginsRelation_36 : decode cX8_beginsRelation 36 = .ok (.iconst 1, 1) := by decide +kernel
theorem dX8_beginsRelation_37 : decode cX8_beginsRelation 37 = .ok (.ireturn, 1) := by decide +kernel
theorem dX8_beginsRelation_38 : decode cX8_beginsRelation 38 = .ok (.aload_n 0, 1) := by decide +kernel
theorem dX8_beginsRelation_39 : decode cX8_beginsRelation 39 = .ok (.invokevirtual 160, 3) := by decide +kernel
theorem dX8_beginsRelation_42 : decode cX8_beginsRelation 42 = .ok (.ifCond .lt 27, 3) := by decide +kernel
theorem dX8_beginsRelation_45 : decode cX8_beginsRelation 45 = .ok (.aload_n 0, 1) := by decide +kernel
theorem dX8_beginsRelation_46 : decode cX8_beginsRelation 46 = .ok (.getfield 9, 3) := by decide +kernel
theorem dX8_beginsRelation_49 : decode cX8_beginsRelation 49 = .ok (.aload_n 0, 1) := by decide +kernel
theorem dX8_beginsRelation_50 : decode cX8_beginsRelation 50 = .ok (.aload_n 0, 1) := by decide +kernel
theorem dX8_beginsRelation_51 : decode cX8_beginsRelation 51 = .ok (.getfield 24, 3) := by decide +kernel
theorem dX8_beginsRelation_54 : decode cX8_beginsRelation 54 = .ok (.invokevirtual 43, 3) := by decide +kernel
theorem dX8_beginsRelation_57 : decode cX8_beginsRelation 57 = .ok (.invokevirtual 47, 3) := by decide +kernel
theorem dX8_beginsRelation_60 : decode cX8_beginsRelation 60 = .ok (.bipush 91, 2) := by decide +kernel
theorem dX8_beginsRelation_62 : decode cX8_beginsRelation 62 = .ok (.if_icmp .ne 7, 3) := by decide +kernel
theorem dX8_beginsRelation_65 : decode cX8_beginsRelation 65 = .ok (.iconst 1, 1) := by decide +kernel
theorem dX8_beginsRelation_66 : decode cX8_beginsRelation 66 = .ok (.goto 4, 3) := by decide +kernel
theorem dX8_beginsRelation_69 : decode cX8_beginsRelation 69 = .ok (.iconst 0, 1) := by decide +kernel
theorem dX8_beginsRelation_70 : decode cX8_beginsRelation 70 = .ok (.ireturn, 1) := by decide +kernel
theorem dX8_readSided_0 : decode cX8_readSided 0 = .ok (.aload_n 0, 1) := by decide +kernel
theorem dX8_readSided_1 : decode cX8_readSided 1 = .ok (.ldc 195, 2) := by decide +kernel
theorem dX8_readSided_3 : decode cX8_readSided 3 = .ok (.invokevirtual 77, 3) := by decide +kernel
theorem dX8_readSided_6 : decode cX8_readSided 6 = .ok (.istore_n 3, 1) := by decide +kernel
theorem dX8_readSided_7 : decode cX8_readSided 7 = .ok (.aload_n 0, 1) := by decide +kernel
theorem dX8_readSided_8 : decode cX8_readSided 8 = .ok (.ldc 197, 2) := by decide +kernel
theorem dX8_readSided_10 : decode cX8_readSided 10 = .ok (.invokevirtual 77, 3) := by decide +kernel
theorem dX8_readSided_13 : decode cX8_readSided 13 = .ok (.istore 4, 2) := by decide +kernel
theorem dX8_readSided_15 : decode cX8_readSided 15 = .ok (.iload_n 3, 1) := by decide +kernel
theorem dX8_readSided_16 : decode cX8_readSided 16 = .ok (.ifCond .eq 7, 3) := by decide +kernel
theorem dX8_readSided_19 : decode cX8_readSided 19 = .ok (.iconst 1, 1) := by decide +kernel
theorem dX8_readSided_20 : decode cX8_readSided 20 = .ok (.goto 13, 3) := by decide +kernel
theorem dX8_readSided_23 : decode cX8_readSided 23 = .ok (.iload 4, 2) := by decide +kernel
theorem dX8_readSided_25 : decode cX8_readSided 25 = .ok (.ifCond .eq 7, 3) := by decide +kernel
theorem dX8_readSided_28 : decode cX8_readSided 28 = .ok (.iconst 2, 1) := by decide +kernel
theorem dX8_readSided_29 : decode cX8_readSided 29 = .ok (.goto 4, 3) := by decide +kernel
theorem dX8_readSided_32 : decode cX8_readSided 32 = .ok (.iconst 0, 1) := by decide +kernel
theorem dX8_readSided_33 : decode cX8_readSided 33 = .ok (.istore 5, 2) := by decide +kernel
theorem dX8_readSided_35 : decode cX8_readSided 35 = .ok (.iload_n 3, 1) := by decide +kernel
theorem dX8_readSided_36 : decode cX8_readSided 36 = .ok (.ifCond .ne 8, 3) := by decide +kernel
theorem dX8_readSided_39 : decode cX8_readSided 39 = .ok (.iload 4, 2) := by decide +kernel
theorem dX8_readSided_41 : decode cX8_readSided 41 = .ok (.ifCond .eq 7, 3) := by decide +kernel
theorem dX8_readSided_44 : decode cX8_readSided 44 = .ok (.aload_n 0, 1) := by decide +kernel
theorem dX8_readSided_45 : decode cX8_readSided 45 = .ok (.invokevirtual 34, 3) := by decide +kernel
theorem dX8_readSided_48 : decode cX8_readSided 48 = .ok (.aload_n 0, 1) := by decide +kernel
theorem dX8_readSided_49 : decode cX8_readSided 49 = .ok (.ldc 199, 2) := by decide +kernel
theorem dX8_readSided_51 : decode cX8_readSided 51 = .ok (.invokevirtual 77, 3) := by decide +kernel
theorem dX8_readSided_54 : decode cX8_readSided 54 = .ok (.ifCond .eq 27, 3) := by decide +kernel
theorem dX8_readSided_57 : decode cX8_readSided 57 = .ok (.aload_n 0, 1) := by decide +kernel
theorem dX8_readSided_58 : decode cX8_readSided 58 = .ok (.invokevirtual 34, 3) := by decide +kernel
theorem dX8_readSided_61 : decode cX8_readSided 61 = .ok (.aload_n 0, 1) := by decide +kernel
theorem dX8_readSided_62 : decode cX8_readSided 62 = .ok (.getfield 15, 3) := by decide +kernel
theorem dX8_readSided_65 : decode cX8_readSided 65 = .ok (.iload 5, 2) := by decide +kernel
theorem dX8_readSided_67 : decode cX8_readSided 67 = .ok (.aload_n 0, 1) := by decide +kernel
theorem dX8_readSided_68 : decode cX8_readSided 68 = .ok (.invokevirtual 201, 3) := by decide +kernel
theorem dX8_readSided_71 : decode cX8_readSided 71 = .ok (.iconst 0, 1) := by decide +kernel
theorem dX8_readSided_72 : decode cX8_readSided 72 = .ok (.iconst 0, 1) := by decide +kernel
theorem dX8_readSided_73 : decode cX8_readSided 73 = .ok (.iload_n 1, 1) := by decide +kernel
theorem dX8_readSided_74 : decode cX8_readSided 74 = .ok (.iload_n 2, 1) := by decide +kernel
theorem dX8_readSided_75 : decode cX8_readSided 75 = .ok (.invokevirtual 204, 3) := by decide +kernel
theorem dX8_readSided_78 : decode cX8_readSided 78 = .ok (.goto 136, 3) := by decide +kernel
theorem dX8_readSided_81 : decode cX8_readSided 81 = .ok (.aload_n 0, 1) := by decide +kernel
theorem dX8_readSided_82 : decode cX8_readSided 82 = .ok (.ldc 208, 2) := by decide +kernel
theorem dX8_readSided_84 : decode cX8_readSided 84 = .ok (.invokevirtual 77, 3) := by decide +kernel
theorem dX8_readSided_87 : decode cX8_readSided 87 = .ok (.ifCond .eq 14, 3) := by decide +kernel
theorem dX8_readSided_90 : decode cX8_readSided 90 = .ok (.aload_n 0, 1) := by decide +kernel
theorem dX8_readSided_91 : decode cX8_readSided 91 = .ok (.iload 5, 2) := by decide +kernel
theorem dX8_readSided_93 : decode cX8_readSided 93 = .ok (.iload_n 1, 1) := by decide +kernel
theorem dX8_readSided_94 : decode cX8_readSided 94 = .ok (.iload_n 2, 1) := by decide +kernel
theorem dX8_readSided_95 : decode cX8_readSided 95 = .ok (.invokevirtual 210, 3) := by decide +kernel
theorem dX8_readSided_98 : decode cX8_readSided 98 = .ok (.goto 116, 3) := by decide +kernel
theorem dX8_readSided_101 : decode cX8_readSided 101 = .ok (.aload_n 0, 1) := by decide +kernel
theorem dX8_readSided_102 : decode cX8_readSided 102 = .ok (.ldc 213, 2) := by decide +kernel
theorem dX8_readSided_104 : decode cX8_readSided 104 = .ok (.invokevirtual 77, 3) := by decide +kernel
theorem dX8_readSided_107 : decode cX8_readSided 107 = .ok (.ifCond .eq 34, 3) := by decide +kernel
theorem dX8_readSided_110 : decode cX8_readSided 110 = .ok (.aload_n 0, 1) := by decide +kernel
theorem dX8_readSided_111 : decode cX8_readSided 111 = .ok (.invokevirtual 34, 3) := by decide +kernel
theorem dX8_readSided_114 : decode cX8_readSided 114 = .ok (.aload_n 0, 1) := by decide +kernel
theorem dX8_readSided_115 : decode cX8_readSided 115 = .ok (.lconst 0, 1) := by decide +kernel
theorem dX8_readSided_116 : decode cX8_readSided 116 = .ok (.ldc2_w 179, 3) := by decide +kernel
theorem dX8_readSided_119 : decode cX8_readSided 119 = .ok (.invokevirtual 181, 3) := by decide +kernel
theorem dX8_readSided_122 : decode cX8_readSided 122 = .ok (.istore 6, 2) := by decide +kernel
theorem dX8_readSided_124 : decode cX8_readSided 124 = .ok (.aload_n 0, 1) := by decide +kernel
theorem dX8_readSided_125 : decode cX8_readSided 125 = .ok (.getfield 15, 3) := by decide +kernel
theorem dX8_readSided_128 : decode cX8_readSided 128 = .ok (.iload 5, 2) := by decide +kernel
theorem dX8_readSided_130 : decode cX8_readSided 130 = .ok (.iload 6, 2) := by decide +kernel
theorem dX8_readSided_132 : decode cX8_readSided 132 = .ok (.iconst (-1), 1) := by decide +kernel
theorem dX8_readSided_133 : decode cX8_readSided 133 = .ok (.iload_n 1, 1) := by decide +kernel
theorem dX8_readSided_134 : decode cX8_readSided 134 = .ok (.iload_n 2, 1) := by decide +kernel
theorem dX8_readSided_135 : decode cX8_readSided 135 = .ok (.invokevirtual 215, 3) := by decide +kernel
theorem dX8_readSided_138 : decode cX8_readSided 138 = .ok (.goto 76, 3) := by decide +kernel
theorem dX8_readSided_141 : decode cX8_readSided 141 = .ok (.aload_n 0, 1) := by decide +kernel
theorem dX8_readSided_142 : decode cX8_readSided 142 = .ok (.ldc 219, 2) := by decide +kernel
theorem dX8_readSided_144 : decode cX8_readSided 144 = .ok (.invokevirtual 77, 3) := by decide +kernel
theorem dX8_readSided_147 : decode cX8_readSided 147 = .ok (.ifCond .eq 49, 3) := by decide +kernel
theorem dX8_readSided_150 : decode cX8_readSided 150 = .ok (.aload_n 0, 1) := by decide +kernel
theorem dX8_readSided_151 : decode cX8_readSided 151 = .ok (.invokevirtual 34, 3) := by decide +kernel
theorem dX8_readSided_154 : decode cX8_readSided 154 = .ok (.aload_n 0, 1) := by decide +kernel
theorem dX8_readSided_155 : decode cX8_readSided 155 = .ok (.lconst 0, 1) := by decide +kernel
theorem dX8_readSided_156 : decode cX8_readSided 156 = .ok (.ldc2_w 179, 3) := by decide +kernel
theorem dX8_readSided_159 : decode cX8_readSided 159 = .ok (.invokevirtual 181, 3) := by decide +kernel
theorem dX8_readSided_162 : decode cX8_readSided 162 = .ok (.istore 6, 2) := by decide +kernel
theorem dX8_readSided_164 : decode cX8_readSided 164 = .ok (.aload_n 0, 1) := by decide +kernel
theorem dX8_readSided_165 : decode cX8_readSided 165 = .ok (.bipush 45, 2) := by decide +kernel
theorem dX8_readSided_167 : decode cX8_readSided 167 = .ok (.invokevirtual 172, 3) := by decide +kernel
theorem dX8_readSided_170 : decode cX8_readSided 170 = .ok (.aload_n 0, 1) := by decide +kernel
theorem dX8_readSided_171 : decode cX8_readSided 171 = .ok (.getfield 15, 3) := by decide +kernel
theorem dX8_readSided_174 : decode cX8_readSided 174 = .ok (.iload 5, 2) := by decide +kernel
theorem dX8_readSided_176 : decode cX8_readSided 176 = .ok (.iload 6, 2) := by decide +kernel
theorem dX8_readSided_178 : decode cX8_readSided 178 = .ok (.aload_n 0, 1) := by decide +kernel
theorem dX8_readSided_179 : decode cX8_readSided 179 = .ok (.iload 6, 2) := by decide +kernel
theorem dX8_readSided_181 : decode cX8_readSided 181 = .ok (.i2l, 1) := by decide +kernel
theorem dX8_readSided_182 : decode cX8_readSided 182 = .ok (.ldc2_w 179, 3) := by decide +kernel
theorem dX8_readSided_185 : decode cX8_readSided 185 = .ok (.invokevirtual 181, 3) := by decide +kernel
theorem dX8_readSided_188 : decode cX8_readSided 188 = .ok (.iload_n 1, 1) := by decide +kernel
theorem dX8_readSided_189 : decode cX8_readSided 189 = .ok (.iload_n 2, 1) := by decide +kernel
theorem dX8_readSided_190 : decode cX8_readSided 190 = .ok (.invokevirtual 215, 3) := by decide +kernel
theorem dX8_readSided_193 : decode cX8_readSided 193 = .ok (.goto 21, 3) := by decide +kernel
theorem dX8_readSided_196 : decode cX8_readSided 196 = .ok (.iload 5, 2) := by decide +kernel
theorem dX8_readSided_198 : decode cX8_readSided 198 = .ok (.ifCond .ne 12, 3) := by decide +kernel
theorem dX8_readSided_201 : decode cX8_readSided 201 = .ok (.aload_n 0, 1) := by decide +kernel
theorem dX8_readSided_202 : decode cX8_readSided 202 = .ok (.iload_n 1, 1) := by decide +kernel
theorem dX8_readSided_203 : decode cX8_readSided 203 = .ok (.iload_n 2, 1) := by decide +kernel
theorem dX8_readSided_204 : decode cX8_readSided 204 = .ok (.invokevirtual 221, 3) := by decide +kernel
theorem dX8_readSided_207 : decode cX8_readSided 207 = .ok (.goto 7, 3) := by decide +kernel
theorem dX8_readSided_210 : decode cX8_readSided 210 = .ok (.aload_n 0, 1) := by decide +kernel
theorem dX8_readSided_211 : decode cX8_readSided 211 = .ok (.invokevirtual 37, 3) := by decide +kernel
theorem dX8_readSided_214 : decode cX8_readSided 214 = .ok (.return_, 1) := by decide +kernel
theorem dX8_readLength_0 : decode cX8_readLength 0 = .ok (.aload_n 0, 1) := by decide +kernel
theorem dX8_readLength_1 : decode cX8_readLength 1 = .ok (.ldc 226, 2) := by decide +kernel
theorem dX8_readLength_3 : decode cX8_readLength 3 = .ok (.invokevirtual 77, 3) := by decide +kernel
theorem dX8_readLength_6 : decode cX8_readLength 6 = .ok (.istore_n 3, 1) := by decide +kernel
theorem dX8_readLength_7 : decode cX8_readLength 7 = .ok (.iload_n 3, 1) := by decide +kernel
theorem dX8_readLength_8 : decode cX8_readLength 8 = .ok (.ifCond .ne 17, 3) := by decide +kernel
theorem dX8_readLength_11 : decode cX8_readLength 11 = .ok (.aload_n 0, 1) := by decide +kernel
theorem dX8_readLength_12 : decode cX8_readLength 12 = .ok (.ldc 228, 2) := by decide +kernel
theorem dX8_readLength_14 : decode cX8_readLength 14 = .ok (.invokevirtual 77, 3) := by decide +kernel
theorem dX8_readLength_17 : decode cX8_readLength 17 = .ok (.ifCond .ne 8, 3) := by decide +kernel
theorem dX8_readLength_20 : decode cX8_readLength 20 = .ok (.aload_n 0, 1) := by decide +kernel
theorem dX8_readLength_21 : decode cX8_readLength 21 = .ok (.invokevirtual 37, 3) := by decide +kernel
theorem dX8_readLength_24 : decode cX8_readLength 24 = .ok (.return_, 1) := by decide +kernel
theorem dX8_readLength_25 : decode cX8_readLength 25 = .ok (.aload_n 0, 1) := by decide +kernel
theorem dX8_readLength_26 : decode cX8_readLength 26 = .ok (.invokevirtual 34, 3) := by decide +kernel
theorem dX8_readLength_29 : decode cX8_readLength 29 = .ok (.aload_n 0, 1) := by decide +kernel
theorem dX8_readLength_30 : decode cX8_readLength 30 = .ok (.getfield 15, 3) := by decide +kernel
theorem dX8_readLength_33 : decode cX8_readLength 33 = .ok (.iload_n 3, 1) := by decide +kernel
theorem dX8_readLength_34 : decode cX8_readLength 34 = .ok (.ifCond .eq 8, 3) := by decide +kernel
theorem dX8_readLength_37 : decode cX8_readLength 37 = .ok (.bipush 11, 2) := by decide +kernel
theorem dX8_readLength_39 : decode cX8_readLength 39 = .ok (.goto 4, 3) := by decide +kernel
theorem dX8_readLength_42 : decode cX8_readLength 42 = .ok (.iconst 3, 1) := by decide +kernel
theorem dX8_readLength_43 : decode cX8_readLength 43 = .ok (.aload_n 0, 1) := by decide +kernel
theorem dX8_readLength_44 : decode cX8_readLength 44 = .ok (.lconst 0, 1) := by decide +kernel
theorem dX8_readLength_45 : decode cX8_readLength 45 = .ok (.ldc2_w 99, 3) := by decide +kernel
theorem dX8_readLength_48 : decode cX8_readLength 48 = .ok (.invokevirtual 181, 3) := by decide +kernel
theorem dX8_readLength_51 : decode cX8_readLength 51 = .ok (.iload_n 1, 1) := by decide +kernel
theorem dX8_readLength_52 : decode cX8_readLength 52 = .ok (.iload_n 2, 1) := by decide +kernel
theorem dX8_readLength_53 : decode cX8_readLength 53 = .ok (.invokevirtual 230, 3) := by decide +kernel
theorem dX8_readLength_56 : decode cX8_readLength 56 = .ok (.return_, 1) := by decide +kernel
theorem dX9_init_0 : decode cX9_init 0 = .ok (.aload_n 0, 1) := by decide +kernel
theorem dX9_init_1 : decode cX9_init 1 = .ok (.invokespecial 1, 3) := by decide +kernel
theorem dX9_init_4 : decode cX9_init 4 = .ok (.aload_n 0, 1) := by decide +kernel
theorem dX9_init_5 : decode cX9_init 5 = .ok (.sipush 2000, 3) := by decide +kernel
theorem dX9_init_8 : decode cX9_init 8 = .ok (.newarray .byte, 2) := by decide +kernel
theorem dX9_init_10 : decode cX9_init 10 = .ok (.putfield 9, 3) := by decide +kernel
theorem dX9_init_13 : decode cX9_init 13 = .ok (.return_, 1) := by decide +kernel
theorem dX9_hasRoom_0 : decode cX9_hasRoom 0 = .ok (.aload_n 0, 1) := by decide +kernel
theorem dX9_hasRoom_1 : decode cX9_hasRoom 1 = .ok (.getfield 13, 3) := by decide +kernel
theorem dX9_hasRoom_4 : decode cX9_hasRoom 4 = .ok (.iload_n 1, 1) := by decide +kernel
theorem dX9_hasRoom_5 : decode cX9_hasRoom 5 = .ok (.iadd, 1) := by decide +kernel
theorem dX9_hasRoom_6 : decode cX9_hasRoom 6 = .ok (.sipush 2000, 3) := by decide +kernel
theorem dX9_hasRoom_9 : decode cX9_hasRoom 9 = .ok (.if_icmp .gt 7, 3) := by decide +kernel
theorem dX9_hasRoom_12 : decode cX9_hasRoom 12 = .ok (.iconst 1, 1) := by decide +kernel
theorem dX9_hasRoom_13 : decode cX9_hasRoom 13 = .ok (.goto 4, 3) := by decide +kernel
theorem dX9_hasRoom_16 : decode cX9_hasRoom 16 = .ok (.iconst 0, 1) := by decide +kernel
theorem dX9_hasRoom_17 : decode cX9_hasRoom 17 = .ok (.ireturn, 1) := by decide +kernel
theorem dX9_put_0 : decode cX9_put 0 = .ok (.aload_n 0, 1) := by decide +kernel
theorem dX9_put_1 : decode cX9_put 1 = .ok (.iconst 4, 1) := by decide +kernel
theorem dX9_put_2 : decode cX9_put 2 = .ok (.invokevirtual 17, 3) := by decide +kernel
theorem dX9_put_5 : decode cX9_put 5 = .ok (.ifCond .ne 4, 3) := by decide +kernel
theorem dX9_put_8 : decode cX9_put 8 = .ok (.return_, 1) := by decide +kernel
theorem dX9_put_9 : decode cX9_put 9 = .ok (.bipush 24, 2) := by decide +kernel
theorem dX9_put_11 : decode cX9_put 11 = .ok (.istore_n 2, 1) := by decide +kernel
theorem dX9_put_12 : decode cX9_put 12 = .ok (.iload_n 2, 1) := by decide +kernel
theorem dX9_put_13 : decode cX9_put 13 = .ok (.ifCond .lt 32, 3) := by decide +kernel
theorem dX9_put_16 : decode cX9_put 16 = .ok (.aload_n 0, 1) := by decide +kernel
theorem dX9_put_17 : decode cX9_put 17 = .ok (.getfield 9, 3) := by decide +kernel
theorem dX9_put_20 : decode cX9_put 20 = .ok (.aload_n 0, 1) := by decide +kernel
theorem dX9_put_21 : decode cX9_put 21 = .ok (.getfield 13, 3) := by decide +kernel
theorem dX9_put_24 : decode cX9_put 24 = .ok (.iload_n 1, 1) := by decide +kernel
theorem dX9_put_25 : decode cX9_put 25 = .ok (.iload_n 2, 1) := by decide +kernel
theorem dX9_put_26 : decode cX9_put 26 = .ok (.ishr, 1) := by decide +kernel
theorem dX9_put_27 : decode cX9_put 27 = .ok (.i2b, 1) := by decide +kernel
theorem dX9_put_28 : decode cX9_put 28 = .ok (.bastore, 1) := by decide +kernel
theorem dX9_put_29 : decode cX9_put 29 = .ok (.aload_n 0, 1) := by decide +kernel
theorem dX9_put_30 : decode cX9_put 30 = .ok (.dup, 1) := by decide +kernel
theorem dX9_put_31 : decode cX9_put 31 = .ok (.getfield 13, 3) := by decide +kernel
theorem dX9_put_34 : decode cX9_put 34 = .ok (.iconst 1, 1) := by decide +kernel
theorem dX9_put_35 : decode cX9_put 35 = .ok (.iadd, 1) := by decide +kernel
theorem dX9_put_36 : decode cX9_put 36 = .ok (.putfield 13, 3) := by decide +kernel
theorem dX9_put_39 : decode cX9_put 39 = .ok (.iinc 2 (-8), 3) := by decide +kernel
theorem dX9_put_42 : decode cX9_put 42 = .ok (.goto (-30), 3) := by decide +kernel
theorem dX9_put_45 : decode cX9_put 45 = .ok (.return_, 1) := by decide +kernel
theorem dX9_at_0 : decode cX9_at 0 = .ok (.iload_n 1, 1) := by decide +kernel
theorem dX9_at_1 : decode cX9_at 1 = .ok (.ifCond .lt 18, 3) := by decide +kernel
theorem dX9_at_4 : decode cX9_at 4 = .ok (.iload_n 1, 1) := by decide +kernel
theorem dX9_at_5 : decode cX9_at 5 = .ok (.aload_n 0, 1) := by decide +kernel
theorem dX9_at_6 : decode cX9_at 6 = .ok (.getfield 13, 3) := by decide +kernel
theorem dX9_at_9 : decode cX9_at 9 = .ok (.if_icmp .ge 10, 3) := by decide +kernel
theorem dX9_at_12 : decode cX9_at 12 = .ok (.iload_n 1, 1) := by decide +kernel
theorem dX9_at_13 : decode cX9_at 13 = .ok (.sipush 2000, 3) := by decide +kernel
theorem dX9_at_16 : decode cX9_at 16 = .ok (.if_icmp .lt 7, 3) := by decide +kernel
theorem dX9_at_19 : decode cX9_at 19 = .ok (.iconst (-1), 1) := by decide +kernel
theorem dX9_at_20 : decode cX9_at 20 = .ok (.goto 13, 3) := by decide +kernel
theorem dX9_at_23 : decode cX9_at 23 = .ok (.aload_n 0, 1) := by decide +kernel
theorem dX9_at_24 : decode cX9_at 24 = .ok (.getfield 9, 3) := by decide +kernel
theorem dX9_at_27 : decode cX9_at 27 = .ok (.iload_n 1, 1) := by decide +kernel
theorem dX9_at_28 : decode cX9_at 28 = .ok (.baload, 1) := by decide +kernel
theorem dX9_at_29 : decode cX9_at 29 = .ok (.sipush 255, 3) := by decide +kernel
theorem dX9_at_32 : decode cX9_at 32 = .ok (.iand, 1) := by decide +kernel
theorem dX9_at_33 : decode cX9_at 33 = .ok (.ireturn, 1) := by decide +kernel
theorem dX10_init_0 : decode cX10_init 0 = .ok (.aload_n 0, 1) := by decide +kernel
theorem dX10_init_1 : decode cX10_init 1 = .ok (.invokespecial 3, 3) := by decide +kernel
theorem dX10_init_4 : decode cX10_init 4 = .ok (.aload_n 0, 1) := by decide +kernel
theorem dX10_init_5 : decode cX10_init 5 = .ok (.sipush 4001, 3) := by decide +kernel
theorem dX10_init_8 : decode cX10_init 8 = .ok (.newarray .int, 2) := by decide +kernel
theorem dX10_init_10 : decode cX10_init 10 = .ok (.putfield 11, 3) := by decide +kernel
theorem dX10_init_13 : decode cX10_init 13 = .ok (.aload_n 0, 1) := by decide +kernel
theorem dX10_init_14 : decode cX10_init 14 = .ok (.aload_n 1, 1) := by decide +kernel
theorem dX10_init_15 : decode cX10_init 15 = .ok (.putfield 17, 3) := by decide +kernel
theorem dX10_init_18 : decode cX10_init 18 = .ok (.aload_n 0, 1) := by decide +kernel
theorem dX10_init_19 : decode cX10_init 19 = .ok (.aload_n 2, 1) := by decide +kernel
theorem dX10_init_20 : decode cX10_init 20 = .ok (.putfield 21, 3) := by decide +kernel
theorem dX10_init_23 : decode cX10_init 23 = .ok (.return_, 1) := by decide +kernel
theorem dX11_init_0 : decode cX11_init 0 = .ok (.aload_n 0, 1) := by decide +kernel
theorem dX11_init_1 : decode cX11_init 1 = .ok (.invokespecial 1, 3) := by decide +kernel
theorem dX11_init_4 : decode cX11_init 4 = .ok (.aload_n 0, 1) := by decide +kernel
theorem dX11_init_5 : decode cX11_init 5 = .ok (.new 7, 3) := by decide +kernel
theorem dX11_init_8 : decode cX11_init 8 = .ok (.dup, 1) := by decide +kernel
theorem dX11_init_9 : decode cX11_init 9 = .ok (.invokespecial 9, 3) := by decide +kernel
theorem dX11_init_12 : decode cX11_init 12 = .ok (.putfield 10, 3) := by decide +kernel
theorem dX11_init_15 : decode cX11_init 15 = .ok (.aload_n 0, 1) := by decide +kernel
theorem dX11_init_16 : decode cX11_init 16 = .ok (.new 16, 3) := by decide +kernel
theorem dX11_init_19 : decode cX11_init 19 = .ok (.dup, 1) := by decide +kernel
theorem dX11_init_20 : decode cX11_init 20 = .ok (.invokespecial 18, 3) := by decide +kernel
theorem dX11_init_23 : decode cX11_init 23 = .ok (.putfield 19, 3) := by decide +kernel
theorem dX11_init_26 : decode cX11_init 26 = .ok (.aload_n 0, 1) := by decide +kernel
theorem dX11_init_27 : decode cX11_init 27 = .ok (.new 23, 3) := by decide +kernel
theorem dX11_init_30 : decode cX11_init 30 = .ok (.dup, 1) := by decide +kernel
theorem dX11_init_31 : decode cX11_init 31 = .ok (.aload_n 0, 1) := by decide +kernel
theorem dX11_init_32 : decode cX11_init 32 = .ok (.getfield 19, 3) := by decide +kernel
theorem dX11_init_35 : decode cX11_init 35 = .ok (.invokespecial 25, 3) := by decide +kernel
theorem dX11_init_38 : decode cX11_init 38 = .ok (.putfield 28, 3) := by decide +kernel
theorem dX11_init_41 : decode cX11_init 41 = .ok (.aload_n 0, 1) := by decide +kernel
theorem dX11_init_42 : decode cX11_init 42 = .ok (.new 32, 3) := by decide +kernel
theorem dX11_init_45 : decode cX11_init 45 = .ok (.dup, 1) := by decide +kernel
theorem dX11_init_46 : decode cX11_init 46 = .ok (.invokespecial 34, 3) := by decide +kernel
theorem dX11_init_49 : decode cX11_init 49 = .ok (.putfield 35, 3) := by decide +kernel
theorem dX11_init_52 : decode cX11_init 52 = .ok (.aload_n 0, 1) := by decide +kernel
theorem dX11_init_53 : decode cX11_init 53 = .ok (.new 39, 3) := by decide +kernel
theorem dX11_init_56 : decode cX11_init 56 = .ok (.dup, 1) := by decide +kernel
theorem dX11_init_57 : decode cX11_init 57 = .ok (.invokespecial 41, 3) := by decide +kernel
theorem dX11_init_60 : decode cX11_init 60 = .ok (.putfield 42, 3) := by decide +kernel
theorem dX11_init_63 : decode cX11_init 63 = .ok (.aload_n 0, 1) := by decide +kernel
theorem dX11_init_64 : decode cX11_init 64 = .ok (.new 39, 3) := by decide +kernel
theorem dX11_init_67 : decode cX11_init 67 = .ok (.dup, 1) := by decide +kernel
theorem dX11_init_68 : decode cX11_init 68 = .ok (.invokespecial 41, 3) := by decide +kernel
theorem dX11_init_71 : decode cX11_init 71 = .ok (.putfield 46, 3) := by decide +kernel
theorem dX11_init_74 : decode cX11_init 74 = .ok (.aload_n 0, 1) := by decide +kernel
theorem dX11_init_75 : decode cX11_init 75 = .ok (.new 49, 3) := by decide +kernel
theorem dX11_init_78 : decode cX11_init 78 = .ok (.dup, 1) := by decide +kernel
theorem dX11_init_79 : decode cX11_init 79 = .ok (.invokespecial 51, 3) := by decide +kernel
theorem dX11_init_82 : decode cX11_init 82 = .ok (.putfield 52, 3) := by decide +kernel
theorem dX11_init_85 : decode cX11_init 85 = .ok (.aload_n 0, 1) := by decide +kernel
theorem dX11_init_86 : decode cX11_init 86 = .ok (.new 49, 3) := by decide +kernel
theorem dX11_init_89 : decode cX11_init 89 = .ok (.dup, 1) := by decide +kernel
theorem dX11_init_90 : decode cX11_init 90 = .ok (.invokespecial 51, 3) := by decide +kernel
theorem dX11_init_93 : decode cX11_init 93 = .ok (.putfield 56, 3) := by decide +kernel
theorem dX11_init_96 : decode cX11_init 96 = .ok (.aload_n 0, 1) := by decide +kernel
theorem dX11_init_97 : decode cX11_init 97 = .ok (.new 59, 3) := by decide +kernel
theorem dX11_init_100 : decode cX11_init 100 = .ok (.dup, 1) := by decide +kernel
theorem dX11_init_101 : decode cX11_init 101 = .ok (.aload_n 0, 1) := by decide +kernel
theorem dX11_init_102 : decode cX11_init 102 = .ok (.getfield 10, 3) := by decide +kernel
theorem dX11_init_105 : decode cX11_init 105 = .ok (.aload_n 0, 1) := by decide +kernel
theorem dX11_init_106 : decode cX11_init 106 = .ok (.getfield 46, 3) := by decide +kernel
theorem dX11_init_109 : decode cX11_init 109 = .ok (.invokespecial 61, 3) := by decide +kernel
theorem dX11_init_112 : decode cX11_init 112 = .ok (.putfield 64, 3) := by decide +kernel
theorem dX11_init_115 : decode cX11_init 115 = .ok (.aload_n 0, 1) := by decide +kernel
theorem dX11_init_116 : decode cX11_init 116 = .ok (.new 68, 3) := by decide +kernel
theorem dX11_init_119 : decode cX11_init 119 = .ok (.dup, 1) := by decide +kernel
theorem dX11_init_120 : decode cX11_init 120 = .ok (.aload_n 0, 1) := by decide +kernel
theorem dX11_init_121 : decode cX11_init 121 = .ok (.getfield 46, 3) := by decide +kernel
theorem dX11_init_124 : decode cX11_init 124 = .ok (.aload_n 0, 1) := by decide +kernel
theorem dX11_init_125 : decode cX11_init 125 = .ok (.getfield 56, 3) := by decide +kernel
theorem dX11_init_128 : decode cX11_init 128 = .ok (.invokespecial 70, 3) := by decide +kernel
theorem dX11_init_131 : decode cX11_init 131 = .ok (.putfield 73, 3) := by decide +kernel
theorem dX11_init_134 : decode cX11_init 134 = .ok (.aload_n 0, 1) := by decide +kernel
theorem dX11_init_135 : decode cX11_init 135 = .ok (.new 77, 3) := by decide +kernel
theorem dX11_init_138 : decode cX11_init 138 = .ok (.dup, 1) := by decide +kernel
theorem dX11_init_139 : decode cX11_init 139 = .ok (.aload_n 0, 1) := by decide +kernel
theorem dX11_init_140 : decode cX11_init 140 = .ok (.getfield 52, 3) := by decide +kernel
theorem dX11_init_143 : decode cX11_init 143 = .ok (.aload_n 0, 1) := by decide +kernel
theorem dX11_init_144 : decode cX11_init 144 = .ok (.getfield 35, 3) := by decide +kernel
theorem dX11_init_147 : decode cX11_init 147 = .ok (.invokespecial 79, 3) := by decide +kernel
theorem dX11_init_150 : decode cX11_init 150 = .ok (.putfield 82, 3) := by decide +kernel
theorem dX11_init_153 : decode cX11_init 153 = .ok (.aload_n 0, 1) := by decide +kernel
theorem dX11_init_154 : decode cX11_init 154 = .ok (.new 86, 3) := by decide +kernel
theorem dX11_init_157 : decode cX11_init 157 = .ok (.dup, 1) := by decide +kernel
theorem dX11_init_158 : decode cX11_init 158 = .ok (.aload_n 0, 1) := by decide +kernel
theorem dX11_init_159 : decode cX11_init 159 = .ok (.getfield 52, 3) := by decide +kernel
theorem dX11_init_162 : decode cX11_init 162 = .ok (.invokespecial 88, 3) := by decide +kernel
theorem dX11_init_165 : decode cX11_init 165 = .ok (.putfield 91, 3) := by decide +kernel
theorem dX11_init_168 : decode cX11_init 168 = .ok (.aload_n 0, 1) := by decide +kernel
theorem dX11_init_169 : decode cX11_init 169 = .ok (.new 86, 3) := by decide +kernel
theorem dX11_init_172 : decode cX11_init 172 = .ok (.dup, 1) := by decide +kernel
theorem dX11_init_173 : decode cX11_init 173 = .ok (.aload_n 0, 1) := by decide +kernel
theorem dX11_init_174 : decode cX11_init 174 = .ok (.getfield 52, 3) := by decide +kernel
theorem dX11_init_177 : decode cX11_init 177 = .ok (.invokespecial 88, 3) := by decide +kernel
theorem dX11_init_180 : decode cX11_init 180 = .ok (.putfield 95, 3) := by decide +kernel
theorem dX11_init_183 : decode cX11_init 183 = .ok (.return_, 1) := by decide +kernel
theorem dX11_feed_0 : decode cX11_feed 0 = .ok (.aload_n 0, 1) := by decide +kernel
theorem dX11_feed_1 : decode cX11_feed 1 = .ok (.getfield 10, 3) := by decide +kernel
theorem dX11_feed_4 : decode cX11_feed 4 = .ok (.bipush 20, 2) := by decide +kernel
theorem dX11_feed_6 : decode cX11_feed 6 = .ok (.invokevirtual 98, 3) := by decide +kernel
theorem dX11_feed_9 : decode cX11_feed 9 = .ok (.ifCond .ne 5, 3) := by decide +kernel
theorem dX11_feed_12 : decode cX11_feed 12 = .ok (.iconst (-1), 1) := by decide +kernel
theorem dX11_feed_13 : decode cX11_feed 13 = .ok (.ireturn, 1) := by decide +kernel
theorem dX11_feed_14 : decode cX11_feed 14 = .ok (.aload_n 0, 1) := by decide +kernel
theorem dX11_feed_15 : decode cX11_feed 15 = .ok (.getfield 10, 3) := by decide +kernel
theorem dX11_feed_18 : decode cX11_feed 18 = .ok (.iload_n 1, 1) := by decide +kernel
theorem dX11_feed_19 : decode cX11_feed 19 = .ok (.invokevirtual 102, 3) := by decide +kernel
theorem dX11_feed_22 : decode cX11_feed 22 = .ok (.aload_n 0, 1) := by decide +kernel
theorem dX11_feed_23 : decode cX11_feed 23 = .ok (.getfield 10, 3) := by decide +kernel
theorem dX11_feed_26 : decode cX11_feed 26 = .ok (.iload_n 2, 1) := by decide +kernel
theorem dX11_feed_27 : decode cX11_feed 27 = .ok (.invokevirtual 102, 3) := by decide +kernel
theorem dX11_feed_30 : decode cX11_feed 30 = .ok (.aload_n 0, 1) := by decide +kernel
theorem dX11_feed_31 : decode cX11_feed 31 = .ok (.getfield 10, 3) := by decide +kernel
theorem dX11_feed_34 : decode cX11_feed 34 = .ok (.iload_n 3, 1) := by decide +kernel
theorem dX11_feed_35 : decode cX11_feed 35 = .ok (.invokevirtual 102, 3) := by decide +kernel
theorem dX11_feed_38 : decode cX11_feed 38 = .ok (.aload_n 0, 1) := by decide +kernel
theorem dX11_feed_39 : decode cX11_feed 39 = .ok (.getfield 10, 3) := by decide +kernel
theorem dX11_feed_42 : decode cX11_feed 42 = .ok (.iload 4, 2) := by decide +kernel
theorem dX11_feed_44 : decode cX11_feed 44 = .ok (.invokevirtual 102, 3) := by decide +kernel
theorem dX11_feed_47 : decode cX11_feed 47 = .ok (.aload_n 0, 1) := by decide +kernel
theorem dX11_feed_48 : decode cX11_feed 48 = .ok (.getfield 10, 3) := by decide +kernel
theorem dX11_feed_51 : decode cX11_feed 51 = .ok (.iload 5, 2) := by decide +kernel
theorem dX11_feed_53 : decode cX11_feed 53 = .ok (.invokevirtual 102, 3) := by decide +kernel
theorem dX11_feed_56 : decode cX11_feed 56 = .ok (.aload_n 0, 1) := by decide +kernel
theorem dX11_feed_57 : decode cX11_feed 57 = .ok (.getfield 10, 3) := by decide +kernel
theorem dX11_feed_60 : decode cX11_feed 60 = .ok (.getfield 106, 3) := by decide +kernel
theorem dX11_feed_63 : decode cX11_feed 63 = .ok (.ireturn, 1) := by decide +kernel
theorem dX11_end_0 : decode cX11_end 0 = .ok (.iload_n 1, 1) := by decide +kernel
theorem dX11_end_1 : decode cX11_end 1 = .ok (.ifCond .lt 14, 3) := by decide +kernel
theorem dX11_end_4 : decode cX11_end 4 = .ok (.iload_n 1, 1) := by decide +kernel
theorem dX11_end_5 : decode cX11_end 5 = .ok (.aload_n 0, 1) := by decide +kernel
theorem dX11_end_6 : decode cX11_end 6 = .ok (.getfield 10, 3) := by decide +kernel
theorem dX11_end_9 : decode cX11_end 9 = .ok (.getfield 106, 3) := by decide +kernel
theorem dX11_end_12 : decode cX11_end 12 = .ok (.if_icmp .le 5, 3) := by decide +kernel
theorem dX11_end_15 : decode cX11_end 15 = .ok (.iconst (-1), 1) := by decide +kernel
theorem dX11_end_16 : decode cX11_end 16 = .ok (.ireturn, 1) := by decide +kernel
theorem dX11_end_17 : decode cX11_end 17 = .ok (.aload_n 0, 1) := by decide +kernel
theorem dX11_end_18 : decode cX11_end 18 = .ok (.getfield 10, 3) := by decide +kernel
theorem dX11_end_21 : decode cX11_end 21 = .ok (.iload_n 1, 1) := by decide +kernel
theorem dX11_end_22 : decode cX11_end 22 = .ok (.putfield 106, 3) := by decide +kernel
theorem dX11_end_25 : decode cX11_end 25 = .ok (.iload_n 1, 1) := by decide +kernel
theorem dX11_end_26 : decode cX11_end 26 = .ok (.ireturn, 1) := by decide +kernel
theorem dX11_packet_0 : decode cX11_packet 0 = .ok (.aload_n 0, 1) := by decide +kernel
theorem dX11_packet_1 : decode cX11_packet 1 = .ok (.getfield 19, 3) := by decide +kernel
theorem dX11_packet_4 : decode cX11_packet 4 = .ok (.aload_n 0, 1) := by decide +kernel
theorem dX11_packet_5 : decode cX11_packet 5 = .ok (.getfield 10, 3) := by decide +kernel
theorem dX11_packet_8 : decode cX11_packet 8 = .ok (.invokevirtual 110, 3) := by decide +kernel
theorem dX11_packet_11 : decode cX11_packet 11 = .ok (.istore_n 1, 1) := by decide +kernel
theorem dX11_packet_12 : decode cX11_packet 12 = .ok (.aload_n 0, 1) := by decide +kernel
theorem dX11_packet_13 : decode cX11_packet 13 = .ok (.getfield 10, 3) := by decide +kernel
theorem dX11_packet_16 : decode cX11_packet 16 = .ok (.iconst 0, 1) := by decide +kernel
theorem dX11_packet_17 : decode cX11_packet 17 = .ok (.putfield 106, 3) := by decide +kernel
theorem dX11_packet_20 : decode cX11_packet 20 = .ok (.iload_n 1, 1) := by decide +kernel
theorem dX11_packet_21 : decode cX11_packet 21 = .ok (.ireturn, 1) := by decide +kernel
theorem dX11_bytes_0 : decode cX11_bytes 0 = .ok (.aload_n 0, 1) := by decide +kernel
theorem dX11_bytes_1 : decode cX11_bytes 1 = .ok (.getfield 19, 3) := by decide +kernel
theorem dX11_bytes_4 : decode cX11_bytes 4 = .ok (.iload_n 1, 1) := by decide +kernel
theorem dX11_bytes_5 : decode cX11_bytes 5 = .ok (.iload_n 2, 1) := by decide +kernel
theorem dX11_bytes_6 : decode cX11_bytes 6 = .ok (.invokevirtual 114, 3) := by decide +kernel
theorem dX11_bytes_9 : decode cX11_bytes 9 = .ok (.lreturn, 1) := by decide +kernel
theorem dX11_compile_0 : decode cX11_compile 0 = .ok (.aload_n 0, 1) := by decide +kernel
theorem dX11_compile_1 : decode cX11_compile 1 = .ok (.getfield 64, 3) := by decide +kernel
theorem dX11_compile_4 : decode cX11_compile 4 = .ok (.aload_n 0, 1) := by decide +kernel
theorem dX11_compile_5 : decode cX11_compile 5 = .ok (.getfield 46, 3) := by decide +kernel
theorem dX11_compile_8 : decode cX11_compile 8 = .ok (.invokevirtual 118, 3) := by decide +kernel
theorem dX11_compile_11 : decode cX11_compile 11 = .ok (.aload_n 0, 1) := by decide +kernel
theorem dX11_compile_12 : decode cX11_compile 12 = .ok (.getfield 64, 3) := by decide +kernel
theorem dX11_compile_15 : decode cX11_compile 15 = .ok (.iconst 0, 1) := by decide +kernel
theorem dX11_compile_16 : decode cX11_compile 16 = .ok (.iconst 1, 1) := by decide +kernel
theorem dX11_compile_17 : decode cX11_compile 17 = .ok (.iconst 0, 1) := by decide +kernel
theorem dX11_compile_18 : decode cX11_compile 18 = .ok (.invokevirtual 122, 3) := by decide +kernel
theorem dX11_compile_21 : decode cX11_compile 21 = .ok (.aload_n 0, 1) := by decide +kernel
theorem dX11_compile_22 : decode cX11_compile 22 = .ok (.getfield 64, 3) := by decide +kernel
theorem dX11_compile_25 : decode cX11_compile 25 = .ok (.invokevirtual 126, 3) := by decide +kernel
theorem dX11_compile_28 : decode cX11_compile 28 = .ok (.istore_n 1, 1) := by decide +kernel
theorem dX11_compile_29 : decode cX11_compile 29 = .ok (.aload_n 0, 1) := by decide +kernel
theorem dX11_compile_30 : decode cX11_compile 30 = .ok (.getfield 10, 3) := by decide +kernel
theorem dX11_compile_33 : decode cX11_compile 33 = .ok (.iconst 0, 1) := by decide +kernel
theorem dX11_compile_34 : decode cX11_compile 34 = .ok (.putfield 106, 3) := by decide +kernel
theorem dX11_compile_37 : decode cX11_compile 37 = .ok (.iload_n 1, 1) := by decide +kernel
theorem dX11_compile_38 : decode cX11_compile 38 = .ok (.ifCond .lt 7, 3) := by decide +kernel
theorem dX11_compile_41 : decode cX11_compile 41 = .ok (.iconst (-1), 1) := by decide +kernel
theorem dX11_compile_42 : decode cX11_compile 42 = .ok (.iload_n 1, 1) := by decide +kernel
theorem dX11_compile_43 : decode cX11_compile 43 = .ok (.isub, 1) := by decide +kernel
theorem dX11_compile_44 : decode cX11_compile 44 = .ok (.ireturn, 1) := by decide +kernel
theorem dX11_compile_45 : decode cX11_compile 45 = .ok (.aload_n 0, 1) := by decide +kernel
theorem dX11_compile_46 : decode cX11_compile 46 = .ok (.getfield 46, 3) := by decide +kernel
theorem dX11_compile_49 : decode cX11_compile 49 = .ok (.invokevirtual 130, 3) := by decide +kernel
theorem dX11_compile_52 : decode cX11_compile 52 = .ok (.aload_n 0, 1) := by decide +kernel
theorem dX11_compile_53 : decode cX11_compile 53 = .ok (.getfield 73, 3) := by decide +kernel
theorem dX11_compile_56 : decode cX11_compile 56 = .ok (.aload_n 0, 1) := by decide +kernel
theorem dX11_compile_57 : decode cX11_compile 57 = .ok (.getfield 46, 3) := by decide +kernel
theorem dX11_compile_60 : decode cX11_compile 60 = .ok (.aload_n 0, 1) := by decide +kernel
theorem dX11_compile_61 : decode cX11_compile 61 = .ok (.getfield 56, 3) := by decide +kernel
theorem dX11_compile_64 : decode cX11_compile 64 = .ok (.invokevirtual 133, 3) := by decide +kernel
theorem dX11_compile_67 : decode cX11_compile 67 = .ok (.istore_n 2, 1) := by decide +kernel
theorem dX11_compile_68 : decode cX11_compile 68 = .ok (.iload_n 2, 1) := by decide +kernel
theorem dX11_compile_69 : decode cX11_compile 69 = .ok (.ifCond .ge 7, 3) := by decide +kernel
theorem dX11_compile_72 : decode cX11_compile 72 = .ok (.sipush (-3000), 3) := by decide +kernel
theorem dX11_compile_75 : decode cX11_compile 75 = .ok (.ireturn, 1) := by decide +kernel
theorem dX11_compile_76 : decode cX11_compile 76 = .ok (.aload_n 0, 1) := by decide +kernel
theorem dX11_compile_77 : decode cX11_compile 77 = .ok (.invokevirtual 137, 3) := by decide +kernel
theorem dX11_compile_80 : decode cX11_compile 80 = .ok (.aload_n 0, 1) := by decide +kernel
theorem dX11_compile_81 : decode cX11_compile 81 = .ok (.iconst 1, 1) := by decide +kernel
theorem dX11_compile_82 : decode cX11_compile 82 = .ok (.putfield 140, 3) := by decide +kernel
theorem dX11_compile_85 : decode cX11_compile 85 = .ok (.iload_n 2, 1) := by decide +kernel
theorem dX11_compile_86 : decode cX11_compile 86 = .ok (.ireturn, 1) := by decide +kernel
theorem dX11_load_0 : decode cX11_load 0 = .ok (.aload_n 0, 1) := by decide +kernel
theorem dX11_load_1 : decode cX11_load 1 = .ok (.getfield 52, 3) := by decide +kernel
theorem dX11_load_4 : decode cX11_load 4 = .ok (.aload_n 0, 1) := by decide +kernel
theorem dX11_load_5 : decode cX11_load 5 = .ok (.getfield 10, 3) := by decide +kernel
theorem dX11_load_8 : decode cX11_load 8 = .ok (.invokevirtual 144, 3) := by decide +kernel
theorem dX11_load_11 : decode cX11_load 11 = .ok (.istore_n 1, 1) := by decide +kernel
theorem dX11_load_12 : decode cX11_load 12 = .ok (.aload_n 0, 1) := by decide +kernel
theorem dX11_load_13 : decode cX11_load 13 = .ok (.getfield 10, 3) := by decide +kernel
theorem dX11_load_16 : decode cX11_load 16 = .ok (.iconst 0, 1) := by decide +kernel
theorem dX11_load_17 : decode cX11_load 17 = .ok (.putfield 106, 3) := by decide +kernel
theorem dX11_load_20 : decode cX11_load 20 = .ok (.iload_n 1, 1) := by decide +kernel
theorem dX11_load_21 : decode cX11_load 21 = .ok (.ireturn, 1) := by decide +kernel
theorem dX11_instruction_0 : decode cX11_instruction 0 = .ok (.aload_n 0, 1) := by decide +kernel
theorem dX11_instruction_1 : decode cX11_instruction 1 = .ok (.getfield 52, 3) := by decide +kernel
theorem dX11_instruction_4 : decode cX11_instruction 4 = .ok (.iload_n 1, 1) := by decide +kernel
theorem dX11_instruction_5 : decode cX11_instruction 5 = .ok (.invokevirtual 147, 3) := by decide +kernel
theorem dX11_instruction_8 : decode cX11_instruction 8 = .ok (.lreturn, 1) := by decide +kernel
theorem dX11_verify_0 : decode cX11_verify 0 = .ok (.aload_n 0, 1) := by decide +kernel
theorem dX11_verify_1 : decode cX11_verify 1 = .ok (.getfield 91, 3) := by decide +kernel
theorem dX11_verify_4 : decode cX11_verify 4 = .ok (.aload_n 0, 1) := by decide +kernel
theorem dX11_verify_5 : decode cX11_verify 5 = .ok (.getfield 52, 3) := by decide +kernel
theorem dX11_verify_8 : decode cX11_verify 8 = .ok (.invokevirtual 151, 3) := by decide +kernel
theorem dX11_verify_11 : decode cX11_verify 11 = .ok (.ireturn, 1) := by decide +kernel
theorem dX11_known_0 : decode cX11_known 0 = .ok (.aload_n 0, 1) := by decide +kernel
theorem dX11_known_1 : decode cX11_known 1 = .ok (.getfield 91, 3) := by decide +kernel
theorem dX11_known_4 : decode cX11_known 4 = .ok (.iload_n 1, 1) := by decide +kernel
theorem dX11_known_5 : decode cX11_known 5 = .ok (.iload_n 2, 1) := by decide +kernel
theorem dX11_known_6 : decode cX11_known 6 = .ok (.iload_n 3, 1) := by decide +kernel
theorem dX11_known_7 : decode cX11_known 7 = .ok (.invokevirtual 155, 3) := by decide +kernel
theorem dX11_known_10 : decode cX11_known 10 = .ok (.lreturn, 1) := by decide +kernel
theorem dX11_run_0 : decode cX11_run 0 = .ok (.aload_n 0, 1) := by decide +kernel
theorem dX11_run_1 : decode cX11_run 1 = .ok (.getfield 52, 3) := by decide +kernel
theorem dX11_run_4 : decode cX11_run 4 = .ok (.getfield 159, 3) := by decide +kernel
theorem dX11_run_7 : decode cX11_run 7 = .ok (.ifCond .eq 14, 3) := by decide +kernel
theorem dX11_run_10 : decode cX11_run 10 = .ok (.aload_n 0, 1) := by decide +kernel
theorem dX11_run_11 : decode cX11_run 11 = .ok (.getfield 19, 3) := by decide +kernel
theorem dX11_run_14 : decode cX11_run 14 = .ok (.iload_n 1, 1) := by decide +kernel
theorem dX11_run_15 : decode cX11_run 15 = .ok (.invokevirtual 160, 3) := by decide +kernel
theorem dX11_run_18 : decode cX11_run 18 = .ok (.ifCond .ge 5, 3) := by decide +kernel
theorem dX11_run_21 : decode cX11_run 21 = .ok (.lconst 0, 1) := by decide +kernel
theorem dX11_run_22 : decode cX11_run 22 = .ok (.lreturn, 1) := by decide +kernel
theorem dX11_run_23 : decode cX11_run 23 = .ok (.aload_n 0, 1) := by decide +kernel
theorem dX11_run_24 : decode cX11_run 24 = .ok (.getfield 52, 3) := by decide +kernel
theorem dX11_run_27 : decode cX11_run 27 = .ok (.aload_n 0, 1) := by decide +kernel
theorem dX11_run_28 : decode cX11_run 28 = .ok (.getfield 28, 3) := by decide +kernel
theorem dX11_run_31 : decode cX11_run 31 = .ok (.iload_n 1, 1) := by decide +kernel
theorem dX11_run_32 : decode cX11_run 32 = .ok (.aload_n 0, 1) := by decide +kernel
theorem dX11_run_33 : decode cX11_run 33 = .ok (.getfield 19, 3) := by decide +kernel
theorem dX11_run_36 : decode cX11_run 36 = .ok (.iload_n 1, 1) := by decide +kernel
theorem dX11_run_37 : decode cX11_run 37 = .ok (.invokevirtual 160, 3) := by decide +kernel
theorem dX11_run_40 : decode cX11_run 40 = .ok (.invokevirtual 164, 3) := by decide +kernel
theorem dX11_run_43 : decode cX11_run 43 = .ok (.lreturn, 1) := by decide +kernel
theorem dX11_translate_0 : decode cX11_translate 0 = .ok (.aload_n 0, 1) := by decide +kernel
theorem dX11_translate_1 : decode cX11_translate 1 = .ok (.getfield 95, 3) := by decide +kernel
theorem dX11_translate_4 : decode cX11_translate 4 = .ok (.aload_n 0, 1) := by decide +kernel
theorem dX11_translate_5 : decode cX11_translate 5 = .ok (.getfield 52, 3) := by decide +kernel
theorem dX11_translate_8 : decode cX11_translate 8 = .ok (.invokevirtual 151, 3) := by decide +kernel
theorem dX11_translate_11 : decode cX11_translate 11 = .ok (.ifCond .eq 5, 3) := by decide +kernel
theorem dX11_translate_14 : decode cX11_translate 14 = .ok (.iconst (-1), 1) := by decide +kernel
theorem dX11_translate_15 : decode cX11_translate 15 = .ok (.ireturn, 1) := by decide +kernel
theorem dX11_translate_16 : decode cX11_translate 16 = .ok (.aload_n 0, 1) := by decide +kernel
theorem dX11_translate_17 : decode cX11_translate 17 = .ok (.getfield 82, 3) := by decide +kernel
theorem dX11_translate_20 : decode cX11_translate 20 = .ok (.aload_n 0, 1) := by decide +kernel
theorem dX11_translate_21 : decode cX11_translate 21 = .ok (.getfield 52, 3) := by decide +kernel
theorem dX11_translate_24 : decode cX11_translate 24 = .ok (.invokevirtual 168, 3) := by decide +kernel
theorem dX11_translate_27 : decode cX11_translate 27 = .ok (.ireturn, 1) := by decide +kernel
theorem dX11_raw_0 : decode cX11_raw 0 = .ok (.aload_n 0, 1) := by decide +kernel
theorem dX11_raw_1 : decode cX11_raw 1 = .ok (.getfield 35, 3) := by decide +kernel
theorem dX11_raw_4 : decode cX11_raw 4 = .ok (.aload_n 0, 1) := by decide +kernel
theorem dX11_raw_5 : decode cX11_raw 5 = .ok (.getfield 10, 3) := by decide +kernel
theorem dX11_raw_8 : decode cX11_raw 8 = .ok (.invokevirtual 171, 3) := by decide +kernel
theorem dX11_raw_11 : decode cX11_raw 11 = .ok (.istore_n 1, 1) := by decide +kernel
theorem dX11_raw_12 : decode cX11_raw 12 = .ok (.aload_n 0, 1) := by decide +kernel
theorem dX11_raw_13 : decode cX11_raw 13 = .ok (.getfield 10, 3) := by decide +kernel
theorem dX11_raw_16 : decode cX11_raw 16 = .ok (.iconst 0, 1) := by decide +kernel
theorem dX11_raw_17 : decode cX11_raw 17 = .ok (.putfield 106, 3) := by decide +kernel
theorem dX11_raw_20 : decode cX11_raw 20 = .ok (.iload_n 1, 1) := by decide +kernel
theorem dX11_raw_21 : decode cX11_raw 21 = .ok (.ireturn, 1) := by decide +kernel
theorem dX11_word_0 : decode cX11_word 0 = .ok (.aload_n 0, 1) := by decide +kernel
theorem dX11_word_1 : decode cX11_word 1 = .ok (.getfield 35, 3) := by decide +kernel
theorem dX11_word_4 : decode cX11_word 4 = .ok (.iload_n 1, 1) := by decide +kernel
theorem dX11_word_5 : decode cX11_word 5 = .ok (.invokevirtual 172, 3) := by decide +kernel
theorem dX11_word_8 : decode cX11_word 8 = .ok (.ireturn, 1) := by decide +kernel
theorem dX11_emulate_0 : decode cX11_emulate 0 = .ok (.aload_n 0, 1) := by decide +kernel
theorem dX11_emulate_1 : decode cX11_emulate 1 = .ok (.getfield 35, 3) := by decide +kernel
theorem dX11_emulate_4 : decode cX11_emulate 4 = .ok (.getfield 174, 3) := by decide +kernel
theorem dX11_emulate_7 : decode cX11_emulate 7 = .ok (.ifCond .eq 14, 3) := by decide +kernel
theorem dX11_emulate_10 : decode cX11_emulate 10 = .ok (.aload_n 0, 1) := by decide +kernel
theorem dX11_emulate_11 : decode cX11_emulate 11 = .ok (.getfield 19, 3) := by decide +kernel
theorem dX11_emulate_14 : decode cX11_emulate 14 = .ok (.iload_n 1, 1) := by decide +kernel
theorem dX11_emulate_15 : decode cX11_emulate 15 = .ok (.invokevirtual 160, 3) := by decide +kernel
theorem dX11_emulate_18 : decode cX11_emulate 18 = .ok (.ifCond .ge 5, 3) := by decide +kernel
theorem dX11_emulate_21 : decode cX11_emulate 21 = .ok (.lconst 0, 1) := by decide +kernel
theorem dX11_emulate_22 : decode cX11_emulate 22 = .ok (.lreturn, 1) := by decide +kernel
theorem dX11_emulate_23 : decode cX11_emulate 23 = .ok (.aload_n 0, 1) := by decide +kernel
theorem dX11_emulate_24 : decode cX11_emulate 24 = .ok (.getfield 35, 3) := by decide +kernel
theorem dX11_emulate_27 : decode cX11_emulate 27 = .ok (.aload_n 0, 1) := by decide +kernel
theorem dX11_emulate_28 : decode cX11_emulate 28 = .ok (.getfield 28, 3) := by decide +kernel
theorem dX11_emulate_31 : decode cX11_emulate 31 = .ok (.iload_n 1, 1) := by decide +kernel
theorem dX11_emulate_32 : decode cX11_emulate 32 = .ok (.aload_n 0, 1) := by decide +kernel
theorem dX11_emulate_33 : decode cX11_emulate 33 = .ok (.getfield 19, 3) := by decide +kernel
theorem dX11_emulate_36 : decode cX11_emulate 36 = .ok (.iload_n 1, 1) := by decide +kernel
theorem dX11_emulate_37 : decode cX11_emulate 37 = .ok (.invokevirtual 160, 3) := by decide +kernel
theorem dX11_emulate_40 : decode cX11_emulate 40 = .ok (.invokevirtual 175, 3) := by decide +kernel
theorem dX11_emulate_43 : decode cX11_emulate 43 = .ok (.lreturn, 1) := by decide +kernel
theorem dX11_ended_0 : decode cX11_ended 0 = .ok (.iload_n 1, 1) := by decide +kernel
theorem dX11_ended_1 : decode cX11_ended 1 = .ok (.tableswitch 51 0 2 #[27, 35, 43], 27) := by decide +kernel
theorem dX11_ended_28 : decode cX11_ended 28 = .ok (.aload_n 0, 1) := by decide +kernel
theorem dX11_ended_29 : decode cX11_ended 29 = .ok (.getfield 28, 3) := by decide +kernel
theorem dX11_ended_32 : decode cX11_ended 32 = .ok (.getfield 176, 3) := by decide +kernel
theorem dX11_ended_35 : decode cX11_ended 35 = .ok (.ireturn, 1) := by decide +kernel
theorem dX11_ended_36 : decode cX11_ended 36 = .ok (.aload_n 0, 1) := by decide +kernel
theorem dX11_ended_37 : decode cX11_ended 37 = .ok (.getfield 28, 3) := by decide +kernel
theorem dX11_ended_40 : decode cX11_ended 40 = .ok (.getfield 179, 3) := by decide +kernel
theorem dX11_ended_43 : decode cX11_ended 43 = .ok (.ireturn, 1) := by decide +kernel
theorem dX11_ended_44 : decode cX11_ended 44 = .ok (.aload_n 0, 1) := by decide +kernel
theorem dX11_ended_45 : decode cX11_ended 45 = .ok (.getfield 28, 3) := by decide +kernel
theorem dX11_ended_48 : decode cX11_ended 48 = .ok (.getfield 182, 3) := by decide +kernel
theorem dX11_ended_51 : decode cX11_ended 51 = .ok (.ireturn, 1) := by decide +kernel
theorem dX11_ended_52 : decode cX11_ended 52 = .ok (.iconst 0, 1) := by decide +kernel
theorem dX11_ended_53 : decode cX11_ended 53 = .ok (.ireturn, 1) := by decide +kernel
theorem dX11_register_0 : decode cX11_register 0 = .ok (.iload_n 1, 1) := by decide +kernel
theorem dX11_register_1 : decode cX11_register 1 = .ok (.ifCond .lt 14, 3) := by decide +kernel
theorem dX11_register_4 : decode cX11_register 4 = .ok (.iload_n 1, 1) := by decide +kernel
theorem dX11_register_5 : decode cX11_register 5 = .ok (.aload_n 0, 1) := by decide +kernel
theorem dX11_register_6 : decode cX11_register 6 = .ok (.getfield 28, 3) := by decide +kernel
theorem dX11_register_9 : decode cX11_register 9 = .ok (.getfield 185, 3) := by decide +kernel
theorem dX11_register_12 : decode cX11_register 12 = .ok (.if_icmp .lt 7, 3) := by decide +kernel
theorem dX11_register_15 : decode cX11_register 15 = .ok (.lconst 0, 1) := by decide +kernel
theorem dX11_register_16 : decode cX11_register 16 = .ok (.goto 11, 3) := by decide +kernel
theorem dX11_register_19 : decode cX11_register 19 = .ok (.aload_n 0, 1) := by decide +kernel
theorem dX11_register_20 : decode cX11_register 20 = .ok (.getfield 28, 3) := by decide +kernel
theorem dX11_register_23 : decode cX11_register 23 = .ok (.iload_n 1, 1) := by decide +kernel
theorem dX11_register_24 : decode cX11_register 24 = .ok (.invokevirtual 188, 3) := by decide +kernel
theorem dX11_register_27 : decode cX11_register 27 = .ok (.lreturn, 1) := by decide +kernel
theorem dX11_stack_0 : decode cX11_stack 0 = .ok (.iload_n 1, 1) := by decide +kernel
theorem dX11_stack_1 : decode cX11_stack 1 = .ok (.ifCond .lt 9, 3) := by decide +kernel
theorem dX11_stack_4 : decode cX11_stack 4 = .ok (.iload_n 1, 1) := by decide +kernel
theorem dX11_stack_5 : decode cX11_stack 5 = .ok (.bipush 64, 2) := by decide +kernel
theorem dX11_stack_7 : decode cX11_stack 7 = .ok (.if_icmp .lt 7, 3) := by decide +kernel
theorem dX11_stack_10 : decode cX11_stack 10 = .ok (.iconst (-1), 1) := by decide +kernel
theorem dX11_stack_11 : decode cX11_stack 11 = .ok (.goto 16, 3) := by decide +kernel
theorem dX11_stack_14 : decode cX11_stack 14 = .ok (.aload_n 0, 1) := by decide +kernel
theorem dX11_stack_15 : decode cX11_stack 15 = .ok (.getfield 28, 3) := by decide +kernel
theorem dX11_stack_18 : decode cX11_stack 18 = .ok (.getfield 191, 3) := by decide +kernel
theorem dX11_stack_21 : decode cX11_stack 21 = .ok (.iload_n 1, 1) := by decide +kernel
theorem dX11_stack_22 : decode cX11_stack 22 = .ok (.baload, 1) := by decide +kernel
theorem dX11_stack_23 : decode cX11_stack 23 = .ok (.sipush 255, 3) := by decide +kernel
theorem dX11_stack_26 : decode cX11_stack 26 = .ok (.iand, 1) := by decide +kernel
theorem dX11_stack_27 : decode cX11_stack 27 = .ok (.ireturn, 1) := by decide +kernel
theorem dX11_matches_0 : decode cX11_matches 0 = .ok (.aload_n 0, 1) := by decide +kernel
theorem dX11_matches_1 : decode cX11_matches 1 = .ok (.getfield 140, 3) := by decide +kernel
theorem dX11_matches_4 : decode cX11_matches 4 = .ok (.ifCond .ne 5, 3) := by decide +kernel
theorem dX11_matches_7 : decode cX11_matches 7 = .ok (.iconst (-1), 1) := by decide +kernel
theorem dX11_matches_8 : decode cX11_matches 8 = .ok (.ireturn, 1) := by decide +kernel
theorem dX11_matches_9 : decode cX11_matches 9 = .ok (.iconst 0, 1) := by decide +kernel
theorem dX11_matches_10 : decode cX11_matches 10 = .ok (.istore_n 1, 1) := by decide +kernel
theorem dX11_matches_11 : decode cX11_matches 11 = .ok (.iconst 0, 1) := by decide +kernel
theorem dX11_matches_12 : decode cX11_matches 12 = .ok (.istore_n 2, 1) := by decide +kernel
theorem dX11_matches_13 : decode cX11_matches 13 = .ok (.iload_n 2, 1) := by decide +kernel
theorem dX11_matches_14 : decode cX11_matches 14 = .ok (.aload_n 0, 1) := by decide +kernel
theorem dX11_matches_15 : decode cX11_matches 15 = .ok (.getfield 19, 3) := by decide +kernel
theorem dX11_matches_18 : decode cX11_matches 18 = .ok (.getfield 195, 3) := by decide +kernel
theorem dX11_matches_21 : decode cX11_matches 21 = .ok (.if_icmp .ge 30, 3) := by decide +kernel
theorem dX11_matches_24 : decode cX11_matches 24 = .ok (.aload_n 0, 1) := by decide +kernel
theorem dX11_matches_25 : decode cX11_matches 25 = .ok (.getfield 42, 3) := by decide +kernel
theorem dX11_matches_28 : decode cX11_matches 28 = .ok (.aload_n 0, 1) := by decide +kernel
theorem dX11_matches_29 : decode cX11_matches 29 = .ok (.getfield 19, 3) := by decide +kernel
theorem dX11_matches_32 : decode cX11_matches 32 = .ok (.iload_n 2, 1) := by decide +kernel
theorem dX11_matches_33 : decode cX11_matches 33 = .ok (.invokevirtual 198, 3) := by decide +kernel
theorem dX11_matches_36 : decode cX11_matches 36 = .ok (.ifCond .eq 9, 3) := by decide +kernel
theorem dX11_matches_39 : decode cX11_matches 39 = .ok (.iload_n 1, 1) := by decide +kernel
theorem dX11_matches_40 : decode cX11_matches 40 = .ok (.iconst 1, 1) := by decide +kernel
theorem dX11_matches_41 : decode cX11_matches 41 = .ok (.iload_n 2, 1) := by decide +kernel
theorem dX11_matches_42 : decode cX11_matches 42 = .ok (.ishl, 1) := by decide +kernel
theorem dX11_matches_43 : decode cX11_matches 43 = .ok (.ior, 1) := by decide +kernel
theorem dX11_matches_44 : decode cX11_matches 44 = .ok (.istore_n 1, 1) := by decide +kernel
theorem dX11_matches_45 : decode cX11_matches 45 = .ok (.iinc 2 1, 3) := by decide +kernel
theorem dX11_matches_48 : decode cX11_matches 48 = .ok (.goto (-35), 3) := by decide +kernel
theorem dX11_matches_51 : decode cX11_matches 51 = .ok (.iload_n 1, 1) := by decide +kernel
theorem dX11_matches_52 : decode cX11_matches 52 = .ok (.ireturn, 1) := by decide +kernel
theorem dX11_count_0 : decode cX11_count 0 = .ok (.iload_n 1, 1) := by decide +kernel
theorem dX11_count_1 : decode cX11_count 1 = .ok (.tableswitch 109 0 5 #[39, 47, 55, 63, 71, 90], 39) := by decide +kernel
theorem dX11_count_40 : decode cX11_count 40 = .ok (.aload_n 0, 1) := by decide +kernel
theorem dX11_count_41 : decode cX11_count 41 = .ok (.getfield 19, 3) := by decide +kernel
theorem dX11_count_44 : decode cX11_count 44 = .ok (.getfield 195, 3) := by decide +kernel
theorem dX11_count_47 : decode cX11_count 47 = .ok (.ireturn, 1) := by decide +kernel
theorem dX11_count_48 : decode cX11_count 48 = .ok (.aload_n 0, 1) := by decide +kernel
theorem dX11_count_49 : decode cX11_count 49 = .ok (.getfield 52, 3) := by decide +kernel
theorem dX11_count_52 : decode cX11_count 52 = .ok (.getfield 159, 3) := by decide +kernel
theorem dX11_count_55 : decode cX11_count 55 = .ok (.ireturn, 1) := by decide +kernel
theorem dX11_count_56 : decode cX11_count 56 = .ok (.aload_n 0, 1) := by decide +kernel
theorem dX11_count_57 : decode cX11_count 57 = .ok (.getfield 35, 3) := by decide +kernel
theorem dX11_count_60 : decode cX11_count 60 = .ok (.getfield 174, 3) := by decide +kernel
theorem dX11_count_63 : decode cX11_count 63 = .ok (.ireturn, 1) := by decide +kernel
theorem dX11_count_64 : decode cX11_count 64 = .ok (.aload_n 0, 1) := by decide +kernel
theorem dX11_count_65 : decode cX11_count 65 = .ok (.getfield 10, 3) := by decide +kernel
theorem dX11_count_68 : decode cX11_count 68 = .ok (.getfield 106, 3) := by decide +kernel
theorem dX11_count_71 : decode cX11_count 71 = .ok (.ireturn, 1) := by decide +kernel
theorem dX11_count_72 : decode cX11_count 72 = .ok (.aload_n 0, 1) := by decide +kernel
theorem dX11_count_73 : decode cX11_count 73 = .ok (.getfield 140, 3) := by decide +kernel
theorem dX11_count_76 : decode cX11_count 76 = .ok (.ifCond .eq 13, 3) := by decide +kernel
theorem dX11_count_79 : decode cX11_count 79 = .ok (.aload_n 0, 1) := by decide +kernel
theorem dX11_count_80 : decode cX11_count 80 = .ok (.getfield 42, 3) := by decide +kernel
theorem dX11_count_83 : decode cX11_count 83 = .ok (.getfield 202, 3) := by decide +kernel
theorem dX11_count_86 : decode cX11_count 86 = .ok (.goto 4, 3) := by decide +kernel
theorem dX11_count_89 : decode cX11_count 89 = .ok (.iconst 0, 1) := by decide +kernel
theorem dX11_count_90 : decode cX11_count 90 = .ok (.ireturn, 1) := by decide +kernel
theorem dX11_count_91 : decode cX11_count 91 = .ok (.aload_n 0, 1) := by decide +kernel
theorem dX11_count_92 : decode cX11_count 92 = .ok (.getfield 140, 3) := by decide +kernel
theorem dX11_count_95 : decode cX11_count 95 = .ok (.ifCond .eq 13, 3) := by decide +kernel
theorem dX11_count_98 : decode cX11_count 98 = .ok (.aload_n 0, 1) := by decide +kernel
theorem dX11_count_99 : decode cX11_count 99 = .ok (.getfield 42, 3) := by decide +kernel
theorem dX11_count_102 : decode cX11_count 102 = .ok (.getfield 205, 3) := by decide +kernel
theorem dX11_count_105 : decode cX11_count 105 = .ok (.goto 4, 3) := by decide +kernel
theorem dX11_count_108 : decode cX11_count 108 = .ok (.iconst 0, 1) := by decide +kernel
theorem dX11_count_109 : decode cX11_count 109 = .ok (.ireturn, 1) := by decide +kernel
theorem dX11_count_110 : decode cX11_count 110 = .ok (.iconst (-1), 1) := by decide +kernel
theorem dX11_count_111 : decode cX11_count 111 = .ok (.ireturn, 1) := by decide +kernel
theorem dX15_init_0 : decode cX15_init 0 = .ok (.aload_n 0, 1) := by decide +kernel
theorem dX15_init_1 : decode cX15_init 1 = .ok (.invokespecial 1, 3) := by decide +kernel
theorem dX15_init_4 : decode cX15_init 4 = .ok (.aload_n 0, 1) := by decide +kernel
theorem dX15_init_5 : decode cX15_init 5 = .ok (.iload_n 1, 1) := by decide +kernel
theorem dX15_init_6 : decode cX15_init 6 = .ok (.putfield 7, 3) := by decide +kernel
theorem dX15_init_9 : decode cX15_init 9 = .ok (.return_, 1) := by decide +kernel
theorem dX16_init_0 : decode cX16_init 0 = .ok (.aload_n 0, 1) := by decide +kernel
theorem dX16_init_1 : decode cX16_init 1 = .ok (.invokespecial 1, 3) := by decide +kernel
theorem dX16_init_4 : decode cX16_init 4 = .ok (.aload_n 0, 1) := by decide +kernel
theorem dX16_init_5 : decode cX16_init 5 = .ok (.sipush 2000, 3) := by decide +kernel
theorem dX16_init_8 : decode cX16_init 8 = .ok (.newarray .int, 2) := by decide +kernel
theorem dX16_init_10 : decode cX16_init 10 = .ok (.putfield 9, 3) := by decide +kernel
theorem dX16_init_13 : decode cX16_init 13 = .ok (.aload_n 0, 1) := by decide +kernel
theorem dX16_init_14 : decode cX16_init 14 = .ok (.sipush 4096, 3) := by decide +kernel
theorem dX16_init_17 : decode cX16_init 17 = .ok (.newarray .int, 2) := by decide +kernel
theorem dX16_init_19 : decode cX16_init 19 = .ok (.putfield 13, 3) := by decide +kernel
theorem dX16_init_22 : decode cX16_init 22 = .ok (.aload_n 0, 1) := by decide +kernel
theorem dX16_init_23 : decode cX16_init 23 = .ok (.bipush 16, 2) := by decide +kernel
theorem dX16_init_25 : decode cX16_init 25 = .ok (.newarray .int, 2) := by decide +kernel
theorem dX16_init_27 : decode cX16_init 27 = .ok (.putfield 16, 3) := by decide +kernel
theorem dX16_init_30 : decode cX16_init 30 = .ok (.aload_n 0, 1) := by decide +kernel
theorem dX16_init_31 : decode cX16_init 31 = .ok (.bipush 7, 2) := by decide +kernel
theorem dX16_init_33 : decode cX16_init 33 = .ok (.newarray .int, 2) := by decide +kernel
theorem dX16_init_35 : decode cX16_init 35 = .ok (.putfield 19, 3) := by decide +kernel
theorem dX16_init_38 : decode cX16_init 38 = .ok (.aload_n 0, 1) := by decide +kernel
theorem dX16_init_39 : decode cX16_init 39 = .ok (.bipush 16, 2) := by decide +kernel
theorem dX16_init_41 : decode cX16_init 41 = .ok (.anewarray 22, 3) := by decide +kernel
theorem dX16_init_44 : decode cX16_init 44 = .ok (.putfield 24, 3) := by decide +kernel
theorem dX16_init_47 : decode cX16_init 47 = .ok (.aload_n 0, 1) := by decide +kernel
theorem dX16_init_48 : decode cX16_init 48 = .ok (.bipush 16, 2) := by decide +kernel
theorem dX16_init_50 : decode cX16_init 50 = .ok (.newarray .int, 2) := by decide +kernel
theorem dX16_init_52 : decode cX16_init 52 = .ok (.putfield 28, 3) := by decide +kernel
theorem dX16_init_55 : decode cX16_init 55 = .ok (.aload_n 0, 1) := by decide +kernel
theorem dX16_init_56 : decode cX16_init 56 = .ok (.bipush 16, 2) := by decide +kernel
theorem dX16_init_58 : decode cX16_init 58 = .ok (.newarray .int, 2) := by decide +kernel
theorem dX16_init_60 : decode cX16_init 60 = .ok (.putfield 31, 3) := by decide +kernel
theorem dX16_init_63 : decode cX16_init 63 = .ok (.aload_n 0, 1) := by decide +kernel
theorem dX16_init_64 : decode cX16_init 64 = .ok (.bipush 64, 2) := by decide +kernel
theorem dX16_init_66 : decode cX16_init 66 = .ok (.anewarray 22, 3) := by decide +kernel
theorem dX16_init_69 : decode cX16_init 69 = .ok (.putfield 34, 3) := by decide +kernel
theorem dX16_init_72 : decode cX16_init 72 = .ok (.aload_n 0, 1) := by decide +kernel
theorem dX16_init_73 : decode cX16_init 73 = .ok (.bipush 64, 2) := by decide +kernel
theorem dX16_init_75 : decode cX16_init 75 = .ok (.newarray .int, 2) := by decide +kernel
theorem dX16_init_77 : decode cX16_init 77 = .ok (.putfield 37, 3) := by decide +kernel
theorem dX16_init_80 : decode cX16_init 80 = .ok (.aload_n 0, 1) := by decide +kernel
theorem dX16_init_81 : decode cX16_init 81 = .ok (.bipush 64, 2) := by decide +kernel
theorem dX16_init_83 : decode cX16_init 83 = .ok (.newarray .int, 2) := by decide +kernel
theorem dX16_init_85 : decode cX16_init 85 = .ok (.putfield 40, 3) := by decide +kernel
theorem dX16_init_88 : decode cX16_init 88 = .ok (.aload_n 0, 1) := by decide +kernel
theorem dX16_init_89 : decode cX16_init 89 = .ok (.bipush 64, 2) := by decide +kernel
theorem dX16_init_91 : decode cX16_init 91 = .ok (.anewarray 43, 3) := by decide +kernel
theorem dX16_init_94 : decode cX16_init 94 = .ok (.putfield 45, 3) := by decide +kernel
theorem dX16_init_97 : decode cX16_init 97 = .ok (.aload_n 0, 1) := by decide +kernel
theorem dX16_init_98 : decode cX16_init 98 = .ok (.iconst 0, 1) := by decide +kernel
theorem dX16_init_99 : decode cX16_init 99 = .ok (.newarray .long, 2) := by decide +kernel
theorem dX16_init_101 : decode cX16_init 101 = .ok (.putfield 49, 3) := by decide +kernel
theorem dX16_init_104 : decode cX16_init 104 = .ok (.aload_n 0, 1) := by decide +kernel
theorem dX16_init_105 : decode cX16_init 105 = .ok (.bipush 64, 2) := by decide +kernel
theorem dX16_init_107 : decode cX16_init 107 = .ok (.newarray .long, 2) := by decide +kernel
theorem dX16_init_109 : decode cX16_init 109 = .ok (.putfield 53, 3) := by decide +kernel
theorem dX16_init_112 : decode cX16_init 112 = .ok (.aload_n 0, 1) := by decide +kernel
theorem dX16_init_113 : decode cX16_init 113 = .ok (.bipush 64, 2) := by decide +kernel
theorem dX16_init_115 : decode cX16_init 115 = .ok (.newarray .int, 2) := by decide +kernel
theorem dX16_init_117 : decode cX16_init 117 = .ok (.putfield 56, 3) := by decide +kernel
theorem dX16_init_120 : decode cX16_init 120 = .ok (.aload_n 0, 1) := by decide +kernel
theorem dX16_init_121 : decode cX16_init 121 = .ok (.bipush 64, 2) := by decide +kernel
theorem dX16_init_123 : decode cX16_init 123 = .ok (.newarray .int, 2) := by decide +kernel
theorem dX16_init_125 : decode cX16_init 125 = .ok (.putfield 59, 3) := by decide +kernel
theorem dX16_init_128 : decode cX16_init 128 = .ok (.aload_n 0, 1) := by decide +kernel
theorem dX16_init_129 : decode cX16_init 129 = .ok (.bipush 32, 2) := by decide +kernel
theorem dX16_init_131 : decode cX16_init 131 = .ok (.newarray .long, 2) := by decide +kernel
theorem dX16_init_133 : decode cX16_init 133 = .ok (.putfield 62, 3) := by decide +kernel
theorem dX16_init_136 : decode cX16_init 136 = .ok (.aload_n 0, 1) := by decide +kernel
theorem dX16_init_137 : decode cX16_init 137 = .ok (.bipush 64, 2) := by decide +kernel
theorem dX16_init_139 : decode cX16_init 139 = .ok (.newarray .int, 2) := by decide +kernel
theorem dX16_init_141 : decode cX16_init 141 = .ok (.putfield 65, 3) := by decide +kernel
theorem dX16_init_144 : decode cX16_init 144 = .ok (.aload_n 0, 1) := by decide +kernel
theorem dX16_init_145 : decode cX16_init 145 = .ok (.ldc 68, 2) := by decide +kernel
theorem dX16_init_147 : decode cX16_init 147 = .ok (.newarray .int, 2) := by decide +kernel
theorem dX16_init_149 : decode cX16_init 149 = .ok (.putfield 69, 3) := by decide +kernel
theorem dX16_init_152 : decode cX16_init 152 = .ok (.aload_n 0, 1) := by decide +kernel
theorem dX16_init_153 : decode cX16_init 153 = .ok (.ldc 68, 2) := by decide +kernel
theorem dX16_init_155 : decode cX16_init 155 = .ok (.newarray .long, 2) := by decide +kernel
theorem dX16_init_157 : decode cX16_init 157 = .ok (.putfield 72, 3) := by decide +kernel
theorem dX16_init_160 : decode cX16_init 160 = .ok (.aload_n 0, 1) := by decide +kernel
theorem dX16_init_161 : decode cX16_init 161 = .ok (.ldc 68, 2) := by decide +kernel
theorem dX16_init_163 : decode cX16_init 163 = .ok (.newarray .long, 2) := by decide +kernel
theorem dX16_init_165 : decode cX16_init 165 = .ok (.putfield 75, 3) := by decide +kernel
theorem dX16_init_168 : decode cX16_init 168 = .ok (.aload_n 0, 1) := by decide +kernel
theorem dX16_init_169 : decode cX16_init 169 = .ok (.ldc 68, 2) := by decide +kernel
theorem dX16_init_171 : decode cX16_init 171 = .ok (.newarray .long, 2) := by decide +kernel
theorem dX16_init_173 : decode cX16_init 173 = .ok (.putfield 78, 3) := by decide +kernel
theorem dX16_init_176 : decode cX16_init 176 = .ok (.aload_n 0, 1) := by decide +kernel
theorem dX16_init_177 : decode cX16_init 177 = .ok (.ldc 68, 2) := by decide +kernel
theorem dX16_init_179 : decode cX16_init 179 = .ok (.newarray .long, 2) := by decide +kernel
theorem dX16_init_181 : decode cX16_init 181 = .ok (.putfield 81, 3) := by decide +kernel
theorem dX16_init_184 : decode cX16_init 184 = .ok (.aload_n 0, 1) := by decide +kernel
theorem dX16_init_185 : decode cX16_init 185 = .ok (.sipush 4000, 3) := by decide +kernel
theorem dX16_init_188 : decode cX16_init 188 = .ok (.newarray .long, 2) := by decide +kernel
theorem dX16_init_190 : decode cX16_init 190 = .ok (.putfield 84, 3) := by decide +kernel
theorem dX16_init_193 : decode cX16_init 193 = .ok (.aload_n 0, 1) := by decide +kernel
theorem dX16_init_194 : decode cX16_init 194 = .ok (.sipush 4000, 3) := by decide +kernel
theorem dX16_init_197 : decode cX16_init 197 = .ok (.newarray .boolean, 2) := by decide +kernel
theorem dX16_init_199 : decode cX16_init 199 = .ok (.putfield 87, 3) := by decide +kernel
theorem dX16_init_202 : decode cX16_init 202 = .ok (.aload_n 0, 1) := by decide +kernel
theorem dX16_init_203 : decode cX16_init 203 = .ok (.iconst (-1), 1) := by decide +kernel
theorem dX16_init_204 : decode cX16_init 204 = .ok (.putfield 91, 3) := by decide +kernel
theorem dX16_init_207 : decode cX16_init 207 = .ok (.aload_n 0, 1) := by decide +kernel
theorem dX16_init_208 : decode cX16_init 208 = .ok (.bipush 11, 2) := by decide +kernel
theorem dX16_init_210 : decode cX16_init 210 = .ok (.newarray .int, 2) := by decide +kernel
theorem dX16_init_212 : decode cX16_init 212 = .ok (.putfield 95, 3) := by decide +kernel
theorem dX16_init_215 : decode cX16_init 215 = .ok (.aload_n 0, 1) := by decide +kernel
theorem dX16_init_216 : decode cX16_init 216 = .ok (.bipush 11, 2) := by decide +kernel
theorem dX16_init_218 : decode cX16_init 218 = .ok (.newarray .long, 2) := by decide +kernel
theorem dX16_init_220 : decode cX16_init 220 = .ok (.putfield 98, 3) := by decide +kernel
theorem dX16_init_223 : decode cX16_init 223 = .ok (.aload_n 0, 1) := by decide +kernel
theorem dX16_init_224 : decode cX16_init 224 = .ok (.bipush 11, 2) := by decide +kernel
theorem dX16_init_226 : decode cX16_init 226 = .ok (.newarray .long, 2) := by decide +kernel
theorem dX16_init_228 : decode cX16_init 228 = .ok (.putfield 101, 3) := by decide +kernel
theorem dX16_init_231 : decode cX16_init 231 = .ok (.aload_n 0, 1) := by decide +kernel
theorem dX16_init_232 : decode cX16_init 232 = .ok (.bipush 11, 2) := by decide +kernel
theorem dX16_init_234 : decode cX16_init 234 = .ok (.newarray .long, 2) := by decide +kernel
theorem dX16_init_236 : decode cX16_init 236 = .ok (.putfield 104, 3) := by decide +kernel
theorem dX16_init_239 : decode cX16_init 239 = .ok (.aload_n 0, 1) := by decide +kernel
theorem dX16_init_240 : decode cX16_init 240 = .ok (.bipush 11, 2) := by decide +kernel
theorem dX16_init_242 : decode cX16_init 242 = .ok (.newarray .long, 2) := by decide +kernel
theorem dX16_init_244 : decode cX16_init 244 = .ok (.putfield 107, 3) := by decide +kernel
theorem dX16_init_247 : decode cX16_init 247 = .ok (.aload_n 0, 1) := by decide +kernel
theorem dX16_init_248 : decode cX16_init 248 = .ok (.ldc 68, 2) := by decide +kernel
theorem dX16_init_250 : decode cX16_init 250 = .ok (.newarray .int, 2) := by decide +kernel
theorem dX16_init_252 : decode cX16_init 252 = .ok (.putfield 110, 3) := by decide +kernel
theorem dX16_init_255 : decode cX16_init 255 = .ok (.aload_n 0, 1) := by decide +kernel
theorem dX16_init_256 : decode cX16_init 256 = .ok (.ldc 68, 2) := by decide +kernel
theorem dX16_init_258 : decode cX16_init 258 = .ok (.newarray .long, 2) := by decide +kernel
theorem dX16_init_260 : decode cX16_init 260 = .ok (.putfield 113, 3) := by decide +kernel
theorem dX16_init_263 : decode cX16_init 263 = .ok (.aload_n 0, 1) := by decide +kernel
theorem dX16_init_264 : decode cX16_init 264 = .ok (.ldc 68, 2) := by decide +kernel
theorem dX16_init_266 : decode cX16_init 266 = .ok (.newarray .long, 2) := by decide +kernel
theorem dX16_init_268 : decode cX16_init 268 = .ok (.putfield 116, 3) := by decide +kernel
theorem dX16_init_271 : decode cX16_init 271 = .ok (.aload_n 0, 1) := by decide +kernel
theorem dX16_init_272 : decode cX16_init 272 = .ok (.ldc 68, 2) := by decide +kernel
theorem dX16_init_274 : decode cX16_init 274 = .ok (.newarray .long, 2) := by decide +kernel
theorem dX16_init_276 : decode cX16_init 276 = .ok (.putfield 119, 3) := by decide +kernel
theorem dX16_init_279 : decode cX16_init 279 = .ok (.aload_n 0, 1) := by decide +kernel
theorem dX16_init_280 : decode cX16_init 280 = .ok (.ldc 68, 2) := by decide +kernel
theorem dX16_init_282 : decode cX16_init 282 = .ok (.newarray .long, 2) := by decide +kernel
theorem dX16_init_284 : decode cX16_init 284 = .ok (.putfield 122, 3) := by decide +kernel
theorem dX16_init_287 : decode cX16_init 287 = .ok (.aload_n 0, 1) := by decide +kernel
theorem dX16_init_288 : decode cX16_init 288 = .ok (.sipush 4000, 3) := by decide +kernel
theorem dX16_init_291 : decode cX16_init 291 = .ok (.newarray .long, 2) := by decide +kernel
theorem dX16_init_293 : decode cX16_init 293 = .ok (.putfield 125, 3) := by decide +kernel
theorem dX16_init_296 : decode cX16_init 296 = .ok (.aload_n 0, 1) := by decide +kernel
theorem dX16_init_297 : decode cX16_init 297 = .ok (.sipush 4000, 3) := by decide +kernel
theorem dX16_init_300 : decode cX16_init 300 = .ok (.newarray .boolean, 2) := by decide +kernel
theorem dX16_init_302 : decode cX16_init 302 = .ok (.putfield 128, 3) := by decide +kernel
theorem dX16_init_305 : decode cX16_init 305 = .ok (.aload_n 0, 1) := by decide +kernel
theorem dX16_init_306 : decode cX16_init 306 = .ok (.iconst (-1), 1) := by decide +kernel
theorem dX16_init_307 : decode cX16_init 307 = .ok (.putfield 131, 3) := by decide +kernel
theorem dX16_init_310 : decode cX16_init 310 = .ok (.aload_n 0, 1) := by decide +kernel
theorem dX16_init_311 : decode cX16_init 311 = .ok (.ldc 134, 2) := by decide +kernel
theorem dX16_init_313 : decode cX16_init 313 = .ok (.newarray .int, 2) := by decide +kernel
theorem dX16_init_315 : decode cX16_init 315 = .ok (.putfield 135, 3) := by decide +kernel
theorem dX16_init_318 : decode cX16_init 318 = .ok (.aload_n 0, 1) := by decide +kernel
theorem dX16_init_319 : decode cX16_init 319 = .ok (.ldc 134, 2) := by decide +kernel
theorem dX16_init_321 : decode cX16_init 321 = .ok (.newarray .int, 2) := by decide +kernel
theorem dX16_init_323 : decode cX16_init 323 = .ok (.putfield 138, 3) := by decide +kernel
theorem dX16_init_326 : decode cX16_init 326 = .ok (.aload_n 0, 1) := by decide +kernel
theorem dX16_init_327 : decode cX16_init 327 = .ok (.sipush 4000, 3) := by decide +kernel
theorem dX16_init_330 : decode cX16_init 330 = .ok (.newarray .int, 2) := by decide +kernel
theorem dX16_init_332 : decode cX16_init 332 = .ok (.putfield 141, 3) := by decide +kernel
theorem dX16_init_335 : decode cX16_init 335 = .ok (.return_, 1) := by decide +kernel
theorem dX16_feed_0 : decode cX16_feed 0 = .ok (.aload_n 0, 1) := by decide +kernel
theorem dX16_feed_1 : decode cX16_feed 1 = .ok (.getfield 144, 3) := by decide +kernel
theorem dX16_feed_4 : decode cX16_feed 4 = .ok (.bipush 20, 2) := by decide +kernel
theorem dX16_feed_6 : decode cX16_feed 6 = .ok (.iadd, 1) := by decide +kernel
theorem dX16_feed_7 : decode cX16_feed 7 = .ok (.sipush 2000, 3) := by decide +kernel
theorem dX16_feed_10 : decode cX16_feed 10 = .ok (.if_icmp .le 5, 3) := by decide +kernel
theorem dX16_feed_13 : decode cX16_feed 13 = .ok (.iconst (-1), 1) := by decide +kernel
theorem dX16_feed_14 : decode cX16_feed 14 = .ok (.ireturn, 1) := by decide +kernel
theorem dX16_feed_15 : decode cX16_feed 15 = .ok (.aload_n 0, 1) := by decide +kernel
theorem dX16_feed_16 : decode cX16_feed 16 = .ok (.iload_n 1, 1) := by decide +kernel
theorem dX16_feed_17 : decode cX16_feed 17 = .ok (.invokevirtual 147, 3) := by decide +kernel
theorem dX16_feed_20 : decode cX16_feed 20 = .ok (.aload_n 0, 1) := by decide +kernel
theorem dX16_feed_21 : decode cX16_feed 21 = .ok (.iload_n 2, 1) := by decide +kernel
theorem dX16_feed_22 : decode cX16_feed 22 = .ok (.invokevirtual 147, 3) := by decide +kernel
theorem dX16_feed_25 : decode cX16_feed 25 = .ok (.aload_n 0, 1) := by decide +kernel
theorem dX16_feed_26 : decode cX16_feed 26 = .ok (.iload_n 3, 1) := by decide +kernel
theorem dX16_feed_27 : decode cX16_feed 27 = .ok (.invokevirtual 147, 3) := by decide +kernel
theorem dX16_feed_30 : decode cX16_feed 30 = .ok (.aload_n 0, 1) := by decide +kernel
theorem dX16_feed_31 : decode cX16_feed 31 = .ok (.iload 4, 2) := by decide +kernel
theorem dX16_feed_33 : decode cX16_feed 33 = .ok (.invokevirtual 147, 3) := by decide +kernel
theorem dX16_feed_36 : decode cX16_feed 36 = .ok (.aload_n 0, 1) := by decide +kernel
theorem dX16_feed_37 : decode cX16_feed 37 = .ok (.iload 5, 2) := by decide +kernel
theorem dX16_feed_39 : decode cX16_feed 39 = .ok (.invokevirtual 147, 3) := by decide +kernel
theorem dX16_feed_42 : decode cX16_feed 42 = .ok (.aload_n 0, 1) := by decide +kernel
theorem dX16_feed_43 : decode cX16_feed 43 = .ok (.getfield 144, 3) := by decide +kernel
theorem dX16_feed_46 : decode cX16_feed 46 = .ok (.ireturn, 1) := by decide +kernel
theorem dX16_feedOne_0 : decode cX16_feedOne 0 = .ok (.bipush 24, 2) := by decide +kernel
theorem dX16_feedOne_2 : decode cX16_feedOne 2 = .ok (.istore_n 2, 1) := by decide +kernel
theorem dX16_feedOne_3 : decode cX16_feedOne 3 = .ok (.iload_n 2, 1) := by decide +kernel
theorem dX16_feedOne_4 : decode cX16_feedOne 4 = .ok (.ifCond .lt 35, 3) := by decide +kernel
theorem dX16_feedOne_7 : decode cX16_feedOne 7 = .ok (.aload_n 0, 1) := by decide +kernel
theorem dX16_feedOne_8 : decode cX16_feedOne 8 = .ok (.getfield 9, 3) := by decide +kernel
theorem dX16_feedOne_11 : decode cX16_feedOne 11 = .ok (.aload_n 0, 1) := by decide +kernel
theorem dX16_feedOne_12 : decode cX16_feedOne 12 = .ok (.getfield 144, 3) := by decide +kernel
theorem dX16_feedOne_15 : decode cX16_feedOne 15 = .ok (.iload_n 1, 1) := by decide +kernel
theorem dX16_feedOne_16 : decode cX16_feedOne 16 = .ok (.iload_n 2, 1) := by decide +kernel
theorem dX16_feedOne_17 : decode cX16_feedOne 17 = .ok (.ishr, 1) := by decide +kernel
theorem dX16_feedOne_18 : decode cX16_feedOne 18 = .ok (.sipush 255, 3) := by decide +kernel
theorem dX16_feedOne_21 : decode cX16_feedOne 21 = .ok (.iand, 1) := by decide +kernel
theorem dX16_feedOne_22 : decode cX16_feedOne 22 = .ok (.iastore, 1) := by decide +kernel
theorem dX16_feedOne_23 : decode cX16_feedOne 23 = .ok (.aload_n 0, 1) := by decide +kernel
theorem dX16_feedOne_24 : decode cX16_feedOne 24 = .ok (.dup, 1) := by decide +kernel
theorem dX16_feedOne_25 : decode cX16_feedOne 25 = .ok (.getfield 144, 3) := by decide +kernel
theorem dX16_feedOne_28 : decode cX16_feedOne 28 = .ok (.iconst 1, 1) := by decide +kernel
theorem dX16_feedOne_29 : decode cX16_feedOne 29 = .ok (.iadd, 1) := by decide +kernel
theorem dX16_feedOne_30 : decode cX16_feedOne 30 = .ok (.putfield 144, 3) := by decide +kernel
theorem dX16_feedOne_33 : decode cX16_feedOne 33 = .ok (.iinc 2 (-8), 3) := by decide +kernel
theorem dX16_feedOne_36 : decode cX16_feedOne 36 = .ok (.goto (-33), 3) := by decide +kernel
theorem dX16_feedOne_39 : decode cX16_feedOne 39 = .ok (.return_, 1) := by decide +kernel
theorem dX16_end_0 : decode cX16_end 0 = .ok (.iload_n 1, 1) := by decide +kernel
theorem dX16_end_1 : decode cX16_end 1 = .ok (.ifCond .lt 11, 3) := by decide +kernel
theorem dX16_end_4 : decode cX16_end 4 = .ok (.iload_n 1, 1) := by decide +kernel
theorem dX16_end_5 : decode cX16_end 5 = .ok (.aload_n 0, 1) := by decide +kernel
theorem dX16_end_6 : decode cX16_end 6 = .ok (.getfield 144, 3) := by decide +kernel
theorem dX16_end_9 : decode cX16_end 9 = .ok (.if_icmp .le 5, 3) := by decide +kernel
theorem dX16_end_12 : decode cX16_end 12 = .ok (.iconst (-1), 1) := by decide +kernel
theorem dX16_end_13 : decode cX16_end 13 = .ok (.ireturn, 1) := by decide +kernel
theorem dX16_end_14 : decode cX16_end 14 = .ok (.aload_n 0, 1) := by decide +kernel
theorem dX16_end_15 : decode cX16_end 15 = .ok (.iload_n 1, 1) := by decide +kernel
theorem dX16_end_16 : decode cX16_end 16 = .ok (.putfield 144, 3) := by decide +kernel
theorem dX16_end_19 : decode cX16_end 19 = .ok (.iload_n 1, 1) := by decide +kernel
theorem dX16_end_20 : decode cX16_end 20 = .ok (.ireturn, 1) := by decide +kernel
theorem dX16_packet_0 : decode cX16_packet 0 = .ok (.aload_n 0, 1) := by decide +kernel
theorem dX16_packet_1 : decode cX16_packet 1 = .ok (.getfield 144, 3) := by decide +kernel
theorem dX16_packet_4 : decode cX16_packet 4 = .ok (.istore_n 1, 1) := by decide +kernel
theorem dX16_packet_5 : decode cX16_packet 5 = .ok (.aload_n 0, 1) := by decide +kernel
theorem dX16_packet_6 : decode cX16_packet 6 = .ok (.iconst 0, 1) := by decide +kernel
theorem dX16_packet_7 : decode cX16_packet 7 = .ok (.putfield 144, 3) := by decide +kernel
theorem dX16_packet_10 : decode cX16_packet 10 = .ok (.aload_n 0, 1) := by decide +kernel
theorem dX16_packet_11 : decode cX16_packet 11 = .ok (.getfield 151, 3) := by decide +kernel
theorem dX16_packet_14 : decode cX16_packet 14 = .ok (.bipush 16, 2) := by decide +kernel
theorem dX16_packet_16 : decode cX16_packet 16 = .ok (.if_icmp .ne 5, 3) := by decide +kernel
theorem dX16_packet_19 : decode cX16_packet 19 = .ok (.iconst (-1), 1) := by decide +kernel
theorem dX16_packet_20 : decode cX16_packet 20 = .ok (.ireturn, 1) := by decide +kernel
theorem dX16_packet_21 : decode cX16_packet 21 = .ok (.iload_n 1, 1) := by decide +kernel
theorem dX16_packet_22 : decode cX16_packet 22 = .ok (.sipush 256, 3) := by decide +kernel
theorem dX16_packet_25 : decode cX16_packet 25 = .ok (.if_icmp .le 6, 3) := by decide +kernel
theorem dX16_packet_28 : decode cX16_packet 28 = .ok (.bipush (-2), 2) := by decide +kernel
theorem dX16_packet_30 : decode cX16_packet 30 = .ok (.ireturn, 1) := by decide +kernel
theorem dX16_packet_31 : decode cX16_packet 31 = .ok (.iconst 0, 1) := by decide +kernel
theorem dX16_packet_32 : decode cX16_packet 32 = .ok (.istore_n 2, 1) := by decide +kernel
theorem dX16_packet_33 : decode cX16_packet 33 = .ok (.iload_n 2, 1) := by decide +kernel
theorem dX16_packet_34 : decode cX16_packet 34 = .ok (.iload_n 1, 1) := by decide +kernel
theorem dX16_packet_35 : decode cX16_packet 35 = .ok (.if_icmp .ge 30, 3) := by decide +kernel
theorem dX16_packet_38 : decode cX16_packet 38 = .ok (.aload_n 0, 1) := by decide +kernel
theorem dX16_packet_39 : decode cX16_packet 39 = .ok (.getfield 13, 3) := by decide +kernel
theorem dX16_packet_42 : decode cX16_packet 42 = .ok (.sipush 256, 3) := by decide +kernel
theorem dX16_packet_45 : decode cX16_packet 45 = .ok (.aload_n 0, 1) := by decide +kernel
theorem dX16_packet_46 : decode cX16_packet 46 = .ok (.getfield 151, 3) := by decide +kernel
theorem dX16_packet_49 : decode cX16_packet 49 = .ok (.imul, 1) := by decide +kernel
theorem dX16_packet_50 : decode cX16_packet 50 = .ok (.iload_n 2, 1) := by decide +kernel
theorem dX16_packet_51 : decode cX16_packet 51 = .ok (.iadd, 1) := by decide +kernel
theorem dX16_packet_52 : decode cX16_packet 52 = .ok (.aload_n 0, 1) := by decide +kernel
theorem dX16_packet_53 : decode cX16_packet 53 = .ok (.getfield 9, 3) := by decide +kernel
theorem dX16_packet_56 : decode cX16_packet 56 = .ok (.iload_n 2, 1) := by decide +kernel
theorem dX16_packet_57 : decode cX16_packet 57 = .ok (.iaload, 1) := by decide +kernel
theorem dX16_packet_58 : decode cX16_packet 58 = .ok (.iastore, 1) := by decide +kernel
theorem dX16_packet_59 : decode cX16_packet 59 = .ok (.iinc 2 1, 3) := by decide +kernel
theorem dX16_packet_62 : decode cX16_packet 62 = .ok (.goto (-29), 3) := by decide +kernel
theorem dX16_packet_65 : decode cX16_packet 65 = .ok (.aload_n 0, 1) := by decide +kernel
theorem dX16_packet_66 : decode cX16_packet 66 = .ok (.getfield 16, 3) := by decide +kernel
theorem dX16_packet_69 : decode cX16_packet 69 = .ok (.aload_n 0, 1) := by decide +kernel
theorem dX16_packet_70 : decode cX16_packet 70 = .ok (.getfield 151, 3) := by decide +kernel
theorem dX16_packet_73 : decode cX16_packet 73 = .ok (.iload_n 1, 1) := by decide +kernel
theorem dX16_packet_74 : decode cX16_packet 74 = .ok (.iastore, 1) := by decide +kernel
theorem dX16_packet_75 : decode cX16_packet 75 = .ok (.aload_n 0, 1) := by decide +kernel
theorem dX16_packet_76 : decode cX16_packet 76 = .ok (.dup, 1) := by decide +kernel
theorem dX16_packet_77 : decode cX16_packet 77 = .ok (.getfield 151, 3) := by decide +kernel
theorem dX16_packet_80 : decode cX16_packet 80 = .ok (.iconst 1, 1) := by decide +kernel
theorem dX16_packet_81 : decode cX16_packet 81 = .ok (.iadd, 1) := by decide +kernel
theorem dX16_packet_82 : decode cX16_packet 82 = .ok (.putfield 151, 3) := by decide +kernel
theorem dX16_packet_85 : decode cX16_packet 85 = .ok (.aload_n 0, 1) := by decide +kernel
theorem dX16_packet_86 : decode cX16_packet 86 = .ok (.getfield 151, 3) := by decide +kernel
theorem dX16_packet_89 : decode cX16_packet 89 = .ok (.iconst 1, 1) := by decide +kernel
theorem dX16_packet_90 : decode cX16_packet 90 = .ok (.isub, 1) := by decide +kernel
theorem dX16_packet_91 : decode cX16_packet 91 = .ok (.ireturn, 1) := by decide +kernel
theorem dX16_isPacket_0 : decode cX16_isPacket 0 = .ok (.iload_n 1, 1) := by decide +kernel
theorem dX16_isPacket_1 : decode cX16_isPacket 1 = .ok (.ifCond .lt 15, 3) := by decide +kernel
theorem dX16_isPacket_4 : decode cX16_isPacket 4 = .ok (.iload_n 1, 1) := by decide +kernel
theorem dX16_isPacket_5 : decode cX16_isPacket 5 = .ok (.aload_n 0, 1) := by decide +kernel
theorem dX16_isPacket_6 : decode cX16_isPacket 6 = .ok (.getfield 151, 3) := by decide +kernel
theorem dX16_isPacket_9 : decode cX16_isPacket 9 = .ok (.if_icmp .ge 7, 3) := by decide +kernel
theorem dX16_isPacket_12 : decode cX16_isPacket 12 = .ok (.iconst 1, 1) := by decide +kernel
theorem dX16_isPacket_13 : decode cX16_isPacket 13 = .ok (.goto 4, 3) := by decide +kernel
theorem dX16_isPacket_16 : decode cX16_isPacket 16 = .ok (.iconst 0, 1) := by decide +kernel
theorem dX16_isPacket_17 : decode cX16_isPacket 17 = .ok (.ireturn, 1) := by decide +kernel
theorem dX16_bytes_0 : decode cX16_bytes 0 = .ok (.aload_n 0, 1) := by decide +kernel
theorem dX16_bytes_1 : decode cX16_bytes 1 = .ok (.iload_n 1, 1) := by decide +kernel
theorem dX16_bytes_2 : decode cX16_bytes 2 = .ok (.invokevirtual 154, 3) := by decide +kernel
theorem dX16_bytes_5 : decode cX16_bytes 5 = .ok (.ifCond .eq 17, 3) := by decide +kernel
theorem dX16_bytes_8 : decode cX16_bytes 8 = .ok (.iload_n 2, 1) := by decide +kernel
theorem dX16_bytes_9 : decode cX16_bytes 9 = .ok (.ifCond .lt 13, 3) := by decide +kernel
theorem dX16_bytes_12 : decode cX16_bytes 12 = .ok (.iload_n 2, 1) := by decide +kernel
theorem dX16_bytes_13 : decode cX16_bytes 13 = .ok (.aload_n 0, 1) := by decide +kernel
theorem dX16_bytes_14 : decode cX16_bytes 14 = .ok (.getfield 16, 3) := by decide +kernel
theorem dX16_bytes_17 : decode cX16_bytes 17 = .ok (.iload_n 1, 1) := by decide +kernel
theorem dX16_bytes_18 : decode cX16_bytes 18 = .ok (.iaload, 1) := by decide +kernel
theorem dX16_bytes_19 : decode cX16_bytes 19 = .ok (.if_icmp .lt 7, 3) := by decide +kernel
theorem dX16_bytes_22 : decode cX16_bytes 22 = .ok (.ldc2_w 158, 3) := by decide +kernel
theorem dX16_bytes_25 : decode cX16_bytes 25 = .ok (.lreturn, 1) := by decide +kernel
theorem dX16_bytes_26 : decode cX16_bytes 26 = .ok (.lconst 0, 1) := by decide +kernel
theorem dX16_bytes_27 : decode cX16_bytes 27 = .ok (.lstore_n 3, 1) := by decide +kernel
theorem dX16_bytes_28 : decode cX16_bytes 28 = .ok (.iload_n 2, 1) := by decide +kernel
theorem dX16_bytes_29 : decode cX16_bytes 29 = .ok (.istore 5, 2) := by decide +kernel
theorem dX16_bytes_31 : decode cX16_bytes 31 = .ok (.iload 5, 2) := by decide +kernel
theorem dX16_bytes_33 : decode cX16_bytes 33 = .ok (.iload_n 2, 1) := by decide +kernel
theorem dX16_bytes_34 : decode cX16_bytes 34 = .ok (.bipush 8, 2) := by decide +kernel
theorem dX16_bytes_36 : decode cX16_bytes 36 = .ok (.iadd, 1) := by decide +kernel
theorem dX16_bytes_37 : decode cX16_bytes 37 = .ok (.if_icmp .ge 44, 3) := by decide +kernel
theorem dX16_bytes_40 : decode cX16_bytes 40 = .ok (.lload_n 3, 1) := by decide +kernel
theorem dX16_bytes_41 : decode cX16_bytes 41 = .ok (.bipush 8, 2) := by decide +kernel
theorem dX16_bytes_43 : decode cX16_bytes 43 = .ok (.lshl, 1) := by decide +kernel
theorem dX16_bytes_44 : decode cX16_bytes 44 = .ok (.iload 5, 2) := by decide +kernel
theorem dX16_bytes_46 : decode cX16_bytes 46 = .ok (.aload_n 0, 1) := by decide +kernel
theorem dX16_bytes_47 : decode cX16_bytes 47 = .ok (.getfield 16, 3) := by decide +kernel
theorem dX16_bytes_50 : decode cX16_bytes 50 = .ok (.iload_n 1, 1) := by decide +kernel
theorem dX16_bytes_51 : decode cX16_bytes 51 = .ok (.iaload, 1) := by decide +kernel
theorem dX16_bytes_52 : decode cX16_bytes 52 = .ok (.if_icmp .ge 19, 3) := by decide +kernel
theorem dX16_bytes_55 : decode cX16_bytes 55 = .ok (.aload_n 0, 1) := by decide +kernel
theorem dX16_bytes_56 : decode cX16_bytes 56 = .ok (.getfield 13, 3) := by decide +kernel
theorem dX16_bytes_59 : decode cX16_bytes 59 = .ok (.sipush 256, 3) := by decide +kernel
theorem dX16_bytes_62 : decode cX16_bytes 62 = .ok (.iload_n 1, 1) := by decide +kernel
theorem dX16_bytes_63 : decode cX16_bytes 63 = .ok (.imul, 1) := by decide +kernel
theorem dX16_bytes_64 : decode cX16_bytes 64 = .ok (.iload 5, 2) := by decide +kernel
theorem dX16_bytes_66 : decode cX16_bytes 66 = .ok (.iadd, 1) := by decide +kernel
theorem dX16_bytes_67 : decode cX16_bytes 67 = .ok (.iaload, 1) := by decide +kernel
theorem dX16_bytes_68 : decode cX16_bytes 68 = .ok (.goto 4, 3) := by decide +kernel
theorem dX16_bytes_71 : decode cX16_bytes 71 = .ok (.iconst 0, 1) := by decide +kernel
theorem dX16_bytes_72 : decode cX16_bytes 72 = .ok (.i2l, 1) := by decide +kernel
theorem dX16_bytes_73 : decode cX16_bytes 73 = .ok (.lor, 1) := by decide +kernel
theorem dX16_bytes_74 : decode cX16_bytes 74 = .ok (.lstore_n 3, 1) := by decide +kernel
theorem dX16_bytes_75 : decode cX16_bytes 75 = .ok (.iinc 5 1, 3) := by decide +kernel
theorem dX16_bytes_78 : decode cX16_bytes 78 = .ok (.goto (-47), 3) := by decide +kernel
theorem dX16_bytes_81 : decode cX16_bytes 81 = .ok (.lload_n 3, 1) := by decide +kernel
theorem dX16_bytes_82 : decode cX16_bytes 82 = .ok (.lreturn, 1) := by decide +kernel
theorem dX16_next_0 : decode cX16_next 0 = .ok (.aload_n 0, 1) := by decide +kernel
theorem dX16_next_1 : decode cX16_next 1 = .ok (.getfield 170, 3) := by decide +kernel
theorem dX16_next_4 : decode cX16_next 4 = .ok (.istore_n 1, 1) := by decide +kernel
theorem dX16_next_5 : decode cX16_next 5 = .ok (.iload_n 1, 1) := by decide +kernel
theorem dX16_next_6 : decode cX16_next 6 = .ok (.aload_n 0, 1) := by decide +kernel
theorem dX16_next_7 : decode cX16_next 7 = .ok (.getfield 160, 3) := by decide +kernel
theorem dX16_next_10 : decode cX16_next 10 = .ok (.if_icmp .ge 31, 3) := by decide +kernel
theorem dX16_next_13 : decode cX16_next 13 = .ok (.aload_n 0, 1) := by decide +kernel
theorem dX16_next_14 : decode cX16_next 14 = .ok (.getfield 9, 3) := by decide +kernel
theorem dX16_next_17 : decode cX16_next 17 = .ok (.iload_n 1, 1) := by decide +kernel
theorem dX16_next_18 : decode cX16_next 18 = .ok (.iaload, 1) := by decide +kernel
theorem dX16_next_19 : decode cX16_next 19 = .ok (.bipush 32, 2) := by decide +kernel
theorem dX16_next_21 : decode cX16_next 21 = .ok (.if_icmp .eq 14, 3) := by decide +kernel
theorem dX16_next_24 : decode cX16_next 24 = .ok (.aload_n 0, 1) := by decide +kernel
theorem dX16_next_25 : decode cX16_next 25 = .ok (.getfield 9, 3) := by decide +kernel
theorem dX16_next_28 : decode cX16_next 28 = .ok (.iload_n 1, 1) := by decide +kernel
theorem dX16_next_29 : decode cX16_next 29 = .ok (.iaload, 1) := by decide +kernel
theorem dX16_next_30 : decode cX16_next 30 = .ok (.bipush 10, 2) := by decide +kernel
theorem dX16_next_32 : decode cX16_next 32 = .ok (.if_icmp .ne 9, 3) := by decide +kernel
theorem dX16_next_35 : decode cX16_next 35 = .ok (.iinc 1 1, 3) := by decide +kernel
theorem dX16_next_38 : decode cX16_next 38 = .ok (.goto (-33), 3) := by decide +kernel
theorem dX16_next_41 : decode cX16_next 41 = .ok (.aload_n 0, 1) := by decide +kernel
theorem dX16_next_42 : decode cX16_next 42 = .ok (.iload_n 1, 1) := by decide +kernel
theorem dX16_next_43 : decode cX16_next 43 = .ok (.putfield 173, 3) := by decide +kernel
theorem dX16_next_46 : decode cX16_next 46 = .ok (.iload_n 1, 1) := by decide +kernel
theorem dX16_next_47 : decode cX16_next 47 = .ok (.aload_n 0, 1) := by decide +kernel
theorem dX16_next_48 : decode cX16_next 48 = .ok (.getfield 160, 3) := by decide +kernel
theorem dX16_next_51 : decode cX16_next 51 = .ok (.if_icmp .ne 9, 3) := by decide +kernel
theorem dX16_next_54 : decode cX16_next 54 = .ok (.aload_n 0, 1) := by decide +kernel
theorem dX16_next_55 : decode cX16_next 55 = .ok (.iconst 0, 1) := by decide +kernel
theorem dX16_next_56 : decode cX16_next 56 = .ok (.putfield 176, 3) := by decide +kernel
theorem dX16_next_59 : decode cX16_next 59 = .ok (.return_, 1) := by decide +kernel
theorem dX16_next_60 : decode cX16_next 60 = .ok (.aload_n 0, 1) := by decide +kernel
theorem dX16_next_61 : decode cX16_next 61 = .ok (.iload_n 1, 1) := by decide +kernel
theorem dX16_next_62 : decode cX16_next 62 = .ok (.invokevirtual 179, 3) := by decide +kernel
theorem dX16_next_65 : decode cX16_next 65 = .ok (.ifCond .eq 28, 3) := by decide +kernel
theorem dX16_next_68 : decode cX16_next 68 = .ok (.aload_n 0, 1) := by decide +kernel
theorem dX16_next_69 : decode cX16_next 69 = .ok (.iload_n 1, 1) := by decide +kernel
theorem dX16_next_70 : decode cX16_next 70 = .ok (.invokevirtual 179, 3) := by decide +kernel
theorem dX16_next_73 : decode cX16_next 73 = .ok (.ifCond .eq 9, 3) := by decide +kernel
theorem dX16_next_76 : decode cX16_next 76 = .ok (.iinc 1 1, 3) := by decide +kernel
theorem dX16_next_79 : decode cX16_next 79 = .ok (.goto (-11), 3) := by decide +kernel
theorem dX16_next_82 : decode cX16_next 82 = .ok (.aload_n 0, 1) := by decide +kernel
theorem dX16_next_83 : decode cX16_next 83 = .ok (.iconst 1, 1) := by decide +kernel
theorem dX16_next_84 : decode cX16_next 84 = .ok (.putfield 176, 3) := by decide +kernel
theorem dX16_next_87 : decode cX16_next 87 = .ok (.aload_n 0, 1) := by decide +kernel
theorem dX16_next_88 : decode cX16_next 88 = .ok (.iload_n 1, 1) := by decide +kernel
theorem dX16_next_89 : decode cX16_next 89 = .ok (.putfield 170, 3) := by decide +kernel
theorem dX16_next_92 : decode cX16_next 92 = .ok (.return_, 1) := by decide +kernel
theorem dX16_next_93 : decode cX16_next 93 = .ok (.aload_n 0, 1) := by decide +kernel
theorem dX16_next_94 : decode cX16_next 94 = .ok (.iload_n 1, 1) := by decide +kernel
theorem dX16_next_95 : decode cX16_next 95 = .ok (.invokevirtual 163, 3) := by decide +kernel
theorem dX16_next_98 : decode cX16_next 98 = .ok (.istore_n 2, 1) := by decide +kernel
theorem dX16_next_99 : decode cX16_next 99 = .ok (.aload_n 0, 1) := by decide +kernel
theorem dX16_next_100 : decode cX16_next 100 = .ok (.iload_n 1, 1) := by decide +kernel
theorem dX16_next_101 : decode cX16_next 101 = .ok (.iconst 1, 1) := by decide +kernel
theorem dX16_next_102 : decode cX16_next 102 = .ok (.iadd, 1) := by decide +kernel
theorem dX16_next_103 : decode cX16_next 103 = .ok (.invokevirtual 163, 3) := by decide +kernel
theorem dX16_next_106 : decode cX16_next 106 = .ok (.istore_n 3, 1) := by decide +kernel
theorem dX16_next_107 : decode cX16_next 107 = .ok (.iload_n 2, 1) := by decide +kernel
theorem dX16_next_108 : decode cX16_next 108 = .ok (.bipush 60, 2) := by decide +kernel
theorem dX16_next_110 : decode cX16_next 110 = .ok (.if_icmp .ne 15, 3) := by decide +kernel
theorem dX16_next_113 : decode cX16_next 113 = .ok (.iload_n 3, 1) := by decide +kernel
theorem dX16_next_114 : decode cX16_next 114 = .ok (.bipush 60, 2) := by decide +kernel
theorem dX16_next_116 : decode cX16_next 116 = .ok (.if_icmp .eq 39, 3) := by decide +kernel
theorem dX16_next_119 : decode cX16_next 119 = .ok (.iload_n 3, 1) := by decide +kernel
theorem dX16_next_120 : decode cX16_next 120 = .ok (.bipush 61, 2) := by decide +kernel
theorem dX16_next_122 : decode cX16_next 122 = .ok (.if_icmp .eq 33, 3) := by decide +kernel
theorem dX16_next_125 : decode cX16_next 125 = .ok (.iload_n 2, 1) := by decide +kernel
theorem dX16_next_126 : decode cX16_next 126 = .ok (.bipush 62, 2) := by decide +kernel
theorem dX16_next_128 : decode cX16_next 128 = .ok (.if_icmp .ne 15, 3) := by decide +kernel
theorem dX16_next_131 : decode cX16_next 131 = .ok (.iload_n 3, 1) := by decide +kernel
theorem dX16_next_132 : decode cX16_next 132 = .ok (.bipush 62, 2) := by decide +kernel
theorem dX16_next_134 : decode cX16_next 134 = .ok (.if_icmp .eq 21, 3) := by decide +kernel
theorem dX16_next_137 : decode cX16_next 137 = .ok (.iload_n 3, 1) := by decide +kernel
theorem dX16_next_138 : decode cX16_next 138 = .ok (.bipush 61, 2) := by decide +kernel
theorem dX16_next_140 : decode cX16_next 140 = .ok (.if_icmp .eq 15, 3) := by decide +kernel
theorem dX16_next_143 : decode cX16_next 143 = .ok (.iload_n 2, 1) := by decide +kernel
theorem dX16_next_144 : decode cX16_next 144 = .ok (.bipush 33, 2) := by decide +kernel
theorem dX16_next_146 : decode cX16_next 146 = .ok (.if_icmp .ne 13, 3) := by decide +kernel
theorem dX16_next_149 : decode cX16_next 149 = .ok (.iload_n 3, 1) := by decide +kernel
theorem dX16_next_150 : decode cX16_next 150 = .ok (.bipush 61, 2) := by decide +kernel
theorem dX16_next_152 : decode cX16_next 152 = .ok (.if_icmp .ne 7, 3) := by decide +kernel
theorem dX16_next_155 : decode cX16_next 155 = .ok (.iconst 1, 1) := by decide +kernel
theorem dX16_next_156 : decode cX16_next 156 = .ok (.goto 4, 3) := by decide +kernel
theorem dX16_next_159 : decode cX16_next 159 = .ok (.iconst 0, 1) := by decide +kernel
theorem dX16_next_160 : decode cX16_next 160 = .ok (.istore 4, 2) := by decide +kernel
theorem dX16_next_162 : decode cX16_next 162 = .ok (.iload_n 2, 1) := by decide +kernel
theorem dX16_next_163 : decode cX16_next 163 = .ok (.bipush 40, 2) := by decide +kernel
theorem dX16_next_165 : decode cX16_next 165 = .ok (.if_icmp .eq 105, 3) := by decide +kernel
theorem dX16_next_168 : decode cX16_next 168 = .ok (.iload_n 2, 1) := by decide +kernel
theorem dX16_next_169 : decode cX16_next 169 = .ok (.bipush 41, 2) := by decide +kernel
theorem dX16_next_171 : decode cX16_next 171 = .ok (.if_icmp .eq 99, 3) := by decide +kernel
theorem dX16_next_174 : decode cX16_next 174 = .ok (.iload_n 2, 1) := by decide +kernel
theorem dX16_next_175 : decode cX16_next 175 = .ok (.bipush 123, 2) := by decide +kernel
theorem dX16_next_177 : decode cX16_next 177 = .ok (.if_icmp .eq 93, 3) := by decide +kernel
theorem dX16_next_180 : decode cX16_next 180 = .ok (.iload_n 2, 1) := by decide +kernel
theorem dX16_next_181 : decode cX16_next 181 = .ok (.bipush 125, 2) := by decide +kernel
theorem dX16_next_183 : decode cX16_next 183 = .ok (.if_icmp .eq 87, 3) := by decide +kernel
theorem dX16_next_186 : decode cX16_next 186 = .ok (.iload_n 2, 1) := by decide +kernel
theorem dX16_next_187 : decode cX16_next 187 = .ok (.bipush 91, 2) := by decide +kernel
theorem dX16_next_189 : decode cX16_next 189 = .ok (.if_icmp .eq 81, 3) := by decide +kernel
theorem dX16_next_192 : decode cX16_next 192 = .ok (.iload_n 2, 1) := by decide +kernel
theorem dX16_next_193 : decode cX16_next 193 = .ok (.bipush 93, 2) := by decide +kernel
theorem dX16_next_195 : decode cX16_next 195 = .ok (.if_icmp .eq 75, 3) := by decide +kernel
theorem dX16_next_198 : decode cX16_next 198 = .ok (.iload_n 2, 1) := by decide +kernel
theorem dX16_next_199 : decode cX16_next 199 = .ok (.bipush 58, 2) := by decide +kernel
theorem dX16_next_201 : decode cX16_next 201 = .ok (.if_icmp .eq 69, 3) := by decide +kernel
theorem dX16_next_204 : decode cX16_next 204 = .ok (.iload_n 2, 1) := by decide +kernel
theorem dX16_next_205 : decode cX16_next 205 = .ok (.bipush 47, 2) := by decide +kernel
theorem dX16_next_207 : decode cX16_next 207 = .ok (.if_icmp .eq 63, 3) := by decide +kernel
theorem dX16_next_210 : decode cX16_next 210 = .ok (.iload_n 2, 1) := by decide +kernel
theorem dX16_next_211 : decode cX16_next 211 = .ok (.bipush 45, 2) := by decide +kernel
theorem dX16_next_213 : decode cX16_next 213 = .ok (.if_icmp .eq 57, 3) := by decide +kernel
theorem dX16_next_216 : decode cX16_next 216 = .ok (.iload_n 2, 1) := by decide +kernel
theorem dX16_next_217 : decode cX16_next 217 = .ok (.bipush 43, 2) := by decide +kernel
theorem dX16_next_219 : decode cX16_next 219 = .ok (.if_icmp .eq 51, 3) := by decide +kernel
theorem dX16_next_222 : decode cX16_next 222 = .ok (.iload_n 2, 1) := by decide +kernel
theorem dX16_next_223 : decode cX16_next 223 = .ok (.bipush 42, 2) := by decide +kernel
theorem dX16_next_225 : decode cX16_next 225 = .ok (.if_icmp .eq 45, 3) := by decide +kernel
theorem dX16_next_228 : decode cX16_next 228 = .ok (.iload_n 2, 1) := by decide +kernel
theorem dX16_next_229 : decode cX16_next 229 = .ok (.bipush 37, 2) := by decide +kernel
theorem dX16_next_231 : decode cX16_next 231 = .ok (.if_icmp .eq 39, 3) := by decide +kernel
theorem dX16_next_234 : decode cX16_next 234 = .ok (.iload_n 2, 1) := by decide +kernel
theorem dX16_next_235 : decode cX16_next 235 = .ok (.bipush 38, 2) := by decide +kernel
theorem dX16_next_237 : decode cX16_next 237 = .ok (.if_icmp .eq 33, 3) := by decide +kernel
theorem dX16_next_240 : decode cX16_next 240 = .ok (.iload_n 2, 1) := by decide +kernel
theorem dX16_next_241 : decode cX16_next 241 = .ok (.bipush 124, 2) := by decide +kernel
theorem dX16_next_243 : decode cX16_next 243 = .ok (.if_icmp .eq 27, 3) := by decide +kernel
theorem dX16_next_246 : decode cX16_next 246 = .ok (.iload_n 2, 1) := by decide +kernel
theorem dX16_next_247 : decode cX16_next 247 = .ok (.bipush 94, 2) := by decide +kernel
theorem dX16_next_249 : decode cX16_next 249 = .ok (.if_icmp .eq 21, 3) := by decide +kernel
theorem dX16_next_252 : decode cX16_next 252 = .ok (.iload_n 2, 1) := by decide +kernel
theorem dX16_next_253 : decode cX16_next 253 = .ok (.bipush 61, 2) := by decide +kernel
theorem dX16_next_255 : decode cX16_next 255 = .ok (.if_icmp .eq 15, 3) := by decide +kernel
theorem dX16_next_258 : decode cX16_next 258 = .ok (.iload_n 2, 1) := by decide +kernel
theorem dX16_next_259 : decode cX16_next 259 = .ok (.bipush 60, 2) := by decide +kernel
theorem dX16_next_261 : decode cX16_next 261 = .ok (.if_icmp .eq 9, 3) := by decide +kernel
theorem dX16_next_264 : decode cX16_next 264 = .ok (.iload_n 2, 1) := by decide +kernel
theorem dX16_next_265 : decode cX16_next 265 = .ok (.bipush 62, 2) := by decide +kernel
theorem dX16_next_267 : decode cX16_next 267 = .ok (.if_icmp .ne 7, 3) := by decide +kernel
theorem dX16_next_270 : decode cX16_next 270 = .ok (.iconst 1, 1) := by decide +kernel
theorem dX16_next_271 : decode cX16_next 271 = .ok (.goto 4, 3) := by decide +kernel
theorem dX16_next_274 : decode cX16_next 274 = .ok (.iconst 0, 1) := by decide +kernel
theorem dX16_next_275 : decode cX16_next 275 = .ok (.istore 5, 2) := by decide +kernel
theorem dX16_next_277 : decode cX16_next 277 = .ok (.aload_n 0, 1) := by decide +kernel
theorem dX16_next_278 : decode cX16_next 278 = .ok (.iload 4, 2) := by decide +kernel
theorem dX16_next_280 : decode cX16_next 280 = .ok (.ifCond .ne 8, 3) := by decide +kernel
theorem dX16_next_283 : decode cX16_next 283 = .ok (.iload 5, 2) := by decide +kernel
theorem dX16_next_285 : decode cX16_next 285 = .ok (.ifCond .eq 7, 3) := by decide +kernel
theorem dX16_next_288 : decode cX16_next 288 = .ok (.iconst 1, 1) := by decide +kernel
theorem dX16_next_289 : decode cX16_next 289 = .ok (.goto 4, 3) := by decide +kernel
theorem dX16_next_292 : decode cX16_next 292 = .ok (.iconst 0, 1) := by decide +kernel
theorem dX16_next_293 : decode cX16_next 293 = .ok (.invokevirtual 182, 3) := by decide +kernel
theorem dX16_next_296 : decode cX16_next 296 = .ok (.aload_n 0, 1) := by decide +kernel
theorem dX16_next_297 : decode cX16_next 297 = .ok (.iconst 2, 1) := by decide +kernel
theorem dX16_next_298 : decode cX16_next 298 = .ok (.putfield 176, 3) := by decide +kernel
theorem dX16_next_301 : decode cX16_next 301 = .ok (.aload_n 0, 1) := by decide +kernel
theorem dX16_next_302 : decode cX16_next 302 = .ok (.iload_n 1, 1) := by decide +kernel
theorem dX16_next_303 : decode cX16_next 303 = .ok (.iload 4, 2) := by decide +kernel
theorem dX16_next_305 : decode cX16_next 305 = .ok (.ifCond .eq 7, 3) := by decide +kernel
theorem dX16_next_308 : decode cX16_next 308 = .ok (.iconst 2, 1) := by decide +kernel
theorem dX16_next_309 : decode cX16_next 309 = .ok (.goto 4, 3) := by decide +kernel
theorem dX16_next_312 : decode cX16_next 312 = .ok (.iconst 1, 1) := by decide +kernel
theorem dX16_next_313 : decode cX16_next 313 = .ok (.iadd, 1) := by decide +kernel
theorem dX16_next_314 : decode cX16_next 314 = .ok (.putfield 170, 3) := by decide +kernel
theorem dX16_next_317 : decode cX16_next 317 = .ok (.return_, 1) := by decide +kernel
theorem dX16_must_0 : decode cX16_must 0 = .ok (.iload_n 1, 1) := by decide +kernel
theorem dX16_must_1 : decode cX16_must 1 = .ok (.ifCond .ne 15, 3) := by decide +kernel
theorem dX16_must_4 : decode cX16_must 4 = .ok (.new 186, 3) := by decide +kernel
theorem dX16_must_7 : decode cX16_must 7 = .ok (.dup, 1) := by decide +kernel
theorem dX16_must_8 : decode cX16_must 8 = .ok (.aload_n 0, 1) := by decide +kernel
theorem dX16_must_9 : decode cX16_must 9 = .ok (.getfield 173, 3) := by decide +kernel
theorem dX16_must_12 : decode cX16_must 12 = .ok (.invokespecial 188, 3) := by decide +kernel
theorem dX16_must_15 : decode cX16_must 15 = .ok (.athrow, 1) := by decide +kernel
theorem dX16_must_16 : decode cX16_must 16 = .ok (.return_, 1) := by decide +kernel
theorem dX16_is_0 : decode cX16_is 0 = .ok (.aload_n 0, 1) := by decide +kernel
theorem dX16_is_1 : decode cX16_is 1 = .ok (.getfield 176, 3) := by decide +kernel
theorem dX16_is_4 : decode cX16_is 4 = .ok (.ifCond .eq 23, 3) := by decide +kernel
theorem dX16_is_7 : decode cX16_is 7 = .ok (.aload_n 0, 1) := by decide +kernel
theorem dX16_is_8 : decode cX16_is 8 = .ok (.getfield 170, 3) := by decide +kernel
theorem dX16_is_11 : decode cX16_is 11 = .ok (.aload_n 0, 1) := by decide +kernel
theorem dX16_is_12 : decode cX16_is 12 = .ok (.getfield 173, 3) := by decide +kernel
theorem dX16_is_15 : decode cX16_is 15 = .ok (.isub, 1) := by decide +kernel
theorem dX16_is_16 : decode cX16_is 16 = .ok (.aload_n 1, 1) := by decide +kernel
theorem dX16_is_17 : decode cX16_is 17 = .ok (.invokevirtual 190, 3) := by decide +kernel
theorem dX16_is_20 : decode cX16_is 20 = .ok (.if_icmp .ne 7, 3) := by decide +kernel
theorem dX16_is_23 : decode cX16_is 23 = .ok (.iconst 1, 1) := by decide +kernel
theorem dX16_is_24 : decode cX16_is 24 = .ok (.goto 4, 3) := by decide +kernel
theorem dX16_is_27 : decode cX16_is 27 = .ok (.iconst 0, 1) := by decide +kernel
theorem dX16_is_28 : decode cX16_is 28 = .ok (.istore_n 2, 1) := by decide +kernel
theorem dX16_is_29 : decode cX16_is 29 = .ok (.iconst 0, 1) := by decide +kernel
theorem dX16_is_30 : decode cX16_is 30 = .ok (.istore_n 3, 1) := by decide +kernel
theorem dX16_is_31 : decode cX16_is 31 = .ok (.iload_n 2, 1) := by decide +kernel
theorem dX16_is_32 : decode cX16_is 32 = .ok (.ifCond .eq 42, 3) := by decide +kernel
theorem dX16_is_35 : decode cX16_is 35 = .ok (.iload_n 3, 1) := by decide +kernel
theorem dX16_is_36 : decode cX16_is 36 = .ok (.aload_n 1, 1) := by decide +kernel
theorem dX16_is_37 : decode cX16_is 37 = .ok (.invokevirtual 190, 3) := by decide +kernel
theorem dX16_is_40 : decode cX16_is 40 = .ok (.if_icmp .ge 34, 3) := by decide +kernel
theorem dX16_is_43 : decode cX16_is 43 = .ok (.aload_n 0, 1) := by decide +kernel
theorem dX16_is_44 : decode cX16_is 44 = .ok (.getfield 9, 3) := by decide +kernel
theorem dX16_is_47 : decode cX16_is 47 = .ok (.aload_n 0, 1) := by decide +kernel
theorem dX16_is_48 : decode cX16_is 48 = .ok (.getfield 173, 3) := by decide +kernel
theorem dX16_is_51 : decode cX16_is 51 = .ok (.iload_n 3, 1) := by decide +kernel
theorem dX16_is_52 : decode cX16_is 52 = .ok (.iadd, 1) := by decide +kernel
theorem dX16_is_53 : decode cX16_is 53 = .ok (.iaload, 1) := by decide +kernel
theorem dX16_is_54 : decode cX16_is 54 = .ok (.aload_n 1, 1) := by decide +kernel
theorem dX16_is_55 : decode cX16_is 55 = .ok (.iload_n 3, 1) := by decide +kernel
theorem dX16_is_56 : decode cX16_is 56 = .ok (.invokevirtual 196, 3) := by decide +kernel
theorem dX16_is_59 : decode cX16_is 59 = .ok (.if_icmp .ne 7, 3) := by decide +kernel
theorem dX16_is_62 : decode cX16_is 62 = .ok (.iconst 1, 1) := by decide +kernel
theorem dX16_is_63 : decode cX16_is 63 = .ok (.goto 4, 3) := by decide +kernel
theorem dX16_is_66 : decode cX16_is 66 = .ok (.iconst 0, 1) := by decide +kernel
theorem dX16_is_67 : decode cX16_is 67 = .ok (.istore_n 2, 1) := by decide +kernel
theorem dX16_is_68 : decode cX16_is 68 = .ok (.iinc 3 1, 3) := by decide +kernel
theorem dX16_is_71 : decode cX16_is 71 = .ok (.goto (-40), 3) := by decide +kernel
theorem dX16_is_74 : decode cX16_is 74 = .ok (.iload_n 2, 1) := by decide +kernel
theorem dX16_is_75 : decode cX16_is 75 = .ok (.ireturn, 1) := by decide +kernel
theorem dX16_number_0 : decode cX16_number 0 = .ok (.aload_n 0, 1) := by decide +kernel
theorem dX16_number_1 : decode cX16_number 1 = .ok (.getfield 176, 3) := by decide +kernel
theorem dX16_number_4 : decode cX16_number 4 = .ok (.iconst 1, 1) := by decide +kernel
theorem dX16_number_5 : decode cX16_number 5 = .ok (.if_icmp .eq 7, 3) := by decide +kernel
theorem dX16_number_8 : decode cX16_number 8 = .ok (.ldc2_w 158, 3) := by decide +kernel
theorem dX16_number_11 : decode cX16_number 11 = .ok (.lreturn, 1) := by decide +kernel
theorem dX16_number_12 : decode cX16_number 12 = .ok (.aload_n 0, 1) := by decide +kernel
theorem dX16_number_13 : decode cX16_number 13 = .ok (.getfield 170, 3) := by decide +kernel
theorem dX16_number_16 : decode cX16_number 16 = .ok (.aload_n 0, 1) := by decide +kernel
theorem dX16_number_17 : decode cX16_number 17 = .ok (.getfield 173, 3) := by decide +kernel
theorem dX16_number_20 : decode cX16_number 20 = .ok (.isub, 1) := by decide +kernel
theorem dX16_number_21 : decode cX16_number 21 = .ok (.iconst 2, 1) := by decide +kernel
theorem dX16_number_22 : decode cX16_number 22 = .ok (.if_icmp .le 35, 3) := by decide +kernel
theorem dX16_number_25 : decode cX16_number 25 = .ok (.aload_n 0, 1) := by decide +kernel
theorem dX16_number_26 : decode cX16_number 26 = .ok (.aload_n 0, 1) := by decide +kernel
theorem dX16_number_27 : decode cX16_number 27 = .ok (.getfield 173, 3) := by decide +kernel
theorem dX16_number_30 : decode cX16_number 30 = .ok (.invokevirtual 163, 3) := by decide +kernel
theorem dX16_number_33 : decode cX16_number 33 = .ok (.bipush 48, 2) := by decide +kernel
theorem dX16_number_35 : decode cX16_number 35 = .ok (.if_icmp .ne 22, 3) := by decide +kernel
theorem dX16_number_38 : decode cX16_number 38 = .ok (.aload_n 0, 1) := by decide +kernel
theorem dX16_number_39 : decode cX16_number 39 = .ok (.aload_n 0, 1) := by decide +kernel
theorem dX16_number_40 : decode cX16_number 40 = .ok (.getfield 173, 3) := by decide +kernel
theorem dX16_number_43 : decode cX16_number 43 = .ok (.iconst 1, 1) := by decide +kernel
theorem dX16_number_44 : decode cX16_number 44 = .ok (.iadd, 1) := by decide +kernel
theorem dX16_number_45 : decode cX16_number 45 = .ok (.invokevirtual 163, 3) := by decide +kernel
theorem dX16_number_48 : decode cX16_number 48 = .ok (.bipush 120, 2) := by decide +kernel
theorem dX16_number_50 : decode cX16_number 50 = .ok (.if_icmp .ne 7, 3) := by decide +kernel
theorem dX16_number_53 : decode cX16_number 53 = .ok (.iconst 1, 1) := by decide +kernel
theorem dX16_number_54 : decode cX16_number 54 = .ok (.goto 4, 3) := by decide +kernel
theorem dX16_number_57 : decode cX16_number 57 = .ok (.iconst 0, 1) := by decide +kernel
theorem dX16_number_58 : decode cX16_number 58 = .ok (.istore_n 1, 1) := by decide +kernel
theorem dX16_number_59 : decode cX16_number 59 = .ok (.iload_n 1, 1) := by decide +kernel
theorem dX16_number_60 : decode cX16_number 60 = .ok (.ifCond .eq 12, 3) := by decide +kernel
theorem dX16_number_63 : decode cX16_number 63 = .ok (.aload_n 0, 1) := by decide +kernel
theorem dX16_number_64 : decode cX16_number 64 = .ok (.getfield 173, 3) := by decide +kernel
theorem dX16_number_67 : decode cX16_number 67 = .ok (.iconst 2, 1) := by decide +kernel
theorem dX16_number_68 : decode cX16_number 68 = .ok (.iadd, 1) := by decide +kernel
theorem dX16_number_69 : decode cX16_number 69 = .ok (.goto 7, 3) := by decide +kernel
theorem dX16_number_72 : decode cX16_number 72 = .ok (.aload_n 0, 1) := by decide +kernel
theorem dX16_number_73 : decode cX16_number 73 = .ok (.getfield 173, 3) := by decide +kernel
theorem dX16_number_76 : decode cX16_number 76 = .ok (.istore_n 2, 1) := by decide +kernel
theorem dX16_number_77 : decode cX16_number 77 = .ok (.iload_n 1, 1) := by decide +kernel
theorem dX16_number_78 : decode cX16_number 78 = .ok (.ifCond .eq 18, 3) := by decide +kernel
theorem dX16_number_81 : decode cX16_number 81 = .ok (.aload_n 0, 1) := by decide +kernel
theorem dX16_number_82 : decode cX16_number 82 = .ok (.getfield 170, 3) := by decide +kernel
theorem dX16_number_85 : decode cX16_number 85 = .ok (.iload_n 2, 1) := by decide +kernel
theorem dX16_number_86 : decode cX16_number 86 = .ok (.isub, 1) := by decide +kernel
theorem dX16_number_87 : decode cX16_number 87 = .ok (.bipush 8, 2) := by decide +kernel
theorem dX16_number_89 : decode cX16_number 89 = .ok (.if_icmp .le 7, 3) := by decide +kernel
theorem dX16_number_92 : decode cX16_number 92 = .ok (.ldc2_w 158, 3) := by decide +kernel
theorem dX16_number_95 : decode cX16_number 95 = .ok (.lreturn, 1) := by decide +kernel
theorem dX16_number_96 : decode cX16_number 96 = .ok (.lconst 0, 1) := by decide +kernel
theorem dX16_number_97 : decode cX16_number 97 = .ok (.lstore_n 3, 1) := by decide +kernel
theorem dX16_number_98 : decode cX16_number 98 = .ok (.iload_n 2, 1) := by decide +kernel
theorem dX16_number_99 : decode cX16_number 99 = .ok (.istore 5, 2) := by decide +kernel
theorem dX16_number_101 : decode cX16_number 101 = .ok (.iload 5, 2) := by decide +kernel
theorem dX16_number_103 : decode cX16_number 103 = .ok (.aload_n 0, 1) := by decide +kernel
theorem dX16_number_104 : decode cX16_number 104 = .ok (.getfield 170, 3) := by decide +kernel
theorem dX16_number_107 : decode cX16_number 107 = .ok (.if_icmp .ge 101, 3) := by decide +kernel
theorem dX16_number_110 : decode cX16_number 110 = .ok (.aload_n 0, 1) := by decide +kernel
theorem dX16_number_111 : decode cX16_number 111 = .ok (.getfield 9, 3) := by decide +kernel
theorem dX16_number_114 : decode cX16_number 114 = .ok (.iload 5, 2) := by decide +kernel
theorem dX16_number_116 : decode cX16_number 116 = .ok (.iaload, 1) := by decide +kernel
theorem dX16_number_117 : decode cX16_number 117 = .ok (.istore 6, 2) := by decide +kernel
theorem dX16_number_119 : decode cX16_number 119 = .ok (.iload 6, 2) := by decide +kernel
theorem dX16_number_121 : decode cX16_number 121 = .ok (.invokestatic 167, 3) := by decide +kernel
theorem dX16_number_124 : decode cX16_number 124 = .ok (.ifCond .eq 11, 3) := by decide +kernel
theorem dX16_number_127 : decode cX16_number 127 = .ok (.iload 6, 2) := by decide +kernel
theorem dX16_number_129 : decode cX16_number 129 = .ok (.bipush 48, 2) := by decide +kernel
theorem dX16_number_131 : decode cX16_number 131 = .ok (.isub, 1) := by decide +kernel
theorem dX16_number_132 : decode cX16_number 132 = .ok (.goto 33, 3) := by decide +kernel
theorem dX16_number_135 : decode cX16_number 135 = .ok (.iload_n 1, 1) := by decide +kernel
theorem dX16_number_136 : decode cX16_number 136 = .ok (.ifCond .eq 28, 3) := by decide +kernel
theorem dX16_number_139 : decode cX16_number 139 = .ok (.iload 6, 2) := by decide +kernel
theorem dX16_number_141 : decode cX16_number 141 = .ok (.bipush 97, 2) := by decide +kernel
theorem dX16_number_143 : decode cX16_number 143 = .ok (.if_icmp .lt 21, 3) := by decide +kernel
theorem dX16_number_146 : decode cX16_number 146 = .ok (.iload 6, 2) := by decide +kernel
theorem dX16_number_148 : decode cX16_number 148 = .ok (.bipush 102, 2) := by decide +kernel
theorem dX16_number_150 : decode cX16_number 150 = .ok (.if_icmp .gt 14, 3) := by decide +kernel
theorem dX16_number_153 : decode cX16_number 153 = .ok (.iload 6, 2) := by decide +kernel
theorem dX16_number_155 : decode cX16_number 155 = .ok (.bipush 97, 2) := by decide +kernel
theorem dX16_number_157 : decode cX16_number 157 = .ok (.isub, 1) := by decide +kernel
theorem dX16_number_158 : decode cX16_number 158 = .ok (.bipush 10, 2) := by decide +kernel
theorem dX16_number_160 : decode cX16_number 160 = .ok (.iadd, 1) := by decide +kernel
theorem dX16_number_161 : decode cX16_number 161 = .ok (.goto 4, 3) := by decide +kernel
theorem dX16_number_164 : decode cX16_number 164 = .ok (.iconst (-1), 1) := by decide +kernel
theorem dX16_number_165 : decode cX16_number 165 = .ok (.istore 7, 2) := by decide +kernel
theorem dX16_number_167 : decode cX16_number 167 = .ok (.iload 7, 2) := by decide +kernel
theorem dX16_number_169 : decode cX16_number 169 = .ok (.ifCond .ge 7, 3) := by decide +kernel
theorem dX16_number_172 : decode cX16_number 172 = .ok (.ldc2_w 158, 3) := by decide +kernel
theorem dX16_number_175 : decode cX16_number 175 = .ok (.lreturn, 1) := by decide +kernel
theorem dX16_number_176 : decode cX16_number 176 = .ok (.ldc2_w 207, 3) := by decide +kernel
theorem dX16_number_179 : decode cX16_number 179 = .ok (.lload_n 3, 1) := by decide +kernel
theorem dX16_number_180 : decode cX16_number 180 = .ok (.iload_n 1, 1) := by decide +kernel
theorem dX16_number_181 : decode cX16_number 181 = .ok (.ifCond .eq 9, 3) := by decide +kernel
theorem dX16_number_184 : decode cX16_number 184 = .ok (.ldc2_w 209, 3) := by decide +kernel
theorem dX16_number_187 : decode cX16_number 187 = .ok (.goto 6, 3) := by decide +kernel
theorem dX16_number_190 : decode cX16_number 190 = .ok (.ldc2_w 211, 3) := by decide +kernel
theorem dX16_number_193 : decode cX16_number 193 = .ok (.lmul, 1) := by decide +kernel
theorem dX16_number_194 : decode cX16_number 194 = .ok (.iload 7, 2) := by decide +kernel
theorem dX16_number_196 : decode cX16_number 196 = .ok (.i2l, 1) := by decide +kernel
theorem dX16_number_197 : decode cX16_number 197 = .ok (.ladd, 1) := by decide +kernel
theorem dX16_number_198 : decode cX16_number 198 = .ok (.invokestatic 213, 3) := by decide +kernel
theorem dX16_number_201 : decode cX16_number 201 = .ok (.lstore_n 3, 1) := by decide +kernel
theorem dX16_number_202 : decode cX16_number 202 = .ok (.iinc 5 1, 3) := by decide +kernel
theorem dX16_number_205 : decode cX16_number 205 = .ok (.goto (-104), 3) := by decide +kernel
theorem dX16_number_208 : decode cX16_number 208 = .ok (.lload_n 3, 1) := by decide +kernel
theorem dX16_number_209 : decode cX16_number 209 = .ok (.ldc2_w 219, 3) := by decide +kernel
theorem dX16_number_212 : decode cX16_number 212 = .ok (.lcmp, 1) := by decide +kernel
theorem dX16_number_213 : decode cX16_number 213 = .ok (.ifCond .le 9, 3) := by decide +kernel
theorem dX16_number_216 : decode cX16_number 216 = .ok (.ldc2_w 158, 3) := by decide +kernel
theorem dX16_number_219 : decode cX16_number 219 = .ok (.goto 4, 3) := by decide +kernel
theorem dX16_number_222 : decode cX16_number 222 = .ok (.lload_n 3, 1) := by decide +kernel
theorem dX16_number_223 : decode cX16_number 223 = .ok (.lreturn, 1) := by decide +kernel
theorem dX16_wantNumber_0 : decode cX16_wantNumber 0 = .ok (.aload_n 0, 1) := by decide +kernel
theorem dX16_wantNumber_1 : decode cX16_wantNumber 1 = .ok (.invokevirtual 221, 3) := by decide +kernel
theorem dX16_wantNumber_4 : decode cX16_wantNumber 4 = .ok (.lstore 5, 2) := by decide +kernel
theorem dX16_wantNumber_6 : decode cX16_wantNumber 6 = .ok (.aload_n 0, 1) := by decide +kernel
theorem dX16_wantNumber_7 : decode cX16_wantNumber 7 = .ok (.lload 5, 2) := by decide +kernel
theorem dX16_wantNumber_9 : decode cX16_wantNumber 9 = .ok (.lload_n 1, 1) := by decide +kernel
theorem dX16_wantNumber_10 : decode cX16_wantNumber 10 = .ok (.lcmp, 1) := by decide +kernel
theorem dX16_wantNumber_11 : decode cX16_wantNumber 11 = .ok (.ifCond .lt 14, 3) := by decide +kernel
theorem dX16_wantNumber_14 : decode cX16_wantNumber 14 = .ok (.lload 5, 2) := by decide +kernel
theorem dX16_wantNumber_16 : decode cX16_wantNumber 16 = .ok (.lload_n 3, 1) := by decide +kernel
theorem dX16_wantNumber_17 : decode cX16_wantNumber 17 = .ok (.lcmp, 1) := by decide +kernel
theorem dX16_wantNumber_18 : decode cX16_wantNumber 18 = .ok (.ifCond .gt 7, 3) := by decide +kernel
theorem dX16_wantNumber_21 : decode cX16_wantNumber 21 = .ok (.iconst 1, 1) := by decide +kernel
theorem dX16_wantNumber_22 : decode cX16_wantNumber 22 = .ok (.goto 4, 3) := by decide +kernel
theorem dX16_wantNumber_25 : decode cX16_wantNumber 25 = .ok (.iconst 0, 1) := by decide +kernel
theorem dX16_wantNumber_26 : decode cX16_wantNumber 26 = .ok (.invokevirtual 182, 3) := by decide +kernel
theorem dX16_wantNumber_29 : decode cX16_wantNumber 29 = .ok (.aload_n 0, 1) := by decide +kernel
theorem dX16_wantNumber_30 : decode cX16_wantNumber 30 = .ok (.invokevirtual 204, 3) := by decide +kernel
theorem dX16_wantNumber_33 : decode cX16_wantNumber 33 = .ok (.lload 5, 2) := by decide +kernel
theorem dX16_wantNumber_35 : decode cX16_wantNumber 35 = .ok (.lreturn, 1) := by decide +kernel
theorem dX16_readFilter_0 : decode cX16_readFilter 0 = .ok (.aload_n 0, 1) := by decide +kernel
theorem dX16_readFilter_1 : decode cX16_readFilter 1 = .ok (.invokevirtual 317, 3) := by decide +kernel
theorem dX16_readFilter_4 : decode cX16_readFilter 4 = .ok (.astore_n 1, 1) := by decide +kernel
theorem dX16_readFilter_5 : decode cX16_readFilter 5 = .ok (.aload_n 0, 1) := by decide +kernel
theorem dX16_readFilter_6 : decode cX16_readFilter 6 = .ok (.ldc_w 320, 3) := by decide +kernel
theorem dX16_readFilter_9 : decode cX16_readFilter 9 = .ok (.invokevirtual 200, 3) := by decide +kernel
theorem dX16_readFilter_12 : decode cX16_readFilter 12 = .ok (.ifCond .eq 19, 3) := by decide +kernel
theorem dX16_readFilter_15 : decode cX16_readFilter 15 = .ok (.aload_n 0, 1) := by decide +kernel
theorem dX16_readFilter_16 : decode cX16_readFilter 16 = .ok (.invokevirtual 204, 3) := by decide +kernel
theorem dX16_readFilter_19 : decode cX16_readFilter 19 = .ok (.aload_n 1, 1) := by decide +kernel
theorem dX16_readFilter_20 : decode cX16_readFilter 20 = .ok (.aload_n 0, 1) := by decide +kernel
theorem dX16_readFilter_21 : decode cX16_readFilter 21 = .ok (.invokevirtual 317, 3) := by decide +kernel
theorem dX16_readFilter_24 : decode cX16_readFilter 24 = .ok (.invokestatic 280, 3) := by decide +kernel
theorem dX16_readFilter_27 : decode cX16_readFilter 27 = .ok (.astore_n 1, 1) := by decide +kernel
theorem dX16_readFilter_28 : decode cX16_readFilter 28 = .ok (.goto (-23), 3) := by decide +kernel
theorem dX16_readFilter_31 : decode cX16_readFilter 31 = .ok (.aload_n 1, 1) := by decide +kernel
theorem dX16_readFilter_32 : decode cX16_readFilter 32 = .ok (.areturn, 1) := by decide +kernel
theorem dX16_readAll_0 : decode cX16_readAll 0 = .ok (.aload_n 0, 1) := by decide +kernel
theorem dX16_readAll_1 : decode cX16_readAll 1 = .ok (.invokevirtual 321, 3) := by decide +kernel
theorem dX16_readAll_4 : decode cX16_readAll 4 = .ok (.astore_n 1, 1) := by decide +kernel
theorem dX16_readAll_5 : decode cX16_readAll 5 = .ok (.aload_n 0, 1) := by decide +kernel
theorem dX16_readAll_6 : decode cX16_readAll 6 = .ok (.ldc_w 324, 3) := by decide +kernel
theorem dX16_readAll_9 : decode cX16_readAll 9 = .ok (.invokevirtual 200, 3) := by decide +kernel
theorem dX16_readAll_12 : decode cX16_readAll 12 = .ok (.ifCond .eq 19, 3) := by decide +kernel
theorem dX16_readAll_15 : decode cX16_readAll 15 = .ok (.aload_n 0, 1) := by decide +kernel
theorem dX16_readAll_16 : decode cX16_readAll 16 = .ok (.invokevirtual 204, 3) := by decide +kernel
theorem dX16_readAll_19 : decode cX16_readAll 19 = .ok (.aload_n 1, 1) := by decide +kernel
theorem dX16_readAll_20 : decode cX16_readAll 20 = .ok (.aload_n 0, 1) := by decide +kernel
theorem dX16_readAll_21 : decode cX16_readAll 21 = .ok (.invokevirtual 321, 3) := by decide +kernel
theorem dX16_readAll_24 : decode cX16_readAll 24 = .ok (.invokestatic 274, 3) := by decide +kernel
theorem dX16_readAll_27 : decode cX16_readAll 27 = .ok (.astore_n 1, 1) := by decide +kernel
theorem dX16_readAll_28 : decode cX16_readAll 28 = .ok (.goto (-23), 3) := by decide +kernel
theorem dX16_readAll_31 : decode cX16_readAll 31 = .ok (.aload_n 1, 1) := by decide +kernel
theorem dX16_readAll_32 : decode cX16_readAll 32 = .ok (.areturn, 1) := by decide +kernel
theorem dX16_readOne_0 : decode cX16_readOne 0 = .ok (.aload_n 0, 1) := by decide +kernel
theorem dX16_readOne_1 : decode cX16_readOne 1 = .ok (.ldc_w 328, 3) := by decide +kernel
theorem dX16_readOne_4 : decode cX16_readOne 4 = .ok (.invokevirtual 200, 3) := by decide +kernel
theorem dX16_readOne_7 : decode cX16_readOne 7 = .ok (.ifCond .eq 33, 3) := by decide +kernel
theorem dX16_readOne_10 : decode cX16_readOne 10 = .ok (.aload_n 0, 1) := by decide +kernel
theorem dX16_readOne_11 : decode cX16_readOne 11 = .ok (.invokevirtual 330, 3) := by decide +kernel
theorem dX16_readOne_14 : decode cX16_readOne 14 = .ok (.new 22, 3) := by decide +kernel
theorem dX16_readOne_17 : decode cX16_readOne 17 = .ok (.dup, 1) := by decide +kernel
theorem dX16_readOne_18 : decode cX16_readOne 18 = .ok (.iconst 3, 1) := by decide +kernel
theorem dX16_readOne_19 : decode cX16_readOne 19 = .ok (.aload_n 0, 1) := by decide +kernel
theorem dX16_readOne_20 : decode cX16_readOne 20 = .ok (.invokevirtual 321, 3) := by decide +kernel
theorem dX16_readOne_23 : decode cX16_readOne 23 = .ok (.aconst_null, 1) := by decide +kernel
theorem dX16_readOne_24 : decode cX16_readOne 24 = .ok (.invokespecial 240, 3) := by decide +kernel
theorem dX16_readOne_27 : decode cX16_readOne 27 = .ok (.astore_n 1, 1) := by decide +kernel
theorem dX16_readOne_28 : decode cX16_readOne 28 = .ok (.aload_n 0, 1) := by decide +kernel
theorem dX16_readOne_29 : decode cX16_readOne 29 = .ok (.dup, 1) := by decide +kernel
theorem dX16_readOne_30 : decode cX16_readOne 30 = .ok (.getfield 325, 3) := by decide +kernel
theorem dX16_readOne_33 : decode cX16_readOne 33 = .ok (.iconst 1, 1) := by decide +kernel
theorem dX16_readOne_34 : decode cX16_readOne 34 = .ok (.isub, 1) := by decide +kernel
theorem dX16_readOne_35 : decode cX16_readOne 35 = .ok (.putfield 325, 3) := by decide +kernel
theorem dX16_readOne_38 : decode cX16_readOne 38 = .ok (.aload_n 1, 1) := by decide +kernel
theorem dX16_readOne_39 : decode cX16_readOne 39 = .ok (.areturn, 1) := by decide +kernel
theorem dX16_readOne_40 : decode cX16_readOne 40 = .ok (.aload_n 0, 1) := by decide +kernel
theorem dX16_readOne_41 : decode cX16_readOne 41 = .ok (.ldc_w 333, 3) := by decide +kernel
theorem dX16_readOne_44 : decode cX16_readOne 44 = .ok (.invokevirtual 200, 3) := by decide +kernel
theorem dX16_readOne_47 : decode cX16_readOne 47 = .ok (.ifCond .eq 31, 3) := by decide +kernel
theorem dX16_readOne_50 : decode cX16_readOne 50 = .ok (.aload_n 0, 1) := by decide +kernel
theorem dX16_readOne_51 : decode cX16_readOne 51 = .ok (.invokevirtual 330, 3) := by decide +kernel
theorem dX16_readOne_54 : decode cX16_readOne 54 = .ok (.aload_n 0, 1) := by decide +kernel
theorem dX16_readOne_55 : decode cX16_readOne 55 = .ok (.invokevirtual 335, 3) := by decide +kernel
theorem dX16_readOne_58 : decode cX16_readOne 58 = .ok (.astore_n 1, 1) := by decide +kernel
theorem dX16_readOne_59 : decode cX16_readOne 59 = .ok (.aload_n 0, 1) := by decide +kernel
theorem dX16_readOne_60 : decode cX16_readOne 60 = .ok (.ldc_w 338, 3) := by decide +kernel
theorem dX16_readOne_63 : decode cX16_readOne 63 = .ok (.invokevirtual 340, 3) := by decide +kernel
theorem dX16_readOne_66 : decode cX16_readOne 66 = .ok (.aload_n 0, 1) := by decide +kernel
theorem dX16_readOne_67 : decode cX16_readOne 67 = .ok (.dup, 1) := by decide +kernel
theorem dX16_readOne_68 : decode cX16_readOne 68 = .ok (.getfield 325, 3) := by decide +kernel
theorem dX16_readOne_71 : decode cX16_readOne 71 = .ok (.iconst 1, 1) := by decide +kernel
theorem dX16_readOne_72 : decode cX16_readOne 72 = .ok (.isub, 1) := by decide +kernel
theorem dX16_readOne_73 : decode cX16_readOne 73 = .ok (.putfield 325, 3) := by decide +kernel
theorem dX16_readOne_76 : decode cX16_readOne 76 = .ok (.aload_n 1, 1) := by decide +kernel
theorem dX16_readOne_77 : decode cX16_readOne 77 = .ok (.areturn, 1) := by decide +kernel
theorem dX16_readOne_78 : decode cX16_readOne 78 = .ok (.aload_n 0, 1) := by decide +kernel
theorem dX16_readOne_79 : decode cX16_readOne 79 = .ok (.invokevirtual 344, 3) := by decide +kernel
theorem dX16_readOne_82 : decode cX16_readOne 82 = .ok (.istore_n 1, 1) := by decide +kernel
theorem dX16_readOne_83 : decode cX16_readOne 83 = .ok (.iload_n 1, 1) := by decide +kernel
theorem dX16_readOne_84 : decode cX16_readOne 84 = .ok (.ifCond .lt 13, 3) := by decide +kernel
theorem dX16_readOne_87 : decode cX16_readOne 87 = .ok (.aload_n 0, 1) := by decide +kernel
theorem dX16_readOne_88 : decode cX16_readOne 88 = .ok (.invokevirtual 204, 3) := by decide +kernel
theorem dX16_readOne_91 : decode cX16_readOne 91 = .ok (.aload_n 0, 1) := by decide +kernel
theorem dX16_readOne_92 : decode cX16_readOne 92 = .ok (.iload_n 1, 1) := by decide +kernel
theorem dX16_readOne_93 : decode cX16_readOne 93 = .ok (.invokevirtual 347, 3) := by decide +kernel
theorem dX16_readOne_96 : decode cX16_readOne 96 = .ok (.areturn, 1) := by decide +kernel
theorem dX16_readOne_97 : decode cX16_readOne 97 = .ok (.aload_n 0, 1) := by decide +kernel
theorem dX16_readOne_98 : decode cX16_readOne 98 = .ok (.ldc_w 351, 3) := by decide +kernel
theorem dX16_readOne_101 : decode cX16_readOne 101 = .ok (.invokevirtual 200, 3) := by decide +kernel
theorem dX16_readOne_104 : decode cX16_readOne 104 = .ok (.ifCond .ne 13, 3) := by decide +kernel
theorem dX16_readOne_107 : decode cX16_readOne 107 = .ok (.aload_n 0, 1) := by decide +kernel
theorem dX16_readOne_108 : decode cX16_readOne 108 = .ok (.ldc_w 353, 3) := by decide +kernel
theorem dX16_readOne_111 : decode cX16_readOne 111 = .ok (.invokevirtual 200, 3) := by decide +kernel
theorem dX16_readOne_114 : decode cX16_readOne 114 = .ok (.ifCond .eq 56, 3) := by decide +kernel
theorem dX16_readOne_117 : decode cX16_readOne 117 = .ok (.aload_n 0, 1) := by decide +kernel
theorem dX16_readOne_118 : decode cX16_readOne 118 = .ok (.ldc_w 351, 3) := by decide +kernel
theorem dX16_readOne_121 : decode cX16_readOne 121 = .ok (.invokevirtual 200, 3) := by decide +kernel
theorem dX16_readOne_124 : decode cX16_readOne 124 = .ok (.istore_n 2, 1) := by decide +kernel
theorem dX16_readOne_125 : decode cX16_readOne 125 = .ok (.aload_n 0, 1) := by decide +kernel
theorem dX16_readOne_126 : decode cX16_readOne 126 = .ok (.invokevirtual 204, 3) := by decide +kernel
theorem dX16_readOne_129 : decode cX16_readOne 129 = .ok (.new 22, 3) := by decide +kernel
theorem dX16_readOne_132 : decode cX16_readOne 132 = .ok (.dup, 1) := by decide +kernel
theorem dX16_readOne_133 : decode cX16_readOne 133 = .ok (.new 43, 3) := by decide +kernel
theorem dX16_readOne_136 : decode cX16_readOne 136 = .ok (.dup, 1) := by decide +kernel
theorem dX16_readOne_137 : decode cX16_readOne 137 = .ok (.iconst 1, 1) := by decide +kernel
theorem dX16_readOne_138 : decode cX16_readOne 138 = .ok (.lconst 0, 1) := by decide +kernel
theorem dX16_readOne_139 : decode cX16_readOne 139 = .ok (.aconst_null, 1) := by decide +kernel
theorem dX16_readOne_140 : decode cX16_readOne 140 = .ok (.aconst_null, 1) := by decide +kernel
theorem dX16_readOne_141 : decode cX16_readOne 141 = .ok (.iconst 0, 1) := by decide +kernel
theorem dX16_readOne_142 : decode cX16_readOne 142 = .ok (.invokespecial 231, 3) := by decide +kernel
theorem dX16_readOne_145 : decode cX16_readOne 145 = .ok (.iload_n 2, 1) := by decide +kernel
theorem dX16_readOne_146 : decode cX16_readOne 146 = .ok (.ifCond .eq 8, 3) := by decide +kernel
theorem dX16_readOne_149 : decode cX16_readOne 149 = .ok (.bipush 11, 2) := by decide +kernel
theorem dX16_readOne_151 : decode cX16_readOne 151 = .ok (.goto 4, 3) := by decide +kernel
theorem dX16_readOne_154 : decode cX16_readOne 154 = .ok (.iconst 3, 1) := by decide +kernel
theorem dX16_readOne_155 : decode cX16_readOne 155 = .ok (.aload_n 0, 1) := by decide +kernel
theorem dX16_readOne_156 : decode cX16_readOne 156 = .ok (.lconst 0, 1) := by decide +kernel
theorem dX16_readOne_157 : decode cX16_readOne 157 = .ok (.ldc2_w 219, 3) := by decide +kernel
theorem dX16_readOne_160 : decode cX16_readOne 160 = .ok (.invokevirtual 355, 3) := by decide +kernel
theorem dX16_readOne_163 : decode cX16_readOne 163 = .ok (.invokestatic 234, 3) := by decide +kernel
theorem dX16_readOne_166 : decode cX16_readOne 166 = .ok (.invokespecial 243, 3) := by decide +kernel
theorem dX16_readOne_169 : decode cX16_readOne 169 = .ok (.areturn, 1) := by decide +kernel
theorem dX16_readOne_170 : decode cX16_readOne 170 = .ok (.aload_n 0, 1) := by decide +kernel
theorem dX16_readOne_171 : decode cX16_readOne 171 = .ok (.ldc_w 358, 3) := by decide +kernel
theorem dX16_readOne_174 : decode cX16_readOne 174 = .ok (.invokevirtual 200, 3) := by decide +kernel
theorem dX16_readOne_177 : decode cX16_readOne 177 = .ok (.ifCond .eq 7, 3) := by decide +kernel
theorem dX16_readOne_180 : decode cX16_readOne 180 = .ok (.iconst 1, 1) := by decide +kernel
theorem dX16_readOne_181 : decode cX16_readOne 181 = .ok (.goto 18, 3) := by decide +kernel
theorem dX16_readOne_184 : decode cX16_readOne 184 = .ok (.aload_n 0, 1) := by decide +kernel
theorem dX16_readOne_185 : decode cX16_readOne 185 = .ok (.ldc_w 360, 3) := by decide +kernel
theorem dX16_readOne_188 : decode cX16_readOne 188 = .ok (.invokevirtual 200, 3) := by decide +kernel
theorem dX16_readOne_191 : decode cX16_readOne 191 = .ok (.ifCond .eq 7, 3) := by decide +kernel
theorem dX16_readOne_194 : decode cX16_readOne 194 = .ok (.iconst 2, 1) := by decide +kernel
theorem dX16_readOne_195 : decode cX16_readOne 195 = .ok (.goto 4, 3) := by decide +kernel
theorem dX16_readOne_198 : decode cX16_readOne 198 = .ok (.iconst 0, 1) := by decide +kernel
theorem dX16_readOne_199 : decode cX16_readOne 199 = .ok (.istore_n 2, 1) := by decide +kernel
theorem dX16_readOne_200 : decode cX16_readOne 200 = .ok (.iload_n 2, 1) := by decide +kernel
theorem dX16_readOne_201 : decode cX16_readOne 201 = .ok (.ifCond .le 7, 3) := by decide +kernel
theorem dX16_readOne_204 : decode cX16_readOne 204 = .ok (.aload_n 0, 1) := by decide +kernel
theorem dX16_readOne_205 : decode cX16_readOne 205 = .ok (.invokevirtual 204, 3) := by decide +kernel
theorem dX16_readOne_208 : decode cX16_readOne 208 = .ok (.aload_n 0, 1) := by decide +kernel
theorem dX16_readOne_209 : decode cX16_readOne 209 = .ok (.ldc_w 362, 3) := by decide +kernel
theorem dX16_readOne_212 : decode cX16_readOne 212 = .ok (.invokevirtual 200, 3) := by decide +kernel
theorem dX16_readOne_215 : decode cX16_readOne 215 = .ok (.ifCond .ne 33, 3) := by decide +kernel
theorem dX16_readOne_218 : decode cX16_readOne 218 = .ok (.aload_n 0, 1) := by decide +kernel
theorem dX16_readOne_219 : decode cX16_readOne 219 = .ok (.ldc_w 363, 3) := by decide +kernel
theorem dX16_readOne_222 : decode cX16_readOne 222 = .ok (.invokevirtual 200, 3) := by decide +kernel
theorem dX16_readOne_225 : decode cX16_readOne 225 = .ok (.ifCond .ne 23, 3) := by decide +kernel
theorem dX16_readOne_228 : decode cX16_readOne 228 = .ok (.aload_n 0, 1) := by decide +kernel
theorem dX16_readOne_229 : decode cX16_readOne 229 = .ok (.ldc_w 365, 3) := by decide +kernel
theorem dX16_readOne_232 : decode cX16_readOne 232 = .ok (.invokevirtual 200, 3) := by decide +kernel
theorem dX16_readOne_235 : decode cX16_readOne 235 = .ok (.ifCond .ne 13, 3) := by decide +kernel
theorem dX16_readOne_238 : decode cX16_readOne 238 = .ok (.aload_n 0, 1) := by decide +kernel
theorem dX16_readOne_239 : decode cX16_readOne 239 = .ok (.ldc_w 367, 3) := by decide +kernel
theorem dX16_readOne_242 : decode cX16_readOne 242 = .ok (.invokevirtual 200, 3) := by decide +kernel
theorem dX16_readOne_245 : decode cX16_readOne 245 = .ok (.ifCond .eq 9, 3) := by decide +kernel
theorem dX16_readOne_248 : decode cX16_readOne 248 = .ok (.aload_n 0, 1) := by decide +kernel
theorem dX16_readOne_249 : decode cX16_readOne 249 = .ok (.iload_n 2, 1) := by decide +kernel
theorem dX16_readOne_250 : decode cX16_readOne 250 = .ok (.invokevirtual 369, 3) := by decide +kernel
theorem dX16_readOne_253 : decode cX16_readOne 253 = .ok (.areturn, 1) := by decide +kernel
theorem dX16_readOne_254 : decode cX16_readOne 254 = .ok (.aload_n 0, 1) := by decide +kernel
theorem dX16_readOne_255 : decode cX16_readOne 255 = .ok (.iload_n 2, 1) := by decide +kernel
theorem dX16_readOne_256 : decode cX16_readOne 256 = .ok (.ifCond .ne 7, 3) := by decide +kernel
theorem dX16_readOne_259 : decode cX16_readOne 259 = .ok (.iconst 1, 1) := by decide +kernel
theorem dX16_readOne_260 : decode cX16_readOne 260 = .ok (.goto 4, 3) := by decide +kernel
theorem dX16_readOne_263 : decode cX16_readOne 263 = .ok (.iconst 0, 1) := by decide +kernel
theorem dX16_readOne_264 : decode cX16_readOne 264 = .ok (.invokevirtual 182, 3) := by decide +kernel
theorem dX16_readOne_267 : decode cX16_readOne 267 = .ok (.aload_n 0, 1) := by decide +kernel
theorem dX16_readOne_268 : decode cX16_readOne 268 = .ok (.iconst (-1), 1) := by decide +kernel
theorem dX16_readOne_269 : decode cX16_readOne 269 = .ok (.putfield 372, 3) := by decide +kernel
theorem dX16_readOne_272 : decode cX16_readOne 272 = .ok (.aload_n 0, 1) := by decide +kernel
theorem dX16_readOne_273 : decode cX16_readOne 273 = .ok (.invokevirtual 375, 3) := by decide +kernel
theorem dX16_readOne_276 : decode cX16_readOne 276 = .ok (.areturn, 1) := by decide +kernel
theorem dX16_accessOf_0 : decode cX16_accessOf 0 = .ok (.aload_n 0, 1) := by decide +kernel
theorem dX16_accessOf_1 : decode cX16_accessOf 1 = .ok (.ldc_w 378, 3) := by decide +kernel
theorem dX16_accessOf_4 : decode cX16_accessOf 4 = .ok (.invokevirtual 200, 3) := by decide +kernel
theorem dX16_accessOf_7 : decode cX16_accessOf 7 = .ok (.ifCond .eq 7, 3) := by decide +kernel
theorem dX16_accessOf_10 : decode cX16_accessOf 10 = .ok (.iconst 0, 1) := by decide +kernel
theorem dX16_accessOf_11 : decode cX16_accessOf 11 = .ok (.goto 89, 3) := by decide +kernel
theorem dX16_accessOf_14 : decode cX16_accessOf 14 = .ok (.aload_n 0, 1) := by decide +kernel
theorem dX16_accessOf_15 : decode cX16_accessOf 15 = .ok (.ldc_w 379, 3) := by decide +kernel
theorem dX16_accessOf_18 : decode cX16_accessOf 18 = .ok (.invokevirtual 200, 3) := by decide +kernel
theorem dX16_accessOf_21 : decode cX16_accessOf 21 = .ok (.ifCond .eq 7, 3) := by decide +kernel
theorem dX16_accessOf_24 : decode cX16_accessOf 24 = .ok (.iconst 1, 1) := by decide +kernel
theorem dX16_accessOf_25 : decode cX16_accessOf 25 = .ok (.goto 75, 3) := by decide +kernel
theorem dX16_accessOf_28 : decode cX16_accessOf 28 = .ok (.aload_n 0, 1) := by decide +kernel
theorem dX16_accessOf_29 : decode cX16_accessOf 29 = .ok (.ldc_w 381, 3) := by decide +kernel
theorem dX16_accessOf_32 : decode cX16_accessOf 32 = .ok (.invokevirtual 200, 3) := by decide +kernel
theorem dX16_accessOf_35 : decode cX16_accessOf 35 = .ok (.ifCond .eq 7, 3) := by decide +kernel
theorem dX16_accessOf_38 : decode cX16_accessOf 38 = .ok (.iconst 2, 1) := by decide +kernel
theorem dX16_accessOf_39 : decode cX16_accessOf 39 = .ok (.goto 61, 3) := by decide +kernel
theorem dX16_accessOf_42 : decode cX16_accessOf 42 = .ok (.aload_n 0, 1) := by decide +kernel
theorem dX16_accessOf_43 : decode cX16_accessOf 43 = .ok (.ldc_w 383, 3) := by decide +kernel
theorem dX16_accessOf_46 : decode cX16_accessOf 46 = .ok (.invokevirtual 200, 3) := by decide +kernel
theorem dX16_accessOf_49 : decode cX16_accessOf 49 = .ok (.ifCond .eq 7, 3) := by decide +kernel
theorem dX16_accessOf_52 : decode cX16_accessOf 52 = .ok (.iconst 3, 1) := by decide +kernel
theorem dX16_accessOf_53 : decode cX16_accessOf 53 = .ok (.goto 47, 3) := by decide +kernel
theorem dX16_accessOf_56 : decode cX16_accessOf 56 = .ok (.aload_n 0, 1) := by decide +kernel
theorem dX16_accessOf_57 : decode cX16_accessOf 57 = .ok (.ldc_w 385, 3) := by decide +kernel
theorem dX16_accessOf_60 : decode cX16_accessOf 60 = .ok (.invokevirtual 200, 3) := by decide +kernel
theorem dX16_accessOf_63 : decode cX16_accessOf 63 = .ok (.ifCond .eq 7, 3) := by decide +kernel
theorem dX16_accessOf_66 : decode cX16_accessOf 66 = .ok (.iconst 4, 1) := by decide +kernel
theorem dX16_accessOf_67 : decode cX16_accessOf 67 = .ok (.goto 33, 3) := by decide +kernel
theorem dX16_accessOf_70 : decode cX16_accessOf 70 = .ok (.aload_n 0, 1) := by decide +kernel
theorem dX16_accessOf_71 : decode cX16_accessOf 71 = .ok (.ldc_w 387, 3) := by decide +kernel
theorem dX16_accessOf_74 : decode cX16_accessOf 74 = .ok (.invokevirtual 200, 3) := by decide +kernel
theorem dX16_accessOf_77 : decode cX16_accessOf 77 = .ok (.ifCond .eq 7, 3) := by decide +kernel
theorem dX16_accessOf_80 : decode cX16_accessOf 80 = .ok (.iconst 5, 1) := by decide +kernel
theorem dX16_accessOf_81 : decode cX16_accessOf 81 = .ok (.goto 19, 3) := by decide +kernel
theorem dX16_accessOf_84 : decode cX16_accessOf 84 = .ok (.aload_n 0, 1) := by decide +kernel
theorem dX16_accessOf_85 : decode cX16_accessOf 85 = .ok (.ldc_w 389, 3) := by decide +kernel
theorem dX16_accessOf_88 : decode cX16_accessOf 88 = .ok (.invokevirtual 200, 3) := by decide +kernel
theorem dX16_accessOf_91 : decode cX16_accessOf 91 = .ok (.ifCond .eq 8, 3) := by decide +kernel
theorem dX16_accessOf_94 : decode cX16_accessOf 94 = .ok (.bipush 6, 2) := by decide +kernel
theorem dX16_accessOf_96 : decode cX16_accessOf 96 = .ok (.goto 4, 3) := by decide +kernel
theorem dX16_accessOf_99 : decode cX16_accessOf 99 = .ok (.iconst (-1), 1) := by decide +kernel
theorem dX16_accessOf_100 : decode cX16_accessOf 100 = .ok (.ireturn, 1) := by decide +kernel
theorem dX16_readRelation_0 : decode cX16_readRelation 0 = .ok (.aload_n 0, 1) := by decide +kernel
theorem dX16_readRelation_1 : decode cX16_readRelation 1 = .ok (.iconst 0, 1) := by decide +kernel
theorem dX16_readRelation_2 : decode cX16_readRelation 2 = .ok (.putfield 419, 3) := by decide +kernel
theorem dX16_readRelation_5 : decode cX16_readRelation 5 = .ok (.aload_n 0, 1) := by decide +kernel
theorem dX16_readRelation_6 : decode cX16_readRelation 6 = .ok (.invokevirtual 422, 3) := by decide +kernel
theorem dX16_readRelation_9 : decode cX16_readRelation 9 = .ok (.astore_n 1, 1) := by decide +kernel
theorem dX16_readRelation_10 : decode cX16_readRelation 10 = .ok (.aload_n 0, 1) := by decide +kernel
theorem dX16_readRelation_11 : decode cX16_readRelation 11 = .ok (.ldc_w 426, 3) := by decide +kernel
theorem dX16_readRelation_14 : decode cX16_readRelation 14 = .ok (.invokevirtual 200, 3) := by decide +kernel
theorem dX16_readRelation_17 : decode cX16_readRelation 17 = .ok (.ifCond .eq 7, 3) := by decide +kernel
theorem dX16_readRelation_20 : decode cX16_readRelation 20 = .ok (.iconst 1, 1) := by decide +kernel
theorem dX16_readRelation_21 : decode cX16_readRelation 21 = .ok (.goto 76, 3) := by decide +kernel
theorem dX16_readRelation_24 : decode cX16_readRelation 24 = .ok (.aload_n 0, 1) := by decide +kernel
theorem dX16_readRelation_25 : decode cX16_readRelation 25 = .ok (.ldc_w 428, 3) := by decide +kernel
theorem dX16_readRelation_28 : decode cX16_readRelation 28 = .ok (.invokevirtual 200, 3) := by decide +kernel
theorem dX16_readRelation_31 : decode cX16_readRelation 31 = .ok (.ifCond .eq 7, 3) := by decide +kernel
theorem dX16_readRelation_34 : decode cX16_readRelation 34 = .ok (.iconst 5, 1) := by decide +kernel
theorem dX16_readRelation_35 : decode cX16_readRelation 35 = .ok (.goto 62, 3) := by decide +kernel
theorem dX16_readRelation_38 : decode cX16_readRelation 38 = .ok (.aload_n 0, 1) := by decide +kernel
theorem dX16_readRelation_39 : decode cX16_readRelation 39 = .ok (.ldc_w 430, 3) := by decide +kernel
theorem dX16_readRelation_42 : decode cX16_readRelation 42 = .ok (.invokevirtual 200, 3) := by decide +kernel
theorem dX16_readRelation_45 : decode cX16_readRelation 45 = .ok (.ifCond .eq 8, 3) := by decide +kernel
theorem dX16_readRelation_48 : decode cX16_readRelation 48 = .ok (.bipush 10, 2) := by decide +kernel
theorem dX16_readRelation_50 : decode cX16_readRelation 50 = .ok (.goto 47, 3) := by decide +kernel
theorem dX16_readRelation_53 : decode cX16_readRelation 53 = .ok (.aload_n 0, 1) := by decide +kernel
theorem dX16_readRelation_54 : decode cX16_readRelation 54 = .ok (.ldc_w 432, 3) := by decide +kernel
theorem dX16_readRelation_57 : decode cX16_readRelation 57 = .ok (.invokevirtual 200, 3) := by decide +kernel
theorem dX16_readRelation_60 : decode cX16_readRelation 60 = .ok (.ifCond .eq 8, 3) := by decide +kernel
theorem dX16_readRelation_63 : decode cX16_readRelation 63 = .ok (.bipush 11, 2) := by decide +kernel
theorem dX16_readRelation_65 : decode cX16_readRelation 65 = .ok (.goto 32, 3) := by decide +kernel
theorem dX16_readRelation_68 : decode cX16_readRelation 68 = .ok (.aload_n 0, 1) := by decide +kernel
theorem dX16_readRelation_69 : decode cX16_readRelation 69 = .ok (.ldc_w 434, 3) := by decide +kernel
theorem dX16_readRelation_72 : decode cX16_readRelation 72 = .ok (.invokevirtual 200, 3) := by decide +kernel
theorem dX16_readRelation_75 : decode cX16_readRelation 75 = .ok (.ifCond .eq 7, 3) := by decide +kernel
theorem dX16_readRelation_78 : decode cX16_readRelation 78 = .ok (.iconst 2, 1) := by decide +kernel
theorem dX16_readRelation_79 : decode cX16_readRelation 79 = .ok (.goto 18, 3) := by decide +kernel
theorem dX16_readRelation_82 : decode cX16_readRelation 82 = .ok (.aload_n 0, 1) := by decide +kernel
theorem dX16_readRelation_83 : decode cX16_readRelation 83 = .ok (.ldc_w 436, 3) := by decide +kernel
theorem dX16_readRelation_86 : decode cX16_readRelation 86 = .ok (.invokevirtual 200, 3) := by decide +kernel
theorem dX16_readRelation_89 : decode cX16_readRelation 89 = .ok (.ifCond .eq 7, 3) := by decide +kernel
theorem dX16_readRelation_92 : decode cX16_readRelation 92 = .ok (.iconst 3, 1) := by decide +kernel
theorem dX16_readRelation_93 : decode cX16_readRelation 93 = .ok (.goto 4, 3) := by decide +kernel
theorem dX16_readRelation_96 : decode cX16_readRelation 96 = .ok (.iconst (-1), 1) := by decide +kernel
theorem dX16_readRelation_97 : decode cX16_readRelation 97 = .ok (.istore_n 2, 1) := by decide +kernel
theorem dX16_readRelation_98 : decode cX16_readRelation 98 = .ok (.aload_n 0, 1) := by decide +kernel
theorem dX16_readRelation_99 : decode cX16_readRelation 99 = .ok (.iload_n 2, 1) := by decide +kernel
theorem dX16_readRelation_100 : decode cX16_readRelation 100 = .ok (.ifCond .lt 7, 3) := by decide +kernel
theorem dX16_readRelation_103 : decode cX16_readRelation 103 = .ok (.iconst 1, 1) := by decide +kernel
theorem dX16_readRelation_104 : decode cX16_readRelation 104 = .ok (.goto 4, 3) := by decide +kernel
theorem dX16_readRelation_107 : decode cX16_readRelation 107 = .ok (.iconst 0, 1) := by decide +kernel
theorem dX16_readRelation_108 : decode cX16_readRelation 108 = .ok (.invokevirtual 182, 3) := by decide +kernel
theorem dX16_readRelation_111 : decode cX16_readRelation 111 = .ok (.aload_n 0, 1) := by decide +kernel
theorem dX16_readRelation_112 : decode cX16_readRelation 112 = .ok (.invokevirtual 204, 3) := by decide +kernel
theorem dX16_readRelation_115 : decode cX16_readRelation 115 = .ok (.new 22, 3) := by decide +kernel
theorem dX16_readRelation_118 : decode cX16_readRelation 118 = .ok (.dup, 1) := by decide +kernel
theorem dX16_readRelation_119 : decode cX16_readRelation 119 = .ok (.aload_n 1, 1) := by decide +kernel
theorem dX16_readRelation_120 : decode cX16_readRelation 120 = .ok (.iload_n 2, 1) := by decide +kernel
theorem dX16_readRelation_121 : decode cX16_readRelation 121 = .ok (.aload_n 0, 1) := by decide +kernel
theorem dX16_readRelation_122 : decode cX16_readRelation 122 = .ok (.invokevirtual 422, 3) := by decide +kernel
theorem dX16_readRelation_125 : decode cX16_readRelation 125 = .ok (.invokespecial 243, 3) := by decide +kernel
theorem dX16_readRelation_128 : decode cX16_readRelation 128 = .ok (.astore_n 3, 1) := by decide +kernel
theorem dX16_readRelation_129 : decode cX16_readRelation 129 = .ok (.aload_n 0, 1) := by decide +kernel
theorem dX16_readRelation_130 : decode cX16_readRelation 130 = .ok (.getfield 419, 3) := by decide +kernel
theorem dX16_readRelation_133 : decode cX16_readRelation 133 = .ok (.iconst 1, 1) := by decide +kernel
theorem dX16_readRelation_134 : decode cX16_readRelation 134 = .ok (.isub, 1) := by decide +kernel
theorem dX16_readRelation_135 : decode cX16_readRelation 135 = .ok (.istore 4, 2) := by decide +kernel
theorem dX16_readRelation_137 : decode cX16_readRelation 137 = .ok (.iload 4, 2) := by decide +kernel
theorem dX16_readRelation_139 : decode cX16_readRelation 139 = .ok (.ifCond .lt 24, 3) := by decide +kernel
theorem dX16_readRelation_142 : decode cX16_readRelation 142 = .ok (.aload_n 0, 1) := by decide +kernel
theorem dX16_readRelation_143 : decode cX16_readRelation 143 = .ok (.getfield 19, 3) := by decide +kernel
theorem dX16_readRelation_146 : decode cX16_readRelation 146 = .ok (.iload 4, 2) := by decide +kernel
theorem dX16_readRelation_148 : decode cX16_readRelation 148 = .ok (.iaload, 1) := by decide +kernel
theorem dX16_readRelation_149 : decode cX16_readRelation 149 = .ok (.invokestatic 400, 3) := by decide +kernel
theorem dX16_readRelation_152 : decode cX16_readRelation 152 = .ok (.aload_n 3, 1) := by decide +kernel
theorem dX16_readRelation_153 : decode cX16_readRelation 153 = .ok (.invokestatic 274, 3) := by decide +kernel
theorem dX16_readRelation_156 : decode cX16_readRelation 156 = .ok (.astore_n 3, 1) := by decide +kernel
theorem dX16_readRelation_157 : decode cX16_readRelation 157 = .ok (.iinc 4 (-1), 3) := by decide +kernel
theorem dX16_readRelation_160 : decode cX16_readRelation 160 = .ok (.goto (-23), 3) := by decide +kernel
theorem dX16_readRelation_163 : decode cX16_readRelation 163 = .ok (.aload_n 3, 1) := by decide +kernel
theorem dX16_readRelation_164 : decode cX16_readRelation 164 = .ok (.areturn, 1) := by decide +kernel
theorem dX16_readSum_0 : decode cX16_readSum 0 = .ok (.aload_n 0, 1) := by decide +kernel
theorem dX16_readSum_1 : decode cX16_readSum 1 = .ok (.invokevirtual 438, 3) := by decide +kernel
theorem dX16_readSum_4 : decode cX16_readSum 4 = .ok (.astore_n 1, 1) := by decide +kernel
theorem dX16_readSum_5 : decode cX16_readSum 5 = .ok (.aload_n 0, 1) := by decide +kernel
theorem dX16_readSum_6 : decode cX16_readSum 6 = .ok (.invokevirtual 441, 3) := by decide +kernel
theorem dX16_readSum_9 : decode cX16_readSum 9 = .ok (.istore_n 2, 1) := by decide +kernel
theorem dX16_readSum_10 : decode cX16_readSum 10 = .ok (.iload_n 2, 1) := by decide +kernel
theorem dX16_readSum_11 : decode cX16_readSum 11 = .ok (.ifCond .lt 32, 3) := by decide +kernel
theorem dX16_readSum_14 : decode cX16_readSum 14 = .ok (.aload_n 0, 1) := by decide +kernel
theorem dX16_readSum_15 : decode cX16_readSum 15 = .ok (.invokevirtual 204, 3) := by decide +kernel
theorem dX16_readSum_18 : decode cX16_readSum 18 = .ok (.new 43, 3) := by decide +kernel
theorem dX16_readSum_21 : decode cX16_readSum 21 = .ok (.dup, 1) := by decide +kernel
theorem dX16_readSum_22 : decode cX16_readSum 22 = .ok (.iconst 2, 1) := by decide +kernel
theorem dX16_readSum_23 : decode cX16_readSum 23 = .ok (.iload_n 2, 1) := by decide +kernel
theorem dX16_readSum_24 : decode cX16_readSum 24 = .ok (.i2l, 1) := by decide +kernel
theorem dX16_readSum_25 : decode cX16_readSum 25 = .ok (.aload_n 1, 1) := by decide +kernel
theorem dX16_readSum_26 : decode cX16_readSum 26 = .ok (.aload_n 0, 1) := by decide +kernel
theorem dX16_readSum_27 : decode cX16_readSum 27 = .ok (.invokevirtual 438, 3) := by decide +kernel
theorem dX16_readSum_30 : decode cX16_readSum 30 = .ok (.iconst 0, 1) := by decide +kernel
theorem dX16_readSum_31 : decode cX16_readSum 31 = .ok (.invokespecial 231, 3) := by decide +kernel
theorem dX16_readSum_34 : decode cX16_readSum 34 = .ok (.astore_n 1, 1) := by decide +kernel
theorem dX16_readSum_35 : decode cX16_readSum 35 = .ok (.aload_n 0, 1) := by decide +kernel
theorem dX16_readSum_36 : decode cX16_readSum 36 = .ok (.invokevirtual 441, 3) := by decide +kernel
theorem dX16_readSum_39 : decode cX16_readSum 39 = .ok (.istore_n 2, 1) := by decide +kernel
theorem dX16_readSum_40 : decode cX16_readSum 40 = .ok (.goto (-30), 3) := by decide +kernel
theorem dX16_readSum_43 : decode cX16_readSum 43 = .ok (.aload_n 1, 1) := by decide +kernel
theorem dX16_readSum_44 : decode cX16_readSum 44 = .ok (.areturn, 1) := by decide +kernel
theorem dX16_readProduct_0 : decode cX16_readProduct 0 = .ok (.aload_n 0, 1) := by decide +kernel
theorem dX16_readProduct_1 : decode cX16_readProduct 1 = .ok (.iconst 0, 1) := by decide +kernel
theorem dX16_readProduct_2 : decode cX16_readProduct 2 = .ok (.invokevirtual 450, 3) := by decide +kernel
theorem dX16_readProduct_5 : decode cX16_readProduct 5 = .ok (.astore_n 1, 1) := by decide +kernel
theorem dX16_readProduct_6 : decode cX16_readProduct 6 = .ok (.aload_n 0, 1) := by decide +kernel
theorem dX16_readProduct_7 : decode cX16_readProduct 7 = .ok (.invokevirtual 454, 3) := by decide +kernel
theorem dX16_readProduct_10 : decode cX16_readProduct 10 = .ok (.istore_n 2, 1) := by decide +kernel
theorem dX16_readProduct_11 : decode cX16_readProduct 11 = .ok (.iload_n 2, 1) := by decide +kernel
theorem dX16_readProduct_12 : decode cX16_readProduct 12 = .ok (.ifCond .lt 33, 3) := by decide +kernel
theorem dX16_readProduct_15 : decode cX16_readProduct 15 = .ok (.aload_n 0, 1) := by decide +kernel
theorem dX16_readProduct_16 : decode cX16_readProduct 16 = .ok (.invokevirtual 204, 3) := by decide +kernel
theorem dX16_readProduct_19 : decode cX16_readProduct 19 = .ok (.new 43, 3) := by decide +kernel
theorem dX16_readProduct_22 : decode cX16_readProduct 22 = .ok (.dup, 1) := by decide +kernel
theorem dX16_readProduct_23 : decode cX16_readProduct 23 = .ok (.iconst 2, 1) := by decide +kernel
theorem dX16_readProduct_24 : decode cX16_readProduct 24 = .ok (.iload_n 2, 1) := by decide +kernel
theorem dX16_readProduct_25 : decode cX16_readProduct 25 = .ok (.i2l, 1) := by decide +kernel
theorem dX16_readProduct_26 : decode cX16_readProduct 26 = .ok (.aload_n 1, 1) := by decide +kernel
theorem dX16_readProduct_27 : decode cX16_readProduct 27 = .ok (.aload_n 0, 1) := by decide +kernel
theorem dX16_readProduct_28 : decode cX16_readProduct 28 = .ok (.iconst 0, 1) := by decide +kernel
theorem dX16_readProduct_29 : decode cX16_readProduct 29 = .ok (.invokevirtual 450, 3) := by decide +kernel
theorem dX16_readProduct_32 : decode cX16_readProduct 32 = .ok (.iconst 0, 1) := by decide +kernel
theorem dX16_readProduct_33 : decode cX16_readProduct 33 = .ok (.invokespecial 231, 3) := by decide +kernel
theorem dX16_readProduct_36 : decode cX16_readProduct 36 = .ok (.astore_n 1, 1) := by decide +kernel
theorem dX16_readProduct_37 : decode cX16_readProduct 37 = .ok (.aload_n 0, 1) := by decide +kernel
theorem dX16_readProduct_38 : decode cX16_readProduct 38 = .ok (.invokevirtual 454, 3) := by decide +kernel
theorem dX16_readProduct_41 : decode cX16_readProduct 41 = .ok (.istore_n 2, 1) := by decide +kernel
theorem dX16_readProduct_42 : decode cX16_readProduct 42 = .ok (.goto (-31), 3) := by decide +kernel
theorem dX16_readProduct_45 : decode cX16_readProduct 45 = .ok (.aload_n 1, 1) := by decide +kernel
theorem dX16_readProduct_46 : decode cX16_readProduct 46 = .ok (.areturn, 1) := by decide +kernel
theorem dX16_readAtom_0 : decode cX16_readAtom 0 = .ok (.aload_n 0, 1) := by decide +kernel
theorem dX16_readAtom_1 : decode cX16_readAtom 1 = .ok (.getfield 372, 3) := by decide +kernel
theorem dX16_readAtom_4 : decode cX16_readAtom 4 = .ok (.ifCond .ge 51, 3) := by decide +kernel
theorem dX16_readAtom_7 : decode cX16_readAtom 7 = .ok (.aload_n 0, 1) := by decide +kernel
theorem dX16_readAtom_8 : decode cX16_readAtom 8 = .ok (.ldc_w 414, 3) := by decide +kernel
theorem dX16_readAtom_11 : decode cX16_readAtom 11 = .ok (.invokevirtual 200, 3) := by decide +kernel
theorem dX16_readAtom_14 : decode cX16_readAtom 14 = .ok (.ifCond .eq 41, 3) := by decide +kernel
theorem dX16_readAtom_17 : decode cX16_readAtom 17 = .ok (.aload_n 0, 1) := by decide +kernel
theorem dX16_readAtom_18 : decode cX16_readAtom 18 = .ok (.iload_n 1, 1) := by decide +kernel
theorem dX16_readAtom_19 : decode cX16_readAtom 19 = .ok (.bipush 8, 2) := by decide +kernel
theorem dX16_readAtom_21 : decode cX16_readAtom 21 = .ok (.if_icmp .ge 7, 3) := by decide +kernel
theorem dX16_readAtom_24 : decode cX16_readAtom 24 = .ok (.iconst 1, 1) := by decide +kernel
theorem dX16_readAtom_25 : decode cX16_readAtom 25 = .ok (.goto 4, 3) := by decide +kernel
theorem dX16_readAtom_28 : decode cX16_readAtom 28 = .ok (.iconst 0, 1) := by decide +kernel
theorem dX16_readAtom_29 : decode cX16_readAtom 29 = .ok (.invokevirtual 182, 3) := by decide +kernel
theorem dX16_readAtom_32 : decode cX16_readAtom 32 = .ok (.aload_n 0, 1) := by decide +kernel
theorem dX16_readAtom_33 : decode cX16_readAtom 33 = .ok (.invokevirtual 204, 3) := by decide +kernel
theorem dX16_readAtom_36 : decode cX16_readAtom 36 = .ok (.new 43, 3) := by decide +kernel
theorem dX16_readAtom_39 : decode cX16_readAtom 39 = .ok (.dup, 1) := by decide +kernel
theorem dX16_readAtom_40 : decode cX16_readAtom 40 = .ok (.iconst 3, 1) := by decide +kernel
theorem dX16_readAtom_41 : decode cX16_readAtom 41 = .ok (.lconst 0, 1) := by decide +kernel
theorem dX16_readAtom_42 : decode cX16_readAtom 42 = .ok (.aload_n 0, 1) := by decide +kernel
theorem dX16_readAtom_43 : decode cX16_readAtom 43 = .ok (.iload_n 1, 1) := by decide +kernel
theorem dX16_readAtom_44 : decode cX16_readAtom 44 = .ok (.iconst 1, 1) := by decide +kernel
theorem dX16_readAtom_45 : decode cX16_readAtom 45 = .ok (.iadd, 1) := by decide +kernel
theorem dX16_readAtom_46 : decode cX16_readAtom 46 = .ok (.invokevirtual 450, 3) := by decide +kernel
theorem dX16_readAtom_49 : decode cX16_readAtom 49 = .ok (.aconst_null, 1) := by decide +kernel
theorem dX16_readAtom_50 : decode cX16_readAtom 50 = .ok (.iconst 0, 1) := by decide +kernel
theorem dX16_readAtom_51 : decode cX16_readAtom 51 = .ok (.invokespecial 231, 3) := by decide +kernel
theorem dX16_readAtom_54 : decode cX16_readAtom 54 = .ok (.areturn, 1) := by decide +kernel
theorem dX16_readAtom_55 : decode cX16_readAtom 55 = .ok (.aload_n 0, 1) := by decide +kernel
theorem dX16_readAtom_56 : decode cX16_readAtom 56 = .ok (.getfield 372, 3) := by decide +kernel
theorem dX16_readAtom_59 : decode cX16_readAtom 59 = .ok (.ifCond .ge 52, 3) := by decide +kernel
theorem dX16_readAtom_62 : decode cX16_readAtom 62 = .ok (.aload_n 0, 1) := by decide +kernel
theorem dX16_readAtom_63 : decode cX16_readAtom 63 = .ok (.ldc_w 470, 3) := by decide +kernel
theorem dX16_readAtom_66 : decode cX16_readAtom 66 = .ok (.invokevirtual 200, 3) := by decide +kernel
theorem dX16_readAtom_69 : decode cX16_readAtom 69 = .ok (.ifCond .eq 42, 3) := by decide +kernel
theorem dX16_readAtom_72 : decode cX16_readAtom 72 = .ok (.aload_n 0, 1) := by decide +kernel
theorem dX16_readAtom_73 : decode cX16_readAtom 73 = .ok (.invokevirtual 472, 3) := by decide +kernel
theorem dX16_readAtom_76 : decode cX16_readAtom 76 = .ok (.aload_n 0, 1) := by decide +kernel
theorem dX16_readAtom_77 : decode cX16_readAtom 77 = .ok (.invokevirtual 422, 3) := by decide +kernel
theorem dX16_readAtom_80 : decode cX16_readAtom 80 = .ok (.astore_n 2, 1) := by decide +kernel
theorem dX16_readAtom_81 : decode cX16_readAtom 81 = .ok (.aload_n 0, 1) := by decide +kernel
theorem dX16_readAtom_82 : decode cX16_readAtom 82 = .ok (.ldc_w 475, 3) := by decide +kernel
theorem dX16_readAtom_85 : decode cX16_readAtom 85 = .ok (.invokevirtual 340, 3) := by decide +kernel
theorem dX16_readAtom_88 : decode cX16_readAtom 88 = .ok (.aload_n 0, 1) := by decide +kernel
theorem dX16_readAtom_89 : decode cX16_readAtom 89 = .ok (.dup, 1) := by decide +kernel
theorem dX16_readAtom_90 : decode cX16_readAtom 90 = .ok (.getfield 467, 3) := by decide +kernel
theorem dX16_readAtom_93 : decode cX16_readAtom 93 = .ok (.iconst 1, 1) := by decide +kernel
theorem dX16_readAtom_94 : decode cX16_readAtom 94 = .ok (.isub, 1) := by decide +kernel
theorem dX16_readAtom_95 : decode cX16_readAtom 95 = .ok (.putfield 467, 3) := by decide +kernel
theorem dX16_readAtom_98 : decode cX16_readAtom 98 = .ok (.new 43, 3) := by decide +kernel
theorem dX16_readAtom_101 : decode cX16_readAtom 101 = .ok (.dup, 1) := by decide +kernel
theorem dX16_readAtom_102 : decode cX16_readAtom 102 = .ok (.iconst 5, 1) := by decide +kernel
theorem dX16_readAtom_103 : decode cX16_readAtom 103 = .ok (.lconst 0, 1) := by decide +kernel
theorem dX16_readAtom_104 : decode cX16_readAtom 104 = .ok (.aload_n 2, 1) := by decide +kernel
theorem dX16_readAtom_105 : decode cX16_readAtom 105 = .ok (.aconst_null, 1) := by decide +kernel
theorem dX16_readAtom_106 : decode cX16_readAtom 106 = .ok (.iconst 0, 1) := by decide +kernel
theorem dX16_readAtom_107 : decode cX16_readAtom 107 = .ok (.invokespecial 231, 3) := by decide +kernel
theorem dX16_readAtom_110 : decode cX16_readAtom 110 = .ok (.areturn, 1) := by decide +kernel
theorem dX16_readAtom_111 : decode cX16_readAtom 111 = .ok (.aload_n 0, 1) := by decide +kernel
theorem dX16_readAtom_112 : decode cX16_readAtom 112 = .ok (.getfield 372, 3) := by decide +kernel
theorem dX16_readAtom_115 : decode cX16_readAtom 115 = .ok (.ifCond .ge 30, 3) := by decide +kernel
theorem dX16_readAtom_118 : decode cX16_readAtom 118 = .ok (.aload_n 0, 1) := by decide +kernel
theorem dX16_readAtom_119 : decode cX16_readAtom 119 = .ok (.ldc_w 477, 3) := by decide +kernel
theorem dX16_readAtom_122 : decode cX16_readAtom 122 = .ok (.invokevirtual 200, 3) := by decide +kernel
theorem dX16_readAtom_125 : decode cX16_readAtom 125 = .ok (.ifCond .eq 20, 3) := by decide +kernel
theorem dX16_readAtom_128 : decode cX16_readAtom 128 = .ok (.aload_n 0, 1) := by decide +kernel
theorem dX16_readAtom_129 : decode cX16_readAtom 129 = .ok (.invokevirtual 204, 3) := by decide +kernel
theorem dX16_readAtom_132 : decode cX16_readAtom 132 = .ok (.new 43, 3) := by decide +kernel
theorem dX16_readAtom_135 : decode cX16_readAtom 135 = .ok (.dup, 1) := by decide +kernel
theorem dX16_readAtom_136 : decode cX16_readAtom 136 = .ok (.iconst 1, 1) := by decide +kernel
theorem dX16_readAtom_137 : decode cX16_readAtom 137 = .ok (.lconst 0, 1) := by decide +kernel
theorem dX16_readAtom_138 : decode cX16_readAtom 138 = .ok (.aconst_null, 1) := by decide +kernel
theorem dX16_readAtom_139 : decode cX16_readAtom 139 = .ok (.aconst_null, 1) := by decide +kernel
theorem dX16_readAtom_140 : decode cX16_readAtom 140 = .ok (.iconst 0, 1) := by decide +kernel
theorem dX16_readAtom_141 : decode cX16_readAtom 141 = .ok (.invokespecial 231, 3) := by decide +kernel
theorem dX16_readAtom_144 : decode cX16_readAtom 144 = .ok (.areturn, 1) := by decide +kernel
theorem dX16_readAtom_145 : decode cX16_readAtom 145 = .ok (.aload_n 0, 1) := by decide +kernel
theorem dX16_readAtom_146 : decode cX16_readAtom 146 = .ok (.getfield 372, 3) := by decide +kernel
theorem dX16_readAtom_149 : decode cX16_readAtom 149 = .ok (.ifCond .lt 10, 3) := by decide +kernel
theorem dX16_readAtom_152 : decode cX16_readAtom 152 = .ok (.aload_n 0, 1) := by decide +kernel
theorem dX16_readAtom_153 : decode cX16_readAtom 153 = .ok (.getfield 372, 3) := by decide +kernel
theorem dX16_readAtom_156 : decode cX16_readAtom 156 = .ok (.goto 7, 3) := by decide +kernel
theorem dX16_readAtom_159 : decode cX16_readAtom 159 = .ok (.aload_n 0, 1) := by decide +kernel
theorem dX16_readAtom_160 : decode cX16_readAtom 160 = .ok (.invokevirtual 344, 3) := by decide +kernel
theorem dX16_readAtom_163 : decode cX16_readAtom 163 = .ok (.istore_n 2, 1) := by decide +kernel
theorem dX16_readAtom_164 : decode cX16_readAtom 164 = .ok (.iload_n 2, 1) := by decide +kernel
theorem dX16_readAtom_165 : decode cX16_readAtom 165 = .ok (.ifCond .ge 15, 3) := by decide +kernel
theorem dX16_readAtom_168 : decode cX16_readAtom 168 = .ok (.aload_n 0, 1) := by decide +kernel
theorem dX16_readAtom_169 : decode cX16_readAtom 169 = .ok (.lconst 0, 1) := by decide +kernel
theorem dX16_readAtom_170 : decode cX16_readAtom 170 = .ok (.ldc2_w 219, 3) := by decide +kernel
theorem dX16_readAtom_173 : decode cX16_readAtom 173 = .ok (.invokevirtual 355, 3) := by decide +kernel
theorem dX16_readAtom_176 : decode cX16_readAtom 176 = .ok (.invokestatic 234, 3) := by decide +kernel
theorem dX16_readAtom_179 : decode cX16_readAtom 179 = .ok (.areturn, 1) := by decide +kernel
theorem dX16_readAtom_180 : decode cX16_readAtom 180 = .ok (.aload_n 0, 1) := by decide +kernel
theorem dX16_readAtom_181 : decode cX16_readAtom 181 = .ok (.getfield 372, 3) := by decide +kernel
theorem dX16_readAtom_184 : decode cX16_readAtom 184 = .ok (.ifCond .ge 7, 3) := by decide +kernel
theorem dX16_readAtom_187 : decode cX16_readAtom 187 = .ok (.aload_n 0, 1) := by decide +kernel
theorem dX16_readAtom_188 : decode cX16_readAtom 188 = .ok (.invokevirtual 204, 3) := by decide +kernel
theorem dX16_readAtom_191 : decode cX16_readAtom 191 = .ok (.aload_n 0, 1) := by decide +kernel
theorem dX16_readAtom_192 : decode cX16_readAtom 192 = .ok (.iconst (-1), 1) := by decide +kernel
theorem dX16_readAtom_193 : decode cX16_readAtom 193 = .ok (.putfield 372, 3) := by decide +kernel
theorem dX16_readAtom_196 : decode cX16_readAtom 196 = .ok (.aload_n 0, 1) := by decide +kernel
theorem dX16_readAtom_197 : decode cX16_readAtom 197 = .ok (.iload_n 2, 1) := by decide +kernel
theorem dX16_readAtom_198 : decode cX16_readAtom 198 = .ok (.invokevirtual 479, 3) := by decide +kernel
theorem dX16_readAtom_201 : decode cX16_readAtom 201 = .ok (.areturn, 1) := by decide +kernel
theorem dX16_matches_0 : decode cX16_matches 0 = .ok (.aload_n 0, 1) := by decide +kernel
theorem dX16_matches_1 : decode cX16_matches 1 = .ok (.getfield 578, 3) := by decide +kernel
theorem dX16_matches_4 : decode cX16_matches 4 = .ok (.ifCond .ne 5, 3) := by decide +kernel
theorem dX16_matches_7 : decode cX16_matches 7 = .ok (.iconst (-1), 1) := by decide +kernel
theorem dX16_matches_8 : decode cX16_matches 8 = .ok (.ireturn, 1) := by decide +kernel
theorem dX16_matches_9 : decode cX16_matches 9 = .ok (.iconst 0, 1) := by decide +kernel
theorem dX16_matches_10 : decode cX16_matches 10 = .ok (.istore_n 1, 1) := by decide +kernel
theorem dX16_matches_11 : decode cX16_matches 11 = .ok (.iconst 0, 1) := by decide +kernel
theorem dX16_matches_12 : decode cX16_matches 12 = .ok (.istore_n 2, 1) := by decide +kernel
theorem dX16_matches_13 : decode cX16_matches 13 = .ok (.iload_n 2, 1) := by decide +kernel
theorem dX16_matches_14 : decode cX16_matches 14 = .ok (.aload_n 0, 1) := by decide +kernel
theorem dX16_matches_15 : decode cX16_matches 15 = .ok (.getfield 151, 3) := by decide +kernel
theorem dX16_matches_18 : decode cX16_matches 18 = .ok (.if_icmp .ge 27, 3) := by decide +kernel
theorem dX16_matches_21 : decode cX16_matches 21 = .ok (.iload_n 1, 1) := by decide +kernel
theorem dX16_matches_22 : decode cX16_matches 22 = .ok (.aload_n 0, 1) := by decide +kernel
theorem dX16_matches_23 : decode cX16_matches 23 = .ok (.iload_n 2, 1) := by decide +kernel
theorem dX16_matches_24 : decode cX16_matches 24 = .ok (.invokevirtual 582, 3) := by decide +kernel
theorem dX16_matches_27 : decode cX16_matches 27 = .ok (.ifCond .eq 9, 3) := by decide +kernel
theorem dX16_matches_30 : decode cX16_matches 30 = .ok (.iconst 1, 1) := by decide +kernel
theorem dX16_matches_31 : decode cX16_matches 31 = .ok (.iload_n 2, 1) := by decide +kernel
theorem dX16_matches_32 : decode cX16_matches 32 = .ok (.ishl, 1) := by decide +kernel
theorem dX16_matches_33 : decode cX16_matches 33 = .ok (.goto 4, 3) := by decide +kernel
theorem dX16_matches_36 : decode cX16_matches 36 = .ok (.iconst 0, 1) := by decide +kernel
theorem dX16_matches_37 : decode cX16_matches 37 = .ok (.ior, 1) := by decide +kernel
theorem dX16_matches_38 : decode cX16_matches 38 = .ok (.istore_n 1, 1) := by decide +kernel
theorem dX16_matches_39 : decode cX16_matches 39 = .ok (.iinc 2 1, 3) := by decide +kernel
theorem dX16_matches_42 : decode cX16_matches 42 = .ok (.goto (-29), 3) := by decide +kernel
theorem dX16_matches_45 : decode cX16_matches 45 = .ok (.iload_n 1, 1) := by decide +kernel
theorem dX16_matches_46 : decode cX16_matches 46 = .ok (.ireturn, 1) := by decide +kernel
theorem dX16_compile_0 : decode cX16_compile 0 = .ok (.aload_n 0, 1) := by decide +kernel
theorem dX16_compile_1 : decode cX16_compile 1 = .ok (.aload_n 0, 1) := by decide +kernel
theorem dX16_compile_2 : decode cX16_compile 2 = .ok (.getfield 144, 3) := by decide +kernel
theorem dX16_compile_5 : decode cX16_compile 5 = .ok (.putfield 160, 3) := by decide +kernel
theorem dX16_compile_8 : decode cX16_compile 8 = .ok (.aload_n 0, 1) := by decide +kernel
theorem dX16_compile_9 : decode cX16_compile 9 = .ok (.iconst 0, 1) := by decide +kernel
theorem dX16_compile_10 : decode cX16_compile 10 = .ok (.putfield 144, 3) := by decide +kernel
theorem dX16_compile_13 : decode cX16_compile 13 = .ok (.aload_n 0, 1) := by decide +kernel
theorem dX16_compile_14 : decode cX16_compile 14 = .ok (.iconst 0, 1) := by decide +kernel
theorem dX16_compile_15 : decode cX16_compile 15 = .ok (.putfield 170, 3) := by decide +kernel
theorem dX16_compile_18 : decode cX16_compile 18 = .ok (.aload_n 0, 1) := by decide +kernel
theorem dX16_compile_19 : decode cX16_compile 19 = .ok (.iconst 0, 1) := by decide +kernel
theorem dX16_compile_20 : decode cX16_compile 20 = .ok (.putfield 325, 3) := by decide +kernel
theorem dX16_compile_23 : decode cX16_compile 23 = .ok (.aload_n 0, 1) := by decide +kernel
theorem dX16_compile_24 : decode cX16_compile 24 = .ok (.iconst 0, 1) := by decide +kernel
theorem dX16_compile_25 : decode cX16_compile 25 = .ok (.putfield 467, 3) := by decide +kernel
theorem dX16_compile_28 : decode cX16_compile 28 = .ok (.aload_n 0, 1) := by decide +kernel
theorem dX16_compile_29 : decode cX16_compile 29 = .ok (.iconst (-1), 1) := by decide +kernel
theorem dX16_compile_30 : decode cX16_compile 30 = .ok (.putfield 372, 3) := by decide +kernel
theorem dX16_compile_33 : decode cX16_compile 33 = .ok (.aload_n 0, 1) := by decide +kernel
theorem dX16_compile_34 : decode cX16_compile 34 = .ok (.invokevirtual 204, 3) := by decide +kernel
theorem dX16_compile_37 : decode cX16_compile 37 = .ok (.aload_n 0, 1) := by decide +kernel
theorem dX16_compile_38 : decode cX16_compile 38 = .ok (.invokevirtual 335, 3) := by decide +kernel
theorem dX16_compile_41 : decode cX16_compile 41 = .ok (.astore_n 1, 1) := by decide +kernel
theorem dX16_compile_42 : decode cX16_compile 42 = .ok (.aload_n 0, 1) := by decide +kernel
theorem dX16_compile_43 : decode cX16_compile 43 = .ok (.aload_n 0, 1) := by decide +kernel
theorem dX16_compile_44 : decode cX16_compile 44 = .ok (.getfield 176, 3) := by decide +kernel
theorem dX16_compile_47 : decode cX16_compile 47 = .ok (.ifCond .ne 7, 3) := by decide +kernel
theorem dX16_compile_50 : decode cX16_compile 50 = .ok (.iconst 1, 1) := by decide +kernel
theorem dX16_compile_51 : decode cX16_compile 51 = .ok (.goto 4, 3) := by decide +kernel
theorem dX16_compile_54 : decode cX16_compile 54 = .ok (.iconst 0, 1) := by decide +kernel
theorem dX16_compile_55 : decode cX16_compile 55 = .ok (.invokevirtual 182, 3) := by decide +kernel
theorem dX16_compile_58 : decode cX16_compile 58 = .ok (.goto 11, 3) := by decide +kernel
theorem dX16_compile_61 : decode cX16_compile 61 = .ok (.astore_n 2, 1) := by decide +kernel
theorem dX16_compile_62 : decode cX16_compile 62 = .ok (.iconst (-1), 1) := by decide +kernel
theorem dX16_compile_63 : decode cX16_compile 63 = .ok (.aload_n 2, 1) := by decide +kernel
theorem dX16_compile_64 : decode cX16_compile 64 = .ok (.getfield 643, 3) := by decide +kernel
theorem dX16_compile_67 : decode cX16_compile 67 = .ok (.isub, 1) := by decide +kernel
theorem dX16_compile_68 : decode cX16_compile 68 = .ok (.ireturn, 1) := by decide +kernel
theorem dX16_compile_69 : decode cX16_compile 69 = .ok (.aload_n 0, 1) := by decide +kernel
theorem dX16_compile_70 : decode cX16_compile 70 = .ok (.getfield 24, 3) := by decide +kernel
theorem dX16_compile_73 : decode cX16_compile 73 = .ok (.astore_n 2, 1) := by decide +kernel
theorem dX16_compile_74 : decode cX16_compile 74 = .ok (.aload_n 0, 1) := by decide +kernel
theorem dX16_compile_75 : decode cX16_compile 75 = .ok (.getfield 490, 3) := by decide +kernel
theorem dX16_compile_78 : decode cX16_compile 78 = .ok (.istore_n 3, 1) := by decide +kernel
theorem dX16_compile_79 : decode cX16_compile 79 = .ok (.aload_n 0, 1) := by decide +kernel
theorem dX16_compile_80 : decode cX16_compile 80 = .ok (.getfield 28, 3) := by decide +kernel
theorem dX16_compile_83 : decode cX16_compile 83 = .ok (.astore 4, 2) := by decide +kernel
theorem dX16_compile_85 : decode cX16_compile 85 = .ok (.aload_n 0, 1) := by decide +kernel
theorem dX16_compile_86 : decode cX16_compile 86 = .ok (.getfield 31, 3) := by decide +kernel
theorem dX16_compile_89 : decode cX16_compile 89 = .ok (.astore 5, 2) := by decide +kernel
theorem dX16_compile_91 : decode cX16_compile 91 = .ok (.aload_n 0, 1) := by decide +kernel
theorem dX16_compile_92 : decode cX16_compile 92 = .ok (.getfield 646, 3) := by decide +kernel
theorem dX16_compile_95 : decode cX16_compile 95 = .ok (.istore 6, 2) := by decide +kernel
theorem dX16_compile_97 : decode cX16_compile 97 = .ok (.aload_n 0, 1) := by decide +kernel
theorem dX16_compile_98 : decode cX16_compile 98 = .ok (.bipush 16, 2) := by decide +kernel
theorem dX16_compile_100 : decode cX16_compile 100 = .ok (.anewarray 22, 3) := by decide +kernel
theorem dX16_compile_103 : decode cX16_compile 103 = .ok (.putfield 24, 3) := by decide +kernel
theorem dX16_compile_106 : decode cX16_compile 106 = .ok (.aload_n 0, 1) := by decide +kernel
theorem dX16_compile_107 : decode cX16_compile 107 = .ok (.aload_n 1, 1) := by decide +kernel
theorem dX16_compile_108 : decode cX16_compile 108 = .ok (.invokevirtual 649, 3) := by decide +kernel
theorem dX16_compile_111 : decode cX16_compile 111 = .ok (.aload_n 0, 1) := by decide +kernel
theorem dX16_compile_112 : decode cX16_compile 112 = .ok (.aload_n 1, 1) := by decide +kernel
theorem dX16_compile_113 : decode cX16_compile 113 = .ok (.invokevirtual 651, 3) := by decide +kernel
theorem dX16_compile_116 : decode cX16_compile 116 = .ok (.aload_n 0, 1) := by decide +kernel
theorem dX16_compile_117 : decode cX16_compile 117 = .ok (.invokevirtual 654, 3) := by decide +kernel
theorem dX16_compile_120 : decode cX16_compile 120 = .ok (.istore 7, 2) := by decide +kernel
theorem dX16_compile_122 : decode cX16_compile 122 = .ok (.iload 7, 2) := by decide +kernel
theorem dX16_compile_124 : decode cX16_compile 124 = .ok (.ifCond .ge 31, 3) := by decide +kernel
theorem dX16_compile_127 : decode cX16_compile 127 = .ok (.aload_n 0, 1) := by decide +kernel
theorem dX16_compile_128 : decode cX16_compile 128 = .ok (.aload_n 2, 1) := by decide +kernel
theorem dX16_compile_129 : decode cX16_compile 129 = .ok (.putfield 24, 3) := by decide +kernel
theorem dX16_compile_132 : decode cX16_compile 132 = .ok (.aload_n 0, 1) := by decide +kernel
theorem dX16_compile_133 : decode cX16_compile 133 = .ok (.iload_n 3, 1) := by decide +kernel
theorem dX16_compile_134 : decode cX16_compile 134 = .ok (.putfield 490, 3) := by decide +kernel
theorem dX16_compile_137 : decode cX16_compile 137 = .ok (.aload_n 0, 1) := by decide +kernel
theorem dX16_compile_138 : decode cX16_compile 138 = .ok (.aload 4, 2) := by decide +kernel
theorem dX16_compile_140 : decode cX16_compile 140 = .ok (.putfield 28, 3) := by decide +kernel
theorem dX16_compile_143 : decode cX16_compile 143 = .ok (.aload_n 0, 1) := by decide +kernel
theorem dX16_compile_144 : decode cX16_compile 144 = .ok (.aload 5, 2) := by decide +kernel
theorem dX16_compile_146 : decode cX16_compile 146 = .ok (.putfield 31, 3) := by decide +kernel
theorem dX16_compile_149 : decode cX16_compile 149 = .ok (.aload_n 0, 1) := by decide +kernel
theorem dX16_compile_150 : decode cX16_compile 150 = .ok (.iload 6, 2) := by decide +kernel
theorem dX16_compile_152 : decode cX16_compile 152 = .ok (.putfield 646, 3) := by decide +kernel
theorem dX16_compile_155 : decode cX16_compile 155 = .ok (.aload_n 0, 1) := by decide +kernel
theorem dX16_compile_156 : decode cX16_compile 156 = .ok (.aload_n 0, 1) := by decide +kernel
theorem dX16_compile_157 : decode cX16_compile 157 = .ok (.getfield 578, 3) := by decide +kernel
theorem dX16_compile_160 : decode cX16_compile 160 = .ok (.ifCond .ne 8, 3) := by decide +kernel
theorem dX16_compile_163 : decode cX16_compile 163 = .ok (.iload 7, 2) := by decide +kernel
theorem dX16_compile_165 : decode cX16_compile 165 = .ok (.ifCond .le 7, 3) := by decide +kernel
theorem dX16_compile_168 : decode cX16_compile 168 = .ok (.iconst 1, 1) := by decide +kernel
theorem dX16_compile_169 : decode cX16_compile 169 = .ok (.goto 4, 3) := by decide +kernel
theorem dX16_compile_172 : decode cX16_compile 172 = .ok (.iconst 0, 1) := by decide +kernel
theorem dX16_compile_173 : decode cX16_compile 173 = .ok (.putfield 578, 3) := by decide +kernel
theorem dX16_compile_176 : decode cX16_compile 176 = .ok (.iload 7, 2) := by decide +kernel
theorem dX16_compile_178 : decode cX16_compile 178 = .ok (.ireturn, 1) := by decide +kernel
theorem dX16_load_0 : decode cX16_load 0 = .ok (.aload_n 0, 1) := by decide +kernel
theorem dX16_load_1 : decode cX16_load 1 = .ok (.getfield 144, 3) := by decide +kernel
theorem dX16_load_4 : decode cX16_load 4 = .ok (.istore_n 1, 1) := by decide +kernel
theorem dX16_load_5 : decode cX16_load 5 = .ok (.aload_n 0, 1) := by decide +kernel
theorem dX16_load_6 : decode cX16_load 6 = .ok (.iconst 0, 1) := by decide +kernel
theorem dX16_load_7 : decode cX16_load 7 = .ok (.putfield 144, 3) := by decide +kernel
theorem dX16_load_10 : decode cX16_load 10 = .ok (.iload_n 1, 1) := by decide +kernel
theorem dX16_load_11 : decode cX16_load 11 = .ok (.ifCond .eq 10, 3) := by decide +kernel
theorem dX16_load_14 : decode cX16_load 14 = .ok (.iload_n 1, 1) := by decide +kernel
theorem dX16_load_15 : decode cX16_load 15 = .ok (.bipush 8, 2) := by decide +kernel
theorem dX16_load_17 : decode cX16_load 17 = .ok (.irem, 1) := by decide +kernel
theorem dX16_load_18 : decode cX16_load 18 = .ok (.ifCond .eq 5, 3) := by decide +kernel
theorem dX16_load_21 : decode cX16_load 21 = .ok (.iconst (-1), 1) := by decide +kernel
theorem dX16_load_22 : decode cX16_load 22 = .ok (.ireturn, 1) := by decide +kernel
theorem dX16_load_23 : decode cX16_load 23 = .ok (.aload_n 0, 1) := by decide +kernel
theorem dX16_load_24 : decode cX16_load 24 = .ok (.iload_n 1, 1) := by decide +kernel
theorem dX16_load_25 : decode cX16_load 25 = .ok (.bipush 8, 2) := by decide +kernel
theorem dX16_load_27 : decode cX16_load 27 = .ok (.idiv, 1) := by decide +kernel
theorem dX16_load_28 : decode cX16_load 28 = .ok (.newarray .long, 2) := by decide +kernel
theorem dX16_load_30 : decode cX16_load 30 = .ok (.putfield 49, 3) := by decide +kernel
theorem dX16_load_33 : decode cX16_load 33 = .ok (.iconst 0, 1) := by decide +kernel
theorem dX16_load_34 : decode cX16_load 34 = .ok (.istore_n 2, 1) := by decide +kernel
theorem dX16_load_35 : decode cX16_load 35 = .ok (.iload_n 2, 1) := by decide +kernel
theorem dX16_load_36 : decode cX16_load 36 = .ok (.iload_n 1, 1) := by decide +kernel
theorem dX16_load_37 : decode cX16_load 37 = .ok (.if_icmp .ge 36, 3) := by decide +kernel
theorem dX16_load_40 : decode cX16_load 40 = .ok (.aload_n 0, 1) := by decide +kernel
theorem dX16_load_41 : decode cX16_load 41 = .ok (.getfield 49, 3) := by decide +kernel
theorem dX16_load_44 : decode cX16_load 44 = .ok (.iload_n 2, 1) := by decide +kernel
theorem dX16_load_45 : decode cX16_load 45 = .ok (.bipush 8, 2) := by decide +kernel
theorem dX16_load_47 : decode cX16_load 47 = .ok (.idiv, 1) := by decide +kernel
theorem dX16_load_48 : decode cX16_load 48 = .ok (.dup2, 1) := by decide +kernel
theorem dX16_load_49 : decode cX16_load 49 = .ok (.laload, 1) := by decide +kernel
theorem dX16_load_50 : decode cX16_load 50 = .ok (.aload_n 0, 1) := by decide +kernel
theorem dX16_load_51 : decode cX16_load 51 = .ok (.getfield 9, 3) := by decide +kernel
theorem dX16_load_54 : decode cX16_load 54 = .ok (.iload_n 2, 1) := by decide +kernel
theorem dX16_load_55 : decode cX16_load 55 = .ok (.iaload, 1) := by decide +kernel
theorem dX16_load_56 : decode cX16_load 56 = .ok (.i2l, 1) := by decide +kernel
theorem dX16_load_57 : decode cX16_load 57 = .ok (.bipush 8, 2) := by decide +kernel
theorem dX16_load_59 : decode cX16_load 59 = .ok (.iload_n 2, 1) := by decide +kernel
theorem dX16_load_60 : decode cX16_load 60 = .ok (.bipush 8, 2) := by decide +kernel
theorem dX16_load_62 : decode cX16_load 62 = .ok (.irem, 1) := by decide +kernel
theorem dX16_load_63 : decode cX16_load 63 = .ok (.imul, 1) := by decide +kernel
theorem dX16_load_64 : decode cX16_load 64 = .ok (.lshl, 1) := by decide +kernel
theorem dX16_load_65 : decode cX16_load 65 = .ok (.lor, 1) := by decide +kernel
theorem dX16_load_66 : decode cX16_load 66 = .ok (.lastore, 1) := by decide +kernel
theorem dX16_load_67 : decode cX16_load 67 = .ok (.iinc 2 1, 3) := by decide +kernel
theorem dX16_load_70 : decode cX16_load 70 = .ok (.goto (-35), 3) := by decide +kernel
theorem dX16_load_73 : decode cX16_load 73 = .ok (.aload_n 0, 1) := by decide +kernel
theorem dX16_load_74 : decode cX16_load 74 = .ok (.iconst 1, 1) := by decide +kernel
theorem dX16_load_75 : decode cX16_load 75 = .ok (.putfield 672, 3) := by decide +kernel
theorem dX16_load_78 : decode cX16_load 78 = .ok (.iload_n 1, 1) := by decide +kernel
theorem dX16_load_79 : decode cX16_load 79 = .ok (.bipush 8, 2) := by decide +kernel
theorem dX16_load_81 : decode cX16_load 81 = .ok (.idiv, 1) := by decide +kernel
theorem dX16_load_82 : decode cX16_load 82 = .ok (.ireturn, 1) := by decide +kernel
theorem dX16_instruction_0 : decode cX16_instruction 0 = .ok (.iload_n 1, 1) := by decide +kernel
theorem dX16_instruction_1 : decode cX16_instruction 1 = .ok (.ifCond .lt 21, 3) := by decide +kernel
theorem dX16_instruction_4 : decode cX16_instruction 4 = .ok (.iload_n 1, 1) := by decide +kernel
theorem dX16_instruction_5 : decode cX16_instruction 5 = .ok (.aload_n 0, 1) := by decide +kernel
theorem dX16_instruction_6 : decode cX16_instruction 6 = .ok (.getfield 49, 3) := by decide +kernel
theorem dX16_instruction_9 : decode cX16_instruction 9 = .ok (.arraylength, 1) := by decide +kernel
theorem dX16_instruction_10 : decode cX16_instruction 10 = .ok (.if_icmp .ge 12, 3) := by decide +kernel
theorem dX16_instruction_13 : decode cX16_instruction 13 = .ok (.aload_n 0, 1) := by decide +kernel
theorem dX16_instruction_14 : decode cX16_instruction 14 = .ok (.getfield 49, 3) := by decide +kernel
theorem dX16_instruction_17 : decode cX16_instruction 17 = .ok (.iload_n 1, 1) := by decide +kernel
theorem dX16_instruction_18 : decode cX16_instruction 18 = .ok (.laload, 1) := by decide +kernel
theorem dX16_instruction_19 : decode cX16_instruction 19 = .ok (.goto 4, 3) := by decide +kernel
theorem dX16_instruction_22 : decode cX16_instruction 22 = .ok (.lconst 0, 1) := by decide +kernel
theorem dX16_instruction_23 : decode cX16_instruction 23 = .ok (.lreturn, 1) := by decide +kernel
theorem dX16_run_0 : decode cX16_run 0 = .ok (.aload_n 0, 1) := by decide +kernel
theorem dX16_run_1 : decode cX16_run 1 = .ok (.getfield 672, 3) := by decide +kernel
theorem dX16_run_4 : decode cX16_run 4 = .ok (.ifCond .eq 11, 3) := by decide +kernel
theorem dX16_run_7 : decode cX16_run 7 = .ok (.aload_n 0, 1) := by decide +kernel
theorem dX16_run_8 : decode cX16_run 8 = .ok (.iload_n 1, 1) := by decide +kernel
theorem dX16_run_9 : decode cX16_run 9 = .ok (.invokevirtual 154, 3) := by decide +kernel
theorem dX16_run_12 : decode cX16_run 12 = .ok (.ifCond .ne 5, 3) := by decide +kernel
theorem dX16_run_15 : decode cX16_run 15 = .ok (.lconst 0, 1) := by decide +kernel
theorem dX16_run_16 : decode cX16_run 16 = .ok (.lreturn, 1) := by decide +kernel
theorem dX16_run_17 : decode cX16_run 17 = .ok (.aload_n 0, 1) := by decide +kernel
theorem dX16_run_18 : decode cX16_run 18 = .ok (.invokevirtual 766, 3) := by decide +kernel
theorem dX16_run_21 : decode cX16_run 21 = .ok (.aload_n 0, 1) := by decide +kernel
theorem dX16_run_22 : decode cX16_run 22 = .ok (.iconst 0, 1) := by decide +kernel
theorem dX16_run_23 : decode cX16_run 23 = .ok (.putfield 769, 3) := by decide +kernel
theorem dX16_run_26 : decode cX16_run 26 = .ok (.aload_n 0, 1) := by decide +kernel
theorem dX16_run_27 : decode cX16_run 27 = .ok (.getfield 62, 3) := by decide +kernel
theorem dX16_run_30 : decode cX16_run 30 = .ok (.iconst 1, 1) := by decide +kernel
theorem dX16_run_31 : decode cX16_run 31 = .ok (.aload_n 0, 1) := by decide +kernel
theorem dX16_run_32 : decode cX16_run 32 = .ok (.getfield 16, 3) := by decide +kernel
theorem dX16_run_35 : decode cX16_run 35 = .ok (.iload_n 1, 1) := by decide +kernel
theorem dX16_run_36 : decode cX16_run 36 = .ok (.iaload, 1) := by decide +kernel
theorem dX16_run_37 : decode cX16_run 37 = .ok (.i2l, 1) := by decide +kernel
theorem dX16_run_38 : decode cX16_run 38 = .ok (.lastore, 1) := by decide +kernel
theorem dX16_run_39 : decode cX16_run 39 = .ok (.aload_n 0, 1) := by decide +kernel
theorem dX16_run_40 : decode cX16_run 40 = .ok (.getfield 62, 3) := by decide +kernel
theorem dX16_run_43 : decode cX16_run 43 = .ok (.bipush 10, 2) := by decide +kernel
theorem dX16_run_45 : decode cX16_run 45 = .ok (.ldc2_w 731, 3) := by decide +kernel
theorem dX16_run_48 : decode cX16_run 48 = .ok (.lastore, 1) := by decide +kernel
theorem dX16_run_49 : decode cX16_run 49 = .ok (.iconst 0, 1) := by decide +kernel
theorem dX16_run_50 : decode cX16_run 50 = .ok (.istore_n 2, 1) := by decide +kernel
theorem dX16_run_51 : decode cX16_run 51 = .ok (.iconst 1, 1) := by decide +kernel
theorem dX16_run_52 : decode cX16_run 52 = .ok (.istore_n 3, 1) := by decide +kernel
theorem dX16_run_53 : decode cX16_run 53 = .ok (.iload_n 3, 1) := by decide +kernel
theorem dX16_run_54 : decode cX16_run 54 = .ok (.ifCond .eq 163, 3) := by decide +kernel
theorem dX16_run_57 : decode cX16_run 57 = .ok (.aload_n 0, 1) := by decide +kernel
theorem dX16_run_58 : decode cX16_run 58 = .ok (.iload_n 2, 1) := by decide +kernel
theorem dX16_run_59 : decode cX16_run 59 = .ok (.putfield 739, 3) := by decide +kernel
theorem dX16_run_62 : decode cX16_run 62 = .ok (.aload_n 0, 1) := by decide +kernel
theorem dX16_run_63 : decode cX16_run 63 = .ok (.getfield 736, 3) := by decide +kernel
theorem dX16_run_66 : decode cX16_run 66 = .ok (.sipush 10000, 3) := by decide +kernel
theorem dX16_run_69 : decode cX16_run 69 = .ok (.if_icmp .eq 15, 3) := by decide +kernel
theorem dX16_run_72 : decode cX16_run 72 = .ok (.aload_n 0, 1) := by decide +kernel
theorem dX16_run_73 : decode cX16_run 73 = .ok (.getfield 49, 3) := by decide +kernel
theorem dX16_run_76 : decode cX16_run 76 = .ok (.iload_n 2, 1) := by decide +kernel
theorem dX16_run_77 : decode cX16_run 77 = .ok (.laload, 1) := by decide +kernel
theorem dX16_run_78 : decode cX16_run 78 = .ok (.invokestatic 772, 3) := by decide +kernel
theorem dX16_run_81 : decode cX16_run 81 = .ok (.ifCond .ne 25, 3) := by decide +kernel
theorem dX16_run_84 : decode cX16_run 84 = .ok (.aload_n 0, 1) := by decide +kernel
theorem dX16_run_85 : decode cX16_run 85 = .ok (.aload_n 0, 1) := by decide +kernel
theorem dX16_run_86 : decode cX16_run 86 = .ok (.getfield 736, 3) := by decide +kernel
theorem dX16_run_89 : decode cX16_run 89 = .ok (.sipush 10000, 3) := by decide +kernel
theorem dX16_run_92 : decode cX16_run 92 = .ok (.if_icmp .ne 8, 3) := by decide +kernel
theorem dX16_run_95 : decode cX16_run 95 = .ok (.bipush 9, 2) := by decide +kernel
theorem dX16_run_97 : decode cX16_run 97 = .ok (.goto 4, 3) := by decide +kernel
theorem dX16_run_100 : decode cX16_run 100 = .ok (.iconst 1, 1) := by decide +kernel
theorem dX16_run_101 : decode cX16_run 101 = .ok (.putfield 733, 3) := by decide +kernel
theorem dX16_run_104 : decode cX16_run 104 = .ok (.lconst 0, 1) := by decide +kernel
theorem dX16_run_105 : decode cX16_run 105 = .ok (.lreturn, 1) := by decide +kernel
theorem dX16_run_106 : decode cX16_run 106 = .ok (.aload_n 0, 1) := by decide +kernel
theorem dX16_run_107 : decode cX16_run 107 = .ok (.aload_n 0, 1) := by decide +kernel
theorem dX16_run_108 : decode cX16_run 108 = .ok (.getfield 49, 3) := by decide +kernel
theorem dX16_run_111 : decode cX16_run 111 = .ok (.iload_n 2, 1) := by decide +kernel
theorem dX16_run_112 : decode cX16_run 112 = .ok (.laload, 1) := by decide +kernel
theorem dX16_run_113 : decode cX16_run 113 = .ok (.iload_n 1, 1) := by decide +kernel
theorem dX16_run_114 : decode cX16_run 114 = .ok (.invokevirtual 776, 3) := by decide +kernel
theorem dX16_run_117 : decode cX16_run 117 = .ok (.istore 4, 2) := by decide +kernel
theorem dX16_run_119 : decode cX16_run 119 = .ok (.iload 4, 2) := by decide +kernel
theorem dX16_run_121 : decode cX16_run 121 = .ok (.iconst 1, 1) := by decide +kernel
theorem dX16_run_122 : decode cX16_run 122 = .ok (.if_icmp .ne 19, 3) := by decide +kernel
theorem dX16_run_125 : decode cX16_run 125 = .ok (.iload_n 2, 1) := by decide +kernel
theorem dX16_run_126 : decode cX16_run 126 = .ok (.iconst 1, 1) := by decide +kernel
theorem dX16_run_127 : decode cX16_run 127 = .ok (.iadd, 1) := by decide +kernel
theorem dX16_run_128 : decode cX16_run 128 = .ok (.aload_n 0, 1) := by decide +kernel
theorem dX16_run_129 : decode cX16_run 129 = .ok (.getfield 49, 3) := by decide +kernel
theorem dX16_run_132 : decode cX16_run 132 = .ok (.iload_n 2, 1) := by decide +kernel
theorem dX16_run_133 : decode cX16_run 133 = .ok (.laload, 1) := by decide +kernel
theorem dX16_run_134 : decode cX16_run 134 = .ok (.invokestatic 697, 3) := by decide +kernel
theorem dX16_run_137 : decode cX16_run 137 = .ok (.iadd, 1) := by decide +kernel
theorem dX16_run_138 : decode cX16_run 138 = .ok (.goto 6, 3) := by decide +kernel
theorem dX16_run_141 : decode cX16_run 141 = .ok (.iload_n 2, 1) := by decide +kernel
theorem dX16_run_142 : decode cX16_run 142 = .ok (.iconst 1, 1) := by decide +kernel
theorem dX16_run_143 : decode cX16_run 143 = .ok (.iadd, 1) := by decide +kernel
theorem dX16_run_144 : decode cX16_run 144 = .ok (.istore 5, 2) := by decide +kernel
theorem dX16_run_146 : decode cX16_run 146 = .ok (.iload 4, 2) := by decide +kernel
theorem dX16_run_148 : decode cX16_run 148 = .ok (.iconst 1, 1) := by decide +kernel
theorem dX16_run_149 : decode cX16_run 149 = .ok (.if_icmp .gt 7, 3) := by decide +kernel
theorem dX16_run_152 : decode cX16_run 152 = .ok (.iconst 1, 1) := by decide +kernel
theorem dX16_run_153 : decode cX16_run 153 = .ok (.goto 4, 3) := by decide +kernel
theorem dX16_run_156 : decode cX16_run 156 = .ok (.iconst 0, 1) := by decide +kernel
theorem dX16_run_157 : decode cX16_run 157 = .ok (.istore_n 3, 1) := by decide +kernel
theorem dX16_run_158 : decode cX16_run 158 = .ok (.iload 4, 2) := by decide +kernel
theorem dX16_run_160 : decode cX16_run 160 = .ok (.iconst 3, 1) := by decide +kernel
theorem dX16_run_161 : decode cX16_run 161 = .ok (.if_icmp .eq 22, 3) := by decide +kernel
theorem dX16_run_164 : decode cX16_run 164 = .ok (.iload_n 3, 1) := by decide +kernel
theorem dX16_run_165 : decode cX16_run 165 = .ok (.ifCond .eq 36, 3) := by decide +kernel
theorem dX16_run_168 : decode cX16_run 168 = .ok (.iload 5, 2) := by decide +kernel
theorem dX16_run_170 : decode cX16_run 170 = .ok (.ifCond .lt 13, 3) := by decide +kernel
theorem dX16_run_173 : decode cX16_run 173 = .ok (.iload 5, 2) := by decide +kernel
theorem dX16_run_175 : decode cX16_run 175 = .ok (.aload_n 0, 1) := by decide +kernel
theorem dX16_run_176 : decode cX16_run 176 = .ok (.getfield 49, 3) := by decide +kernel
theorem dX16_run_179 : decode cX16_run 179 = .ok (.arraylength, 1) := by decide +kernel
theorem dX16_run_180 : decode cX16_run 180 = .ok (.if_icmp .lt 21, 3) := by decide +kernel
theorem dX16_run_183 : decode cX16_run 183 = .ok (.aload_n 0, 1) := by decide +kernel
theorem dX16_run_184 : decode cX16_run 184 = .ok (.iload 4, 2) := by decide +kernel
theorem dX16_run_186 : decode cX16_run 186 = .ok (.iconst 3, 1) := by decide +kernel
theorem dX16_run_187 : decode cX16_run 187 = .ok (.if_icmp .ne 8, 3) := by decide +kernel
theorem dX16_run_190 : decode cX16_run 190 = .ok (.bipush 7, 2) := by decide +kernel
theorem dX16_run_192 : decode cX16_run 192 = .ok (.goto 4, 3) := by decide +kernel
theorem dX16_run_195 : decode cX16_run 195 = .ok (.iconst 2, 1) := by decide +kernel
theorem dX16_run_196 : decode cX16_run 196 = .ok (.putfield 733, 3) := by decide +kernel
theorem dX16_run_199 : decode cX16_run 199 = .ok (.lconst 0, 1) := by decide +kernel
theorem dX16_run_200 : decode cX16_run 200 = .ok (.lreturn, 1) := by decide +kernel
theorem dX16_run_201 : decode cX16_run 201 = .ok (.aload_n 0, 1) := by decide +kernel
theorem dX16_run_202 : decode cX16_run 202 = .ok (.dup, 1) := by decide +kernel
theorem dX16_run_203 : decode cX16_run 203 = .ok (.getfield 736, 3) := by decide +kernel
theorem dX16_run_206 : decode cX16_run 206 = .ok (.iconst 1, 1) := by decide +kernel
theorem dX16_run_207 : decode cX16_run 207 = .ok (.iadd, 1) := by decide +kernel
theorem dX16_run_208 : decode cX16_run 208 = .ok (.putfield 736, 3) := by decide +kernel
theorem dX16_run_211 : decode cX16_run 211 = .ok (.iload 5, 2) := by decide +kernel
theorem dX16_run_213 : decode cX16_run 213 = .ok (.istore_n 2, 1) := by decide +kernel
theorem dX16_run_214 : decode cX16_run 214 = .ok (.goto (-161), 3) := by decide +kernel
theorem dX16_run_217 : decode cX16_run 217 = .ok (.aload_n 0, 1) := by decide +kernel
theorem dX16_run_218 : decode cX16_run 218 = .ok (.getfield 62, 3) := by decide +kernel
theorem dX16_run_221 : decode cX16_run 221 = .ok (.iconst 0, 1) := by decide +kernel
theorem dX16_run_222 : decode cX16_run 222 = .ok (.laload, 1) := by decide +kernel
theorem dX16_run_223 : decode cX16_run 223 = .ok (.lreturn, 1) := by decide +kernel
theorem dX16_ended_0 : decode cX16_ended 0 = .ok (.iload_n 1, 1) := by decide +kernel
theorem dX16_ended_1 : decode cX16_ended 1 = .ok (.ifCond .ne 10, 3) := by decide +kernel
theorem dX16_ended_4 : decode cX16_ended 4 = .ok (.aload_n 0, 1) := by decide +kernel
theorem dX16_ended_5 : decode cX16_ended 5 = .ok (.getfield 733, 3) := by decide +kernel
theorem dX16_ended_8 : decode cX16_ended 8 = .ok (.goto 28, 3) := by decide +kernel
theorem dX16_ended_11 : decode cX16_ended 11 = .ok (.iload_n 1, 1) := by decide +kernel
theorem dX16_ended_12 : decode cX16_ended 12 = .ok (.iconst 1, 1) := by decide +kernel
theorem dX16_ended_13 : decode cX16_ended 13 = .ok (.if_icmp .ne 10, 3) := by decide +kernel
theorem dX16_ended_16 : decode cX16_ended 16 = .ok (.aload_n 0, 1) := by decide +kernel
theorem dX16_ended_17 : decode cX16_ended 17 = .ok (.getfield 736, 3) := by decide +kernel
theorem dX16_ended_20 : decode cX16_ended 20 = .ok (.goto 16, 3) := by decide +kernel
theorem dX16_ended_23 : decode cX16_ended 23 = .ok (.iload_n 1, 1) := by decide +kernel
theorem dX16_ended_24 : decode cX16_ended 24 = .ok (.iconst 2, 1) := by decide +kernel
theorem dX16_ended_25 : decode cX16_ended 25 = .ok (.if_icmp .ne 10, 3) := by decide +kernel
theorem dX16_ended_28 : decode cX16_ended 28 = .ok (.aload_n 0, 1) := by decide +kernel
theorem dX16_ended_29 : decode cX16_ended 29 = .ok (.getfield 739, 3) := by decide +kernel
theorem dX16_ended_32 : decode cX16_ended 32 = .ok (.goto 4, 3) := by decide +kernel
theorem dX16_ended_35 : decode cX16_ended 35 = .ok (.iconst 0, 1) := by decide +kernel
theorem dX16_ended_36 : decode cX16_ended 36 = .ok (.ireturn, 1) := by decide +kernel
theorem dX16_register_0 : decode cX16_register 0 = .ok (.iload_n 1, 1) := by decide +kernel
theorem dX16_register_1 : decode cX16_register 1 = .ok (.ifCond .lt 31, 3) := by decide +kernel
theorem dX16_register_4 : decode cX16_register 4 = .ok (.iload_n 1, 1) := by decide +kernel
theorem dX16_register_5 : decode cX16_register 5 = .ok (.bipush 32, 2) := by decide +kernel
theorem dX16_register_7 : decode cX16_register 7 = .ok (.if_icmp .ge 25, 3) := by decide +kernel
theorem dX16_register_10 : decode cX16_register 10 = .ok (.iload_n 1, 1) := by decide +kernel
theorem dX16_register_11 : decode cX16_register 11 = .ok (.bipush 10, 2) := by decide +kernel
theorem dX16_register_13 : decode cX16_register 13 = .ok (.if_icmp .le 10, 3) := by decide +kernel
theorem dX16_register_16 : decode cX16_register 16 = .ok (.aload_n 0, 1) := by decide +kernel
theorem dX16_register_17 : decode cX16_register 17 = .ok (.getfield 769, 3) := by decide +kernel
theorem dX16_register_20 : decode cX16_register 20 = .ok (.ifCond .eq 12, 3) := by decide +kernel
theorem dX16_register_23 : decode cX16_register 23 = .ok (.aload_n 0, 1) := by decide +kernel
theorem dX16_register_24 : decode cX16_register 24 = .ok (.getfield 62, 3) := by decide +kernel
theorem dX16_register_27 : decode cX16_register 27 = .ok (.iload_n 1, 1) := by decide +kernel
theorem dX16_register_28 : decode cX16_register 28 = .ok (.laload, 1) := by decide +kernel
theorem dX16_register_29 : decode cX16_register 29 = .ok (.goto 4, 3) := by decide +kernel
theorem dX16_register_32 : decode cX16_register 32 = .ok (.lconst 0, 1) := by decide +kernel
theorem dX16_register_33 : decode cX16_register 33 = .ok (.lreturn, 1) := by decide +kernel
theorem dX16_stack_0 : decode cX16_stack 0 = .ok (.iload_n 1, 1) := by decide +kernel
theorem dX16_stack_1 : decode cX16_stack 1 = .ok (.ifCond .lt 18, 3) := by decide +kernel
theorem dX16_stack_4 : decode cX16_stack 4 = .ok (.iload_n 1, 1) := by decide +kernel
theorem dX16_stack_5 : decode cX16_stack 5 = .ok (.bipush 64, 2) := by decide +kernel
theorem dX16_stack_7 : decode cX16_stack 7 = .ok (.if_icmp .ge 12, 3) := by decide +kernel
theorem dX16_stack_10 : decode cX16_stack 10 = .ok (.aload_n 0, 1) := by decide +kernel
theorem dX16_stack_11 : decode cX16_stack 11 = .ok (.getfield 65, 3) := by decide +kernel
theorem dX16_stack_14 : decode cX16_stack 14 = .ok (.iload_n 1, 1) := by decide +kernel
theorem dX16_stack_15 : decode cX16_stack 15 = .ok (.iaload, 1) := by decide +kernel
theorem dX16_stack_16 : decode cX16_stack 16 = .ok (.goto 4, 3) := by decide +kernel
theorem dX16_stack_19 : decode cX16_stack 19 = .ok (.iconst (-1), 1) := by decide +kernel
theorem dX16_stack_20 : decode cX16_stack 20 = .ok (.ireturn, 1) := by decide +kernel
theorem dX16_verify_0 : decode cX16_verify 0 = .ok (.aload_n 0, 1) := by decide +kernel
theorem dX16_verify_1 : decode cX16_verify 1 = .ok (.getfield 672, 3) := by decide +kernel
theorem dX16_verify_4 : decode cX16_verify 4 = .ok (.ifCond .eq 10, 3) := by decide +kernel
theorem dX16_verify_7 : decode cX16_verify 7 = .ok (.aload_n 0, 1) := by decide +kernel
theorem dX16_verify_8 : decode cX16_verify 8 = .ok (.invokevirtual 928, 3) := by decide +kernel
theorem dX16_verify_11 : decode cX16_verify 11 = .ok (.goto 4, 3) := by decide +kernel
theorem dX16_verify_14 : decode cX16_verify 14 = .ok (.iconst (-1), 1) := by decide +kernel
theorem dX16_verify_15 : decode cX16_verify 15 = .ok (.ireturn, 1) := by decide +kernel
theorem dX16_known_0 : decode cX16_known 0 = .ok (.iload_n 1, 1) := by decide +kernel
theorem dX16_known_1 : decode cX16_known 1 = .ok (.ifCond .lt 54, 3) := by decide +kernel
theorem dX16_known_4 : decode cX16_known 4 = .ok (.iload_n 1, 1) := by decide +kernel
theorem dX16_known_5 : decode cX16_known 5 = .ok (.aload_n 0, 1) := by decide +kernel
theorem dX16_known_6 : decode cX16_known 6 = .ok (.getfield 91, 3) := by decide +kernel
theorem dX16_known_9 : decode cX16_known 9 = .ok (.if_icmp .gt 46, 3) := by decide +kernel
theorem dX16_known_12 : decode cX16_known 12 = .ok (.aload_n 0, 1) := by decide +kernel
theorem dX16_known_13 : decode cX16_known 13 = .ok (.getfield 87, 3) := by decide +kernel
theorem dX16_known_16 : decode cX16_known 16 = .ok (.iload_n 1, 1) := by decide +kernel
theorem dX16_known_17 : decode cX16_known 17 = .ok (.baload, 1) := by decide +kernel
theorem dX16_known_18 : decode cX16_known 18 = .ok (.ifCond .eq 37, 3) := by decide +kernel
theorem dX16_known_21 : decode cX16_known 21 = .ok (.iload_n 2, 1) := by decide +kernel
theorem dX16_known_22 : decode cX16_known 22 = .ok (.ifCond .lt 33, 3) := by decide +kernel
theorem dX16_known_25 : decode cX16_known 25 = .ok (.iload_n 2, 1) := by decide +kernel
theorem dX16_known_26 : decode cX16_known 26 = .ok (.bipush 11, 2) := by decide +kernel
theorem dX16_known_28 : decode cX16_known 28 = .ok (.if_icmp .gt 27, 3) := by decide +kernel
theorem dX16_known_31 : decode cX16_known 31 = .ok (.iload_n 3, 1) := by decide +kernel
theorem dX16_known_32 : decode cX16_known 32 = .ok (.ifCond .lt 23, 3) := by decide +kernel
theorem dX16_known_35 : decode cX16_known 35 = .ok (.iload_n 3, 1) := by decide +kernel
theorem dX16_known_36 : decode cX16_known 36 = .ok (.iload_n 2, 1) := by decide +kernel
theorem dX16_known_37 : decode cX16_known 37 = .ok (.bipush 11, 2) := by decide +kernel
theorem dX16_known_39 : decode cX16_known 39 = .ok (.if_icmp .ne 8, 3) := by decide +kernel
theorem dX16_known_42 : decode cX16_known 42 = .ok (.bipush 63, 2) := by decide +kernel
theorem dX16_known_44 : decode cX16_known 44 = .ok (.goto 4, 3) := by decide +kernel
theorem dX16_known_47 : decode cX16_known 47 = .ok (.iconst 4, 1) := by decide +kernel
theorem dX16_known_48 : decode cX16_known 48 = .ok (.if_icmp .gt 7, 3) := by decide +kernel
theorem dX16_known_51 : decode cX16_known 51 = .ok (.iconst 1, 1) := by decide +kernel
theorem dX16_known_52 : decode cX16_known 52 = .ok (.goto 4, 3) := by decide +kernel
theorem dX16_known_55 : decode cX16_known 55 = .ok (.iconst 0, 1) := by decide +kernel
theorem dX16_known_56 : decode cX16_known 56 = .ok (.istore 4, 2) := by decide +kernel
theorem dX16_known_58 : decode cX16_known 58 = .ok (.iload 4, 2) := by decide +kernel
theorem dX16_known_60 : decode cX16_known 60 = .ok (.ifCond .ne 15, 3) := by decide +kernel
theorem dX16_known_63 : decode cX16_known 63 = .ok (.iload_n 3, 1) := by decide +kernel
theorem dX16_known_64 : decode cX16_known 64 = .ok (.ifCond .ne 9, 3) := by decide +kernel
theorem dX16_known_67 : decode cX16_known 67 = .ok (.ldc2_w 158, 3) := by decide +kernel
theorem dX16_known_70 : decode cX16_known 70 = .ok (.goto 4, 3) := by decide +kernel
theorem dX16_known_73 : decode cX16_known 73 = .ok (.lconst 0, 1) := by decide +kernel
theorem dX16_known_74 : decode cX16_known 74 = .ok (.lreturn, 1) := by decide +kernel
theorem dX16_known_75 : decode cX16_known 75 = .ok (.iload_n 2, 1) := by decide +kernel
theorem dX16_known_76 : decode cX16_known 76 = .ok (.bipush 11, 2) := by decide +kernel
theorem dX16_known_78 : decode cX16_known 78 = .ok (.if_icmp .ne 14, 3) := by decide +kernel
theorem dX16_known_81 : decode cX16_known 81 = .ok (.aload_n 0, 1) := by decide +kernel
theorem dX16_known_82 : decode cX16_known 82 = .ok (.getfield 84, 3) := by decide +kernel
theorem dX16_known_85 : decode cX16_known 85 = .ok (.iload_n 1, 1) := by decide +kernel
theorem dX16_known_86 : decode cX16_known 86 = .ok (.laload, 1) := by decide +kernel
theorem dX16_known_87 : decode cX16_known 87 = .ok (.iload_n 3, 1) := by decide +kernel
theorem dX16_known_88 : decode cX16_known 88 = .ok (.lshr, 1) := by decide +kernel
theorem dX16_known_89 : decode cX16_known 89 = .ok (.lconst 1, 1) := by decide +kernel
theorem dX16_known_90 : decode cX16_known 90 = .ok (.land, 1) := by decide +kernel
theorem dX16_known_91 : decode cX16_known 91 = .ok (.lreturn, 1) := by decide +kernel
theorem dX16_known_92 : decode cX16_known 92 = .ok (.bipush 11, 2) := by decide +kernel
theorem dX16_known_94 : decode cX16_known 94 = .ok (.iload_n 1, 1) := by decide +kernel
theorem dX16_known_95 : decode cX16_known 95 = .ok (.imul, 1) := by decide +kernel
theorem dX16_known_96 : decode cX16_known 96 = .ok (.iload_n 2, 1) := by decide +kernel
theorem dX16_known_97 : decode cX16_known 97 = .ok (.iadd, 1) := by decide +kernel
theorem dX16_known_98 : decode cX16_known 98 = .ok (.istore 5, 2) := by decide +kernel
theorem dX16_known_100 : decode cX16_known 100 = .ok (.iload_n 3, 1) := by decide +kernel
theorem dX16_known_101 : decode cX16_known 101 = .ok (.tableswitch 64 0 3 #[31, 40, 48, 56], 31) := by decide +kernel
theorem dX16_known_132 : decode cX16_known 132 = .ok (.aload_n 0, 1) := by decide +kernel
theorem dX16_known_133 : decode cX16_known 133 = .ok (.getfield 69, 3) := by decide +kernel
theorem dX16_known_136 : decode cX16_known 136 = .ok (.iload 5, 2) := by decide +kernel
theorem dX16_known_138 : decode cX16_known 138 = .ok (.iaload, 1) := by decide +kernel
theorem dX16_known_139 : decode cX16_known 139 = .ok (.i2l, 1) := by decide +kernel
theorem dX16_known_140 : decode cX16_known 140 = .ok (.lreturn, 1) := by decide +kernel
theorem dX16_known_141 : decode cX16_known 141 = .ok (.aload_n 0, 1) := by decide +kernel
theorem dX16_known_142 : decode cX16_known 142 = .ok (.getfield 72, 3) := by decide +kernel
theorem dX16_known_145 : decode cX16_known 145 = .ok (.iload 5, 2) := by decide +kernel
theorem dX16_known_147 : decode cX16_known 147 = .ok (.laload, 1) := by decide +kernel
theorem dX16_known_148 : decode cX16_known 148 = .ok (.lreturn, 1) := by decide +kernel
theorem dX16_known_149 : decode cX16_known 149 = .ok (.aload_n 0, 1) := by decide +kernel
theorem dX16_known_150 : decode cX16_known 150 = .ok (.getfield 75, 3) := by decide +kernel
theorem dX16_known_153 : decode cX16_known 153 = .ok (.iload 5, 2) := by decide +kernel
theorem dX16_known_155 : decode cX16_known 155 = .ok (.laload, 1) := by decide +kernel
theorem dX16_known_156 : decode cX16_known 156 = .ok (.lreturn, 1) := by decide +kernel
theorem dX16_known_157 : decode cX16_known 157 = .ok (.aload_n 0, 1) := by decide +kernel
theorem dX16_known_158 : decode cX16_known 158 = .ok (.getfield 78, 3) := by decide +kernel
theorem dX16_known_161 : decode cX16_known 161 = .ok (.iload 5, 2) := by decide +kernel
theorem dX16_known_163 : decode cX16_known 163 = .ok (.laload, 1) := by decide +kernel
theorem dX16_known_164 : decode cX16_known 164 = .ok (.lreturn, 1) := by decide +kernel
theorem dX16_known_165 : decode cX16_known 165 = .ok (.aload_n 0, 1) := by decide +kernel
theorem dX16_known_166 : decode cX16_known 166 = .ok (.getfield 81, 3) := by decide +kernel
theorem dX16_known_169 : decode cX16_known 169 = .ok (.iload 5, 2) := by decide +kernel
theorem dX16_known_171 : decode cX16_known 171 = .ok (.laload, 1) := by decide +kernel
theorem dX16_known_172 : decode cX16_known 172 = .ok (.lreturn, 1) := by decide +kernel
theorem dX16_translate_0 : decode cX16_translate 0 = .ok (.aload_n 0, 1) := by decide +kernel
theorem dX16_translate_1 : decode cX16_translate 1 = .ok (.getfield 672, 3) := by decide +kernel
theorem dX16_translate_4 : decode cX16_translate 4 = .ok (.ifCond .ne 5, 3) := by decide +kernel
theorem dX16_translate_7 : decode cX16_translate 7 = .ok (.iconst (-1), 1) := by decide +kernel
theorem dX16_translate_8 : decode cX16_translate 8 = .ok (.ireturn, 1) := by decide +kernel
theorem dX16_translate_9 : decode cX16_translate 9 = .ok (.aload_n 0, 1) := by decide +kernel
theorem dX16_translate_10 : decode cX16_translate 10 = .ok (.invokevirtual 999, 3) := by decide +kernel
theorem dX16_translate_13 : decode cX16_translate 13 = .ok (.aload_n 0, 1) := by decide +kernel
theorem dX16_translate_14 : decode cX16_translate 14 = .ok (.invokevirtual 928, 3) := by decide +kernel
theorem dX16_translate_17 : decode cX16_translate 17 = .ok (.istore_n 1, 1) := by decide +kernel
theorem dX16_translate_18 : decode cX16_translate 18 = .ok (.aload_n 0, 1) := by decide +kernel
theorem dX16_translate_19 : decode cX16_translate 19 = .ok (.invokevirtual 999, 3) := by decide +kernel
theorem dX16_translate_22 : decode cX16_translate 22 = .ok (.iload_n 1, 1) := by decide +kernel
theorem dX16_translate_23 : decode cX16_translate 23 = .ok (.ifCond .eq 5, 3) := by decide +kernel
theorem dX16_translate_26 : decode cX16_translate 26 = .ok (.iconst (-1), 1) := by decide +kernel
theorem dX16_translate_27 : decode cX16_translate 27 = .ok (.ireturn, 1) := by decide +kernel
theorem dX16_translate_28 : decode cX16_translate 28 = .ok (.aload_n 0, 1) := by decide +kernel
theorem dX16_translate_29 : decode cX16_translate 29 = .ok (.getfield 49, 3) := by decide +kernel
theorem dX16_translate_32 : decode cX16_translate 32 = .ok (.arraylength, 1) := by decide +kernel
theorem dX16_translate_33 : decode cX16_translate 33 = .ok (.istore_n 2, 1) := by decide +kernel
theorem dX16_translate_34 : decode cX16_translate 34 = .ok (.aload_n 0, 1) := by decide +kernel
theorem dX16_translate_35 : decode cX16_translate 35 = .ok (.iconst 0, 1) := by decide +kernel
theorem dX16_translate_36 : decode cX16_translate 36 = .ok (.putfield 931, 3) := by decide +kernel
theorem dX16_translate_39 : decode cX16_translate 39 = .ok (.iconst 0, 1) := by decide +kernel
theorem dX16_translate_40 : decode cX16_translate 40 = .ok (.istore_n 3, 1) := by decide +kernel
theorem dX16_translate_41 : decode cX16_translate 41 = .ok (.iload_n 3, 1) := by decide +kernel
theorem dX16_translate_42 : decode cX16_translate 42 = .ok (.iload_n 2, 1) := by decide +kernel
theorem dX16_translate_43 : decode cX16_translate 43 = .ok (.if_icmp .ge 116, 3) := by decide +kernel
theorem dX16_translate_46 : decode cX16_translate 46 = .ok (.aload_n 0, 1) := by decide +kernel
theorem dX16_translate_47 : decode cX16_translate 47 = .ok (.getfield 141, 3) := by decide +kernel
theorem dX16_translate_50 : decode cX16_translate 50 = .ok (.iload_n 3, 1) := by decide +kernel
theorem dX16_translate_51 : decode cX16_translate 51 = .ok (.aload_n 0, 1) := by decide +kernel
theorem dX16_translate_52 : decode cX16_translate 52 = .ok (.getfield 931, 3) := by decide +kernel
theorem dX16_translate_55 : decode cX16_translate 55 = .ok (.iastore, 1) := by decide +kernel
theorem dX16_translate_56 : decode cX16_translate 56 = .ok (.aload_n 0, 1) := by decide +kernel
theorem dX16_translate_57 : decode cX16_translate 57 = .ok (.getfield 49, 3) := by decide +kernel
theorem dX16_translate_60 : decode cX16_translate 60 = .ok (.iload_n 3, 1) := by decide +kernel
theorem dX16_translate_61 : decode cX16_translate 61 = .ok (.laload, 1) := by decide +kernel
theorem dX16_translate_62 : decode cX16_translate 62 = .ok (.invokestatic 675, 3) := by decide +kernel
theorem dX16_translate_65 : decode cX16_translate 65 = .ok (.invokestatic 679, 3) := by decide +kernel
theorem dX16_translate_68 : decode cX16_translate 68 = .ok (.tableswitch 75 0 4 #[36, 49, 62, 62, 62], 36) := by decide +kernel
theorem dX16_translate_104 : decode cX16_translate 104 = .ok (.aload_n 0, 1) := by decide +kernel
theorem dX16_translate_105 : decode cX16_translate 105 = .ok (.aload_n 0, 1) := by decide +kernel
theorem dX16_translate_106 : decode cX16_translate 106 = .ok (.getfield 49, 3) := by decide +kernel
theorem dX16_translate_109 : decode cX16_translate 109 = .ok (.iload_n 3, 1) := by decide +kernel
theorem dX16_translate_110 : decode cX16_translate 110 = .ok (.laload, 1) := by decide +kernel
theorem dX16_translate_111 : decode cX16_translate 111 = .ok (.invokevirtual 1002, 3) := by decide +kernel
theorem dX16_translate_114 : decode cX16_translate 114 = .ok (.goto 39, 3) := by decide +kernel
theorem dX16_translate_117 : decode cX16_translate 117 = .ok (.aload_n 0, 1) := by decide +kernel
theorem dX16_translate_118 : decode cX16_translate 118 = .ok (.aload_n 0, 1) := by decide +kernel
theorem dX16_translate_119 : decode cX16_translate 119 = .ok (.getfield 49, 3) := by decide +kernel
theorem dX16_translate_122 : decode cX16_translate 122 = .ok (.iload_n 3, 1) := by decide +kernel
theorem dX16_translate_123 : decode cX16_translate 123 = .ok (.laload, 1) := by decide +kernel
theorem dX16_translate_124 : decode cX16_translate 124 = .ok (.invokevirtual 1005, 3) := by decide +kernel
theorem dX16_translate_127 : decode cX16_translate 127 = .ok (.goto 26, 3) := by decide +kernel
theorem dX16_translate_130 : decode cX16_translate 130 = .ok (.aload_n 0, 1) := by decide +kernel
theorem dX16_translate_131 : decode cX16_translate 131 = .ok (.aload_n 0, 1) := by decide +kernel
theorem dX16_translate_132 : decode cX16_translate 132 = .ok (.getfield 49, 3) := by decide +kernel
theorem dX16_translate_135 : decode cX16_translate 135 = .ok (.iload_n 3, 1) := by decide +kernel
theorem dX16_translate_136 : decode cX16_translate 136 = .ok (.laload, 1) := by decide +kernel
theorem dX16_translate_137 : decode cX16_translate 137 = .ok (.invokevirtual 1008, 3) := by decide +kernel
theorem dX16_translate_140 : decode cX16_translate 140 = .ok (.goto 13, 3) := by decide +kernel
theorem dX16_translate_143 : decode cX16_translate 143 = .ok (.aload_n 0, 1) := by decide +kernel
theorem dX16_translate_144 : decode cX16_translate 144 = .ok (.aload_n 0, 1) := by decide +kernel
theorem dX16_translate_145 : decode cX16_translate 145 = .ok (.getfield 49, 3) := by decide +kernel
theorem dX16_translate_148 : decode cX16_translate 148 = .ok (.iload_n 3, 1) := by decide +kernel
theorem dX16_translate_149 : decode cX16_translate 149 = .ok (.laload, 1) := by decide +kernel
theorem dX16_translate_150 : decode cX16_translate 150 = .ok (.invokevirtual 1011, 3) := by decide +kernel
theorem dX16_translate_153 : decode cX16_translate 153 = .ok (.iinc 3 1, 3) := by decide +kernel
theorem dX16_translate_156 : decode cX16_translate 156 = .ok (.goto (-115), 3) := by decide +kernel
theorem dX16_translate_159 : decode cX16_translate 159 = .ok (.iconst 0, 1) := by decide +kernel
theorem dX16_translate_160 : decode cX16_translate 160 = .ok (.istore_n 3, 1) := by decide +kernel
theorem dX16_translate_161 : decode cX16_translate 161 = .ok (.iload_n 3, 1) := by decide +kernel
theorem dX16_translate_162 : decode cX16_translate 162 = .ok (.iload_n 2, 1) := by decide +kernel
theorem dX16_translate_163 : decode cX16_translate 163 = .ok (.if_icmp .ge 96, 3) := by decide +kernel
theorem dX16_translate_166 : decode cX16_translate 166 = .ok (.aload_n 0, 1) := by decide +kernel
theorem dX16_translate_167 : decode cX16_translate 167 = .ok (.getfield 49, 3) := by decide +kernel
theorem dX16_translate_170 : decode cX16_translate 170 = .ok (.iload_n 3, 1) := by decide +kernel
theorem dX16_translate_171 : decode cX16_translate 171 = .ok (.laload, 1) := by decide +kernel
theorem dX16_translate_172 : decode cX16_translate 172 = .ok (.invokestatic 675, 3) := by decide +kernel
theorem dX16_translate_175 : decode cX16_translate 175 = .ok (.istore 4, 2) := by decide +kernel
theorem dX16_translate_177 : decode cX16_translate 177 = .ok (.iload 4, 2) := by decide +kernel
theorem dX16_translate_179 : decode cX16_translate 179 = .ok (.invokestatic 679, 3) := by decide +kernel
theorem dX16_translate_182 : decode cX16_translate 182 = .ok (.iconst 1, 1) := by decide +kernel
theorem dX16_translate_183 : decode cX16_translate 183 = .ok (.if_icmp .ne 70, 3) := by decide +kernel
theorem dX16_translate_186 : decode cX16_translate 186 = .ok (.iload 4, 2) := by decide +kernel
theorem dX16_translate_188 : decode cX16_translate 188 = .ok (.invokestatic 688, 3) := by decide +kernel
theorem dX16_translate_191 : decode cX16_translate 191 = .ok (.ifCond .ne 62, 3) := by decide +kernel
theorem dX16_translate_194 : decode cX16_translate 194 = .ok (.iload_n 3, 1) := by decide +kernel
theorem dX16_translate_195 : decode cX16_translate 195 = .ok (.iconst 1, 1) := by decide +kernel
theorem dX16_translate_196 : decode cX16_translate 196 = .ok (.iadd, 1) := by decide +kernel
theorem dX16_translate_197 : decode cX16_translate 197 = .ok (.iload_n 2, 1) := by decide +kernel
theorem dX16_translate_198 : decode cX16_translate 198 = .ok (.if_icmp .ge 14, 3) := by decide +kernel
theorem dX16_translate_201 : decode cX16_translate 201 = .ok (.aload_n 0, 1) := by decide +kernel
theorem dX16_translate_202 : decode cX16_translate 202 = .ok (.getfield 141, 3) := by decide +kernel
theorem dX16_translate_205 : decode cX16_translate 205 = .ok (.iload_n 3, 1) := by decide +kernel
theorem dX16_translate_206 : decode cX16_translate 206 = .ok (.iconst 1, 1) := by decide +kernel
theorem dX16_translate_207 : decode cX16_translate 207 = .ok (.iadd, 1) := by decide +kernel
theorem dX16_translate_208 : decode cX16_translate 208 = .ok (.iaload, 1) := by decide +kernel
theorem dX16_translate_209 : decode cX16_translate 209 = .ok (.goto 7, 3) := by decide +kernel
theorem dX16_translate_212 : decode cX16_translate 212 = .ok (.aload_n 0, 1) := by decide +kernel
theorem dX16_translate_213 : decode cX16_translate 213 = .ok (.getfield 931, 3) := by decide +kernel
theorem dX16_translate_216 : decode cX16_translate 216 = .ok (.iconst 1, 1) := by decide +kernel
theorem dX16_translate_217 : decode cX16_translate 217 = .ok (.isub, 1) := by decide +kernel
theorem dX16_translate_218 : decode cX16_translate 218 = .ok (.istore 5, 2) := by decide +kernel
theorem dX16_translate_220 : decode cX16_translate 220 = .ok (.aload_n 0, 1) := by decide +kernel
theorem dX16_translate_221 : decode cX16_translate 221 = .ok (.getfield 138, 3) := by decide +kernel
theorem dX16_translate_224 : decode cX16_translate 224 = .ok (.iload 5, 2) := by decide +kernel
theorem dX16_translate_226 : decode cX16_translate 226 = .ok (.iconst 4, 1) := by decide +kernel
theorem dX16_translate_227 : decode cX16_translate 227 = .ok (.aload_n 0, 1) := by decide +kernel
theorem dX16_translate_228 : decode cX16_translate 228 = .ok (.getfield 141, 3) := by decide +kernel
theorem dX16_translate_231 : decode cX16_translate 231 = .ok (.iload_n 3, 1) := by decide +kernel
theorem dX16_translate_232 : decode cX16_translate 232 = .ok (.iconst 1, 1) := by decide +kernel
theorem dX16_translate_233 : decode cX16_translate 233 = .ok (.iadd, 1) := by decide +kernel
theorem dX16_translate_234 : decode cX16_translate 234 = .ok (.aload_n 0, 1) := by decide +kernel
theorem dX16_translate_235 : decode cX16_translate 235 = .ok (.getfield 49, 3) := by decide +kernel
theorem dX16_translate_238 : decode cX16_translate 238 = .ok (.iload_n 3, 1) := by decide +kernel
theorem dX16_translate_239 : decode cX16_translate 239 = .ok (.laload, 1) := by decide +kernel
theorem dX16_translate_240 : decode cX16_translate 240 = .ok (.invokestatic 697, 3) := by decide +kernel
theorem dX16_translate_243 : decode cX16_translate 243 = .ok (.iadd, 1) := by decide +kernel
theorem dX16_translate_244 : decode cX16_translate 244 = .ok (.iaload, 1) := by decide +kernel
theorem dX16_translate_245 : decode cX16_translate 245 = .ok (.iload 5, 2) := by decide +kernel
theorem dX16_translate_247 : decode cX16_translate 247 = .ok (.isub, 1) := by decide +kernel
theorem dX16_translate_248 : decode cX16_translate 248 = .ok (.imul, 1) := by decide +kernel
theorem dX16_translate_249 : decode cX16_translate 249 = .ok (.invokestatic 983, 3) := by decide +kernel
theorem dX16_translate_252 : decode cX16_translate 252 = .ok (.iastore, 1) := by decide +kernel
theorem dX16_translate_253 : decode cX16_translate 253 = .ok (.iinc 3 1, 3) := by decide +kernel
theorem dX16_translate_256 : decode cX16_translate 256 = .ok (.goto (-95), 3) := by decide +kernel
theorem dX16_translate_259 : decode cX16_translate 259 = .ok (.aload_n 0, 1) := by decide +kernel
theorem dX16_translate_260 : decode cX16_translate 260 = .ok (.aload_n 0, 1) := by decide +kernel
theorem dX16_translate_261 : decode cX16_translate 261 = .ok (.getfield 931, 3) := by decide +kernel
theorem dX16_translate_264 : decode cX16_translate 264 = .ok (.invokevirtual 1014, 3) := by decide +kernel
theorem dX16_translate_267 : decode cX16_translate 267 = .ok (.aload_n 0, 1) := by decide +kernel
theorem dX16_translate_268 : decode cX16_translate 268 = .ok (.getfield 931, 3) := by decide +kernel
theorem dX16_translate_271 : decode cX16_translate 271 = .ok (.ireturn, 1) := by decide +kernel
theorem dX16_raw_0 : decode cX16_raw 0 = .ok (.aload_n 0, 1) := by decide +kernel
theorem dX16_raw_1 : decode cX16_raw 1 = .ok (.getfield 144, 3) := by decide +kernel
theorem dX16_raw_4 : decode cX16_raw 4 = .ok (.istore_n 1, 1) := by decide +kernel
theorem dX16_raw_5 : decode cX16_raw 5 = .ok (.aload_n 0, 1) := by decide +kernel
theorem dX16_raw_6 : decode cX16_raw 6 = .ok (.iconst 0, 1) := by decide +kernel
theorem dX16_raw_7 : decode cX16_raw 7 = .ok (.putfield 144, 3) := by decide +kernel
theorem dX16_raw_10 : decode cX16_raw 10 = .ok (.iload_n 1, 1) := by decide +kernel
theorem dX16_raw_11 : decode cX16_raw 11 = .ok (.ifCond .eq 9, 3) := by decide +kernel
theorem dX16_raw_14 : decode cX16_raw 14 = .ok (.iload_n 1, 1) := by decide +kernel
theorem dX16_raw_15 : decode cX16_raw 15 = .ok (.iconst 4, 1) := by decide +kernel
theorem dX16_raw_16 : decode cX16_raw 16 = .ok (.irem, 1) := by decide +kernel
theorem dX16_raw_17 : decode cX16_raw 17 = .ok (.ifCond .eq 5, 3) := by decide +kernel
theorem dX16_raw_20 : decode cX16_raw 20 = .ok (.iconst (-1), 1) := by decide +kernel
theorem dX16_raw_21 : decode cX16_raw 21 = .ok (.ireturn, 1) := by decide +kernel
theorem dX16_raw_22 : decode cX16_raw 22 = .ok (.iconst 0, 1) := by decide +kernel
theorem dX16_raw_23 : decode cX16_raw 23 = .ok (.istore_n 2, 1) := by decide +kernel
theorem dX16_raw_24 : decode cX16_raw 24 = .ok (.iload_n 2, 1) := by decide +kernel
theorem dX16_raw_25 : decode cX16_raw 25 = .ok (.iload_n 1, 1) := by decide +kernel
theorem dX16_raw_26 : decode cX16_raw 26 = .ok (.if_icmp .ge 49, 3) := by decide +kernel
theorem dX16_raw_29 : decode cX16_raw 29 = .ok (.aload_n 0, 1) := by decide +kernel
theorem dX16_raw_30 : decode cX16_raw 30 = .ok (.getfield 135, 3) := by decide +kernel
theorem dX16_raw_33 : decode cX16_raw 33 = .ok (.iload_n 2, 1) := by decide +kernel
theorem dX16_raw_34 : decode cX16_raw 34 = .ok (.iconst 4, 1) := by decide +kernel
theorem dX16_raw_35 : decode cX16_raw 35 = .ok (.idiv, 1) := by decide +kernel
theorem dX16_raw_36 : decode cX16_raw 36 = .ok (.iload_n 2, 1) := by decide +kernel
theorem dX16_raw_37 : decode cX16_raw 37 = .ok (.iconst 4, 1) := by decide +kernel
theorem dX16_raw_38 : decode cX16_raw 38 = .ok (.irem, 1) := by decide +kernel
theorem dX16_raw_39 : decode cX16_raw 39 = .ok (.ifCond .ne 7, 3) := by decide +kernel
theorem dX16_raw_42 : decode cX16_raw 42 = .ok (.iconst 0, 1) := by decide +kernel
theorem dX16_raw_43 : decode cX16_raw 43 = .ok (.goto 11, 3) := by decide +kernel
theorem dX16_raw_46 : decode cX16_raw 46 = .ok (.aload_n 0, 1) := by decide +kernel
theorem dX16_raw_47 : decode cX16_raw 47 = .ok (.getfield 135, 3) := by decide +kernel
theorem dX16_raw_50 : decode cX16_raw 50 = .ok (.iload_n 2, 1) := by decide +kernel
theorem dX16_raw_51 : decode cX16_raw 51 = .ok (.iconst 4, 1) := by decide +kernel
theorem dX16_raw_52 : decode cX16_raw 52 = .ok (.idiv, 1) := by decide +kernel
theorem dX16_raw_53 : decode cX16_raw 53 = .ok (.iaload, 1) := by decide +kernel
theorem dX16_raw_54 : decode cX16_raw 54 = .ok (.aload_n 0, 1) := by decide +kernel
theorem dX16_raw_55 : decode cX16_raw 55 = .ok (.getfield 9, 3) := by decide +kernel
theorem dX16_raw_58 : decode cX16_raw 58 = .ok (.iload_n 2, 1) := by decide +kernel
theorem dX16_raw_59 : decode cX16_raw 59 = .ok (.iaload, 1) := by decide +kernel
theorem dX16_raw_60 : decode cX16_raw 60 = .ok (.bipush 8, 2) := by decide +kernel
theorem dX16_raw_62 : decode cX16_raw 62 = .ok (.iload_n 2, 1) := by decide +kernel
theorem dX16_raw_63 : decode cX16_raw 63 = .ok (.iconst 4, 1) := by decide +kernel
theorem dX16_raw_64 : decode cX16_raw 64 = .ok (.irem, 1) := by decide +kernel
theorem dX16_raw_65 : decode cX16_raw 65 = .ok (.imul, 1) := by decide +kernel
theorem dX16_raw_66 : decode cX16_raw 66 = .ok (.ishl, 1) := by decide +kernel
theorem dX16_raw_67 : decode cX16_raw 67 = .ok (.ior, 1) := by decide +kernel
theorem dX16_raw_68 : decode cX16_raw 68 = .ok (.iastore, 1) := by decide +kernel
theorem dX16_raw_69 : decode cX16_raw 69 = .ok (.iinc 2 1, 3) := by decide +kernel
theorem dX16_raw_72 : decode cX16_raw 72 = .ok (.goto (-48), 3) := by decide +kernel
theorem dX16_raw_75 : decode cX16_raw 75 = .ok (.aload_n 0, 1) := by decide +kernel
theorem dX16_raw_76 : decode cX16_raw 76 = .ok (.iload_n 1, 1) := by decide +kernel
theorem dX16_raw_77 : decode cX16_raw 77 = .ok (.iconst 4, 1) := by decide +kernel
theorem dX16_raw_78 : decode cX16_raw 78 = .ok (.idiv, 1) := by decide +kernel
theorem dX16_raw_79 : decode cX16_raw 79 = .ok (.putfield 1017, 3) := by decide +kernel
theorem dX16_raw_82 : decode cX16_raw 82 = .ok (.aload_n 0, 1) := by decide +kernel
theorem dX16_raw_83 : decode cX16_raw 83 = .ok (.iconst 1, 1) := by decide +kernel
theorem dX16_raw_84 : decode cX16_raw 84 = .ok (.putfield 1020, 3) := by decide +kernel
theorem dX16_raw_87 : decode cX16_raw 87 = .ok (.iload_n 1, 1) := by decide +kernel
theorem dX16_raw_88 : decode cX16_raw 88 = .ok (.iconst 4, 1) := by decide +kernel
theorem dX16_raw_89 : decode cX16_raw 89 = .ok (.idiv, 1) := by decide +kernel
theorem dX16_raw_90 : decode cX16_raw 90 = .ok (.ireturn, 1) := by decide +kernel
theorem dX16_word_0 : decode cX16_word 0 = .ok (.iload_n 1, 1) := by decide +kernel
theorem dX16_word_1 : decode cX16_word 1 = .ok (.ifCond .lt 20, 3) := by decide +kernel
theorem dX16_word_4 : decode cX16_word 4 = .ok (.iload_n 1, 1) := by decide +kernel
theorem dX16_word_5 : decode cX16_word 5 = .ok (.aload_n 0, 1) := by decide +kernel
theorem dX16_word_6 : decode cX16_word 6 = .ok (.getfield 1017, 3) := by decide +kernel
theorem dX16_word_9 : decode cX16_word 9 = .ok (.if_icmp .ge 12, 3) := by decide +kernel
theorem dX16_word_12 : decode cX16_word 12 = .ok (.aload_n 0, 1) := by decide +kernel
theorem dX16_word_13 : decode cX16_word 13 = .ok (.getfield 135, 3) := by decide +kernel
theorem dX16_word_16 : decode cX16_word 16 = .ok (.iload_n 1, 1) := by decide +kernel
theorem dX16_word_17 : decode cX16_word 17 = .ok (.iaload, 1) := by decide +kernel
theorem dX16_word_18 : decode cX16_word 18 = .ok (.goto 4, 3) := by decide +kernel
theorem dX16_word_21 : decode cX16_word 21 = .ok (.iconst 0, 1) := by decide +kernel
theorem dX16_word_22 : decode cX16_word 22 = .ok (.ireturn, 1) := by decide +kernel
theorem dX16_emulate_0 : decode cX16_emulate 0 = .ok (.aload_n 0, 1) := by decide +kernel
theorem dX16_emulate_1 : decode cX16_emulate 1 = .ok (.getfield 1020, 3) := by decide +kernel
theorem dX16_emulate_4 : decode cX16_emulate 4 = .ok (.ifCond .eq 11, 3) := by decide +kernel
theorem dX16_emulate_7 : decode cX16_emulate 7 = .ok (.aload_n 0, 1) := by decide +kernel
theorem dX16_emulate_8 : decode cX16_emulate 8 = .ok (.iload_n 1, 1) := by decide +kernel
theorem dX16_emulate_9 : decode cX16_emulate 9 = .ok (.invokevirtual 154, 3) := by decide +kernel
theorem dX16_emulate_12 : decode cX16_emulate 12 = .ok (.ifCond .ne 5, 3) := by decide +kernel
theorem dX16_emulate_15 : decode cX16_emulate 15 = .ok (.lconst 0, 1) := by decide +kernel
theorem dX16_emulate_16 : decode cX16_emulate 16 = .ok (.lreturn, 1) := by decide +kernel
theorem dX16_emulate_17 : decode cX16_emulate 17 = .ok (.aload_n 0, 1) := by decide +kernel
theorem dX16_emulate_18 : decode cX16_emulate 18 = .ok (.invokevirtual 766, 3) := by decide +kernel
theorem dX16_emulate_21 : decode cX16_emulate 21 = .ok (.aload_n 0, 1) := by decide +kernel
theorem dX16_emulate_22 : decode cX16_emulate 22 = .ok (.iconst 1, 1) := by decide +kernel
theorem dX16_emulate_23 : decode cX16_emulate 23 = .ok (.putfield 769, 3) := by decide +kernel
theorem dX16_emulate_26 : decode cX16_emulate 26 = .ok (.aload_n 0, 1) := by decide +kernel
theorem dX16_emulate_27 : decode cX16_emulate 27 = .ok (.getfield 62, 3) := by decide +kernel
theorem dX16_emulate_30 : decode cX16_emulate 30 = .ok (.bipush 8, 2) := by decide +kernel
theorem dX16_emulate_32 : decode cX16_emulate 32 = .ok (.ldc2_w 1023, 3) := by decide +kernel
theorem dX16_emulate_35 : decode cX16_emulate 35 = .ok (.lastore, 1) := by decide +kernel
theorem dX16_emulate_36 : decode cX16_emulate 36 = .ok (.aload_n 0, 1) := by decide +kernel
theorem dX16_emulate_37 : decode cX16_emulate 37 = .ok (.getfield 62, 3) := by decide +kernel
theorem dX16_emulate_40 : decode cX16_emulate 40 = .ok (.bipush 9, 2) := by decide +kernel
theorem dX16_emulate_42 : decode cX16_emulate 42 = .ok (.aload_n 0, 1) := by decide +kernel
theorem dX16_emulate_43 : decode cX16_emulate 43 = .ok (.getfield 16, 3) := by decide +kernel
theorem dX16_emulate_46 : decode cX16_emulate 46 = .ok (.iload_n 1, 1) := by decide +kernel
theorem dX16_emulate_47 : decode cX16_emulate 47 = .ok (.iaload, 1) := by decide +kernel
theorem dX16_emulate_48 : decode cX16_emulate 48 = .ok (.i2l, 1) := by decide +kernel
theorem dX16_emulate_49 : decode cX16_emulate 49 = .ok (.lastore, 1) := by decide +kernel
theorem dX16_emulate_50 : decode cX16_emulate 50 = .ok (.aload_n 0, 1) := by decide +kernel
theorem dX16_emulate_51 : decode cX16_emulate 51 = .ok (.getfield 62, 3) := by decide +kernel
theorem dX16_emulate_54 : decode cX16_emulate 54 = .ok (.bipush 11, 2) := by decide +kernel
theorem dX16_emulate_56 : decode cX16_emulate 56 = .ok (.aload_n 0, 1) := by decide +kernel
theorem dX16_emulate_57 : decode cX16_emulate 57 = .ok (.getfield 16, 3) := by decide +kernel
theorem dX16_emulate_60 : decode cX16_emulate 60 = .ok (.iload_n 1, 1) := by decide +kernel
theorem dX16_emulate_61 : decode cX16_emulate 61 = .ok (.iaload, 1) := by decide +kernel
theorem dX16_emulate_62 : decode cX16_emulate 62 = .ok (.i2l, 1) := by decide +kernel
theorem dX16_emulate_63 : decode cX16_emulate 63 = .ok (.lastore, 1) := by decide +kernel
theorem dX16_emulate_64 : decode cX16_emulate 64 = .ok (.aload_n 0, 1) := by decide +kernel
theorem dX16_emulate_65 : decode cX16_emulate 65 = .ok (.getfield 62, 3) := by decide +kernel
theorem dX16_emulate_68 : decode cX16_emulate 68 = .ok (.bipush 22, 2) := by decide +kernel
theorem dX16_emulate_70 : decode cX16_emulate 70 = .ok (.ldc2_w 731, 3) := by decide +kernel
theorem dX16_emulate_73 : decode cX16_emulate 73 = .ok (.lastore, 1) := by decide +kernel
theorem dX16_emulate_74 : decode cX16_emulate 74 = .ok (.lconst 0, 1) := by decide +kernel
theorem dX16_emulate_75 : decode cX16_emulate 75 = .ok (.lstore_n 2, 1) := by decide +kernel
theorem dX16_emulate_76 : decode cX16_emulate 76 = .ok (.iconst 0, 1) := by decide +kernel
theorem dX16_emulate_77 : decode cX16_emulate 77 = .ok (.istore 4, 2) := by decide +kernel
theorem dX16_emulate_79 : decode cX16_emulate 79 = .ok (.iload 4, 2) := by decide +kernel
theorem dX16_emulate_81 : decode cX16_emulate 81 = .ok (.ifCond .ne 166, 3) := by decide +kernel
theorem dX16_emulate_84 : decode cX16_emulate 84 = .ok (.aload_n 0, 1) := by decide +kernel
theorem dX16_emulate_85 : decode cX16_emulate 85 = .ok (.lload_n 2, 1) := by decide +kernel
theorem dX16_emulate_86 : decode cX16_emulate 86 = .ok (.ldc2_w 486, 3) := by decide +kernel
theorem dX16_emulate_89 : decode cX16_emulate 89 = .ok (.ldiv, 1) := by decide +kernel
theorem dX16_emulate_90 : decode cX16_emulate 90 = .ok (.l2i, 1) := by decide +kernel
theorem dX16_emulate_91 : decode cX16_emulate 91 = .ok (.putfield 739, 3) := by decide +kernel
theorem dX16_emulate_94 : decode cX16_emulate 94 = .ok (.aload_n 0, 1) := by decide +kernel
theorem dX16_emulate_95 : decode cX16_emulate 95 = .ok (.getfield 736, 3) := by decide +kernel
theorem dX16_emulate_98 : decode cX16_emulate 98 = .ok (.ldc_w 1075, 3) := by decide +kernel
theorem dX16_emulate_101 : decode cX16_emulate 101 = .ok (.if_icmp .ne 11, 3) := by decide +kernel
theorem dX16_emulate_104 : decode cX16_emulate 104 = .ok (.aload_n 0, 1) := by decide +kernel
theorem dX16_emulate_105 : decode cX16_emulate 105 = .ok (.bipush 9, 2) := by decide +kernel
theorem dX16_emulate_107 : decode cX16_emulate 107 = .ok (.putfield 733, 3) := by decide +kernel
theorem dX16_emulate_110 : decode cX16_emulate 110 = .ok (.lconst 0, 1) := by decide +kernel
theorem dX16_emulate_111 : decode cX16_emulate 111 = .ok (.lreturn, 1) := by decide +kernel
theorem dX16_emulate_112 : decode cX16_emulate 112 = .ok (.aload_n 0, 1) := by decide +kernel
theorem dX16_emulate_113 : decode cX16_emulate 113 = .ok (.iload_n 1, 1) := by decide +kernel
theorem dX16_emulate_114 : decode cX16_emulate 114 = .ok (.aload_n 0, 1) := by decide +kernel
theorem dX16_emulate_115 : decode cX16_emulate 115 = .ok (.getfield 135, 3) := by decide +kernel
theorem dX16_emulate_118 : decode cX16_emulate 118 = .ok (.aload_n 0, 1) := by decide +kernel
theorem dX16_emulate_119 : decode cX16_emulate 119 = .ok (.getfield 739, 3) := by decide +kernel
theorem dX16_emulate_122 : decode cX16_emulate 122 = .ok (.iaload, 1) := by decide +kernel
theorem dX16_emulate_123 : decode cX16_emulate 123 = .ok (.lload_n 2, 1) := by decide +kernel
theorem dX16_emulate_124 : decode cX16_emulate 124 = .ok (.invokevirtual 1076, 3) := by decide +kernel
theorem dX16_emulate_127 : decode cX16_emulate 127 = .ok (.istore 4, 2) := by decide +kernel
theorem dX16_emulate_129 : decode cX16_emulate 129 = .ok (.iload 4, 2) := by decide +kernel
theorem dX16_emulate_131 : decode cX16_emulate 131 = .ok (.ifCond .ne 46, 3) := by decide +kernel
theorem dX16_emulate_134 : decode cX16_emulate 134 = .ok (.aload_n 0, 1) := by decide +kernel
theorem dX16_emulate_135 : decode cX16_emulate 135 = .ok (.getfield 1043, 3) := by decide +kernel
theorem dX16_emulate_138 : decode cX16_emulate 138 = .ok (.lconst 0, 1) := by decide +kernel
theorem dX16_emulate_139 : decode cX16_emulate 139 = .ok (.lcmp, 1) := by decide +kernel
theorem dX16_emulate_140 : decode cX16_emulate 140 = .ok (.ifCond .lt 33, 3) := by decide +kernel
theorem dX16_emulate_143 : decode cX16_emulate 143 = .ok (.aload_n 0, 1) := by decide +kernel
theorem dX16_emulate_144 : decode cX16_emulate 144 = .ok (.getfield 1043, 3) := by decide +kernel
theorem dX16_emulate_147 : decode cX16_emulate 147 = .ok (.ldc2_w 486, 3) := by decide +kernel
theorem dX16_emulate_150 : decode cX16_emulate 150 = .ok (.lrem, 1) := by decide +kernel
theorem dX16_emulate_151 : decode cX16_emulate 151 = .ok (.lconst 0, 1) := by decide +kernel
theorem dX16_emulate_152 : decode cX16_emulate 152 = .ok (.lcmp, 1) := by decide +kernel
theorem dX16_emulate_153 : decode cX16_emulate 153 = .ok (.ifCond .ne 20, 3) := by decide +kernel
theorem dX16_emulate_156 : decode cX16_emulate 156 = .ok (.aload_n 0, 1) := by decide +kernel
theorem dX16_emulate_157 : decode cX16_emulate 157 = .ok (.getfield 1043, 3) := by decide +kernel
theorem dX16_emulate_160 : decode cX16_emulate 160 = .ok (.ldc2_w 486, 3) := by decide +kernel
theorem dX16_emulate_163 : decode cX16_emulate 163 = .ok (.ldiv, 1) := by decide +kernel
theorem dX16_emulate_164 : decode cX16_emulate 164 = .ok (.aload_n 0, 1) := by decide +kernel
theorem dX16_emulate_165 : decode cX16_emulate 165 = .ok (.getfield 1017, 3) := by decide +kernel
theorem dX16_emulate_168 : decode cX16_emulate 168 = .ok (.i2l, 1) := by decide +kernel
theorem dX16_emulate_169 : decode cX16_emulate 169 = .ok (.lcmp, 1) := by decide +kernel
theorem dX16_emulate_170 : decode cX16_emulate 170 = .ok (.ifCond .lt 7, 3) := by decide +kernel
theorem dX16_emulate_173 : decode cX16_emulate 173 = .ok (.iconst 1, 1) := by decide +kernel
theorem dX16_emulate_174 : decode cX16_emulate 174 = .ok (.goto 4, 3) := by decide +kernel
theorem dX16_emulate_177 : decode cX16_emulate 177 = .ok (.iconst 0, 1) := by decide +kernel
theorem dX16_emulate_178 : decode cX16_emulate 178 = .ok (.istore 5, 2) := by decide +kernel
theorem dX16_emulate_180 : decode cX16_emulate 180 = .ok (.aload_n 0, 1) := by decide +kernel
theorem dX16_emulate_181 : decode cX16_emulate 181 = .ok (.getfield 1025, 3) := by decide +kernel
theorem dX16_emulate_184 : decode cX16_emulate 184 = .ok (.ifCond .ne 15, 3) := by decide +kernel
theorem dX16_emulate_187 : decode cX16_emulate 187 = .ok (.aload_n 0, 1) := by decide +kernel
theorem dX16_emulate_188 : decode cX16_emulate 188 = .ok (.getfield 1032, 3) := by decide +kernel
theorem dX16_emulate_191 : decode cX16_emulate 191 = .ok (.ifCond .ne 8, 3) := by decide +kernel
theorem dX16_emulate_194 : decode cX16_emulate 194 = .ok (.iload 5, 2) := by decide +kernel
theorem dX16_emulate_196 : decode cX16_emulate 196 = .ok (.ifCond .eq 33, 3) := by decide +kernel
theorem dX16_emulate_199 : decode cX16_emulate 199 = .ok (.aload_n 0, 1) := by decide +kernel
theorem dX16_emulate_200 : decode cX16_emulate 200 = .ok (.aload_n 0, 1) := by decide +kernel
theorem dX16_emulate_201 : decode cX16_emulate 201 = .ok (.getfield 1025, 3) := by decide +kernel
theorem dX16_emulate_204 : decode cX16_emulate 204 = .ok (.ifCond .eq 7, 3) := by decide +kernel
theorem dX16_emulate_207 : decode cX16_emulate 207 = .ok (.iconst 1, 1) := by decide +kernel
theorem dX16_emulate_208 : decode cX16_emulate 208 = .ok (.goto 16, 3) := by decide +kernel
theorem dX16_emulate_211 : decode cX16_emulate 211 = .ok (.aload_n 0, 1) := by decide +kernel
theorem dX16_emulate_212 : decode cX16_emulate 212 = .ok (.getfield 1032, 3) := by decide +kernel
theorem dX16_emulate_215 : decode cX16_emulate 215 = .ok (.ifCond .eq 8, 3) := by decide +kernel
theorem dX16_emulate_218 : decode cX16_emulate 218 = .ok (.bipush 7, 2) := by decide +kernel
theorem dX16_emulate_220 : decode cX16_emulate 220 = .ok (.goto 4, 3) := by decide +kernel
theorem dX16_emulate_223 : decode cX16_emulate 223 = .ok (.iconst 2, 1) := by decide +kernel
theorem dX16_emulate_224 : decode cX16_emulate 224 = .ok (.putfield 733, 3) := by decide +kernel
theorem dX16_emulate_227 : decode cX16_emulate 227 = .ok (.lconst 0, 1) := by decide +kernel
theorem dX16_emulate_228 : decode cX16_emulate 228 = .ok (.lreturn, 1) := by decide +kernel
theorem dX16_emulate_229 : decode cX16_emulate 229 = .ok (.aload_n 0, 1) := by decide +kernel
theorem dX16_emulate_230 : decode cX16_emulate 230 = .ok (.dup, 1) := by decide +kernel
theorem dX16_emulate_231 : decode cX16_emulate 231 = .ok (.getfield 736, 3) := by decide +kernel
theorem dX16_emulate_234 : decode cX16_emulate 234 = .ok (.iconst 1, 1) := by decide +kernel
theorem dX16_emulate_235 : decode cX16_emulate 235 = .ok (.iadd, 1) := by decide +kernel
theorem dX16_emulate_236 : decode cX16_emulate 236 = .ok (.putfield 736, 3) := by decide +kernel
theorem dX16_emulate_239 : decode cX16_emulate 239 = .ok (.aload_n 0, 1) := by decide +kernel
theorem dX16_emulate_240 : decode cX16_emulate 240 = .ok (.getfield 1043, 3) := by decide +kernel
theorem dX16_emulate_243 : decode cX16_emulate 243 = .ok (.lstore_n 2, 1) := by decide +kernel
theorem dX16_emulate_244 : decode cX16_emulate 244 = .ok (.goto (-165), 3) := by decide +kernel
theorem dX16_emulate_247 : decode cX16_emulate 247 = .ok (.aload_n 0, 1) := by decide +kernel
theorem dX16_emulate_248 : decode cX16_emulate 248 = .ok (.getfield 62, 3) := by decide +kernel
theorem dX16_emulate_251 : decode cX16_emulate 251 = .ok (.bipush 10, 2) := by decide +kernel
theorem dX16_emulate_253 : decode cX16_emulate 253 = .ok (.laload, 1) := by decide +kernel
theorem dX16_emulate_254 : decode cX16_emulate 254 = .ok (.lreturn, 1) := by decide +kernel
theorem dX16_count_0 : decode cX16_count 0 = .ok (.iload_n 1, 1) := by decide +kernel
theorem dX16_count_1 : decode cX16_count 1 = .ok (.tableswitch 70 0 5 #[39, 44, 50, 55, 60, 65], 39) := by decide +kernel
theorem dX16_count_40 : decode cX16_count 40 = .ok (.aload_n 0, 1) := by decide +kernel
theorem dX16_count_41 : decode cX16_count 41 = .ok (.getfield 151, 3) := by decide +kernel
theorem dX16_count_44 : decode cX16_count 44 = .ok (.ireturn, 1) := by decide +kernel
theorem dX16_count_45 : decode cX16_count 45 = .ok (.aload_n 0, 1) := by decide +kernel
theorem dX16_count_46 : decode cX16_count 46 = .ok (.getfield 49, 3) := by decide +kernel
theorem dX16_count_49 : decode cX16_count 49 = .ok (.arraylength, 1) := by decide +kernel
theorem dX16_count_50 : decode cX16_count 50 = .ok (.ireturn, 1) := by decide +kernel
theorem dX16_count_51 : decode cX16_count 51 = .ok (.aload_n 0, 1) := by decide +kernel
theorem dX16_count_52 : decode cX16_count 52 = .ok (.getfield 1017, 3) := by decide +kernel
theorem dX16_count_55 : decode cX16_count 55 = .ok (.ireturn, 1) := by decide +kernel
theorem dX16_count_56 : decode cX16_count 56 = .ok (.aload_n 0, 1) := by decide +kernel
theorem dX16_count_57 : decode cX16_count 57 = .ok (.getfield 144, 3) := by decide +kernel
theorem dX16_count_60 : decode cX16_count 60 = .ok (.ireturn, 1) := by decide +kernel
theorem dX16_count_61 : decode cX16_count 61 = .ok (.aload_n 0, 1) := by decide +kernel
theorem dX16_count_62 : decode cX16_count 62 = .ok (.getfield 490, 3) := by decide +kernel
theorem dX16_count_65 : decode cX16_count 65 = .ok (.ireturn, 1) := by decide +kernel
theorem dX16_count_66 : decode cX16_count 66 = .ok (.aload_n 0, 1) := by decide +kernel
theorem dX16_count_67 : decode cX16_count 67 = .ok (.getfield 646, 3) := by decide +kernel
theorem dX16_count_70 : decode cX16_count 70 = .ok (.ireturn, 1) := by decide +kernel
theorem dX16_count_71 : decode cX16_count 71 = .ok (.iconst (-1), 1) := by decide +kernel
theorem dX16_count_72 : decode cX16_count 72 = .ok (.ireturn, 1) := by decide +kernel
theorem dL_law_0 : decode cL_law 0 = .ok (.new 7, 3) := by decide +kernel
theorem dL_law_3 : decode cL_law 3 = .ok (.dup, 1) := by decide +kernel
theorem dL_law_4 : decode cL_law 4 = .ok (.invokespecial 9, 3) := by decide +kernel
theorem dL_law_7 : decode cL_law 7 = .ok (.astore_n 1, 1) := by decide +kernel
theorem dL_law_8 : decode cL_law 8 = .ok (.new 10, 3) := by decide +kernel
theorem dL_law_11 : decode cL_law 11 = .ok (.dup, 1) := by decide +kernel
theorem dL_law_12 : decode cL_law 12 = .ok (.invokespecial 12, 3) := by decide +kernel
theorem dL_law_15 : decode cL_law 15 = .ok (.astore_n 2, 1) := by decide +kernel
theorem dL_law_16 : decode cL_law 16 = .ok (.iconst 0, 1) := by decide +kernel
theorem dL_law_17 : decode cL_law 17 = .ok (.istore_n 3, 1) := by decide +kernel
theorem dL_law_18 : decode cL_law 18 = .ok (.iload_n 3, 1) := by decide +kernel
theorem dL_law_19 : decode cL_law 19 = .ok (.aload_n 0, 1) := by decide +kernel
theorem dL_law_20 : decode cL_law 20 = .ok (.arraylength, 1) := by decide +kernel
theorem dL_law_21 : decode cL_law 21 = .ok (.bipush 6, 2) := by decide +kernel
theorem dL_law_23 : decode cL_law 23 = .ok (.isub, 1) := by decide +kernel
theorem dL_law_24 : decode cL_law 24 = .ok (.if_icmp .gt 549, 3) := by decide +kernel
theorem dL_law_27 : decode cL_law 27 = .ok (.aload_n 0, 1) := by decide +kernel
theorem dL_law_28 : decode cL_law 28 = .ok (.iload_n 3, 1) := by decide +kernel
theorem dL_law_29 : decode cL_law 29 = .ok (.iaload, 1) := by decide +kernel
theorem dL_law_30 : decode cL_law 30 = .ok (.bipush 31, 2) := by decide +kernel
theorem dL_law_32 : decode cL_law 32 = .ok (.iand, 1) := by decide +kernel
theorem dL_law_33 : decode cL_law 33 = .ok (.tableswitch 534 0 18 #[91, 154, 177, 190, 224, 237, 250, 274, 287, 331, 355, 368, 381, 404, 428, 451, 475, 498, 511], 91) := by decide +kernel
theorem dL_law_124 : decode cL_law 124 = .ok (.aload_n 1, 1) := by decide +kernel
theorem dL_law_125 : decode cL_law 125 = .ok (.aload_n 0, 1) := by decide +kernel
theorem dL_law_126 : decode cL_law 126 = .ok (.iload_n 3, 1) := by decide +kernel
theorem dL_law_127 : decode cL_law 127 = .ok (.iconst 1, 1) := by decide +kernel
theorem dL_law_128 : decode cL_law 128 = .ok (.iadd, 1) := by decide +kernel
theorem dL_law_129 : decode cL_law 129 = .ok (.iaload, 1) := by decide +kernel
theorem dL_law_130 : decode cL_law 130 = .ok (.aload_n 0, 1) := by decide +kernel
theorem dL_law_131 : decode cL_law 131 = .ok (.iload_n 3, 1) := by decide +kernel
theorem dL_law_132 : decode cL_law 132 = .ok (.iconst 2, 1) := by decide +kernel
theorem dL_law_133 : decode cL_law 133 = .ok (.iadd, 1) := by decide +kernel
theorem dL_law_134 : decode cL_law 134 = .ok (.iaload, 1) := by decide +kernel
theorem dL_law_135 : decode cL_law 135 = .ok (.aload_n 0, 1) := by decide +kernel
theorem dL_law_136 : decode cL_law 136 = .ok (.iload_n 3, 1) := by decide +kernel
theorem dL_law_137 : decode cL_law 137 = .ok (.iconst 3, 1) := by decide +kernel
theorem dL_law_138 : decode cL_law 138 = .ok (.iadd, 1) := by decide +kernel
theorem dL_law_139 : decode cL_law 139 = .ok (.iaload, 1) := by decide +kernel
theorem dL_law_140 : decode cL_law 140 = .ok (.aload_n 0, 1) := by decide +kernel
theorem dL_law_141 : decode cL_law 141 = .ok (.iload_n 3, 1) := by decide +kernel
theorem dL_law_142 : decode cL_law 142 = .ok (.iconst 4, 1) := by decide +kernel
theorem dL_law_143 : decode cL_law 143 = .ok (.iadd, 1) := by decide +kernel
theorem dL_law_144 : decode cL_law 144 = .ok (.iaload, 1) := by decide +kernel
theorem dL_law_145 : decode cL_law 145 = .ok (.aload_n 0, 1) := by decide +kernel
theorem dL_law_146 : decode cL_law 146 = .ok (.iload_n 3, 1) := by decide +kernel
theorem dL_law_147 : decode cL_law 147 = .ok (.iconst 5, 1) := by decide +kernel
theorem dL_law_148 : decode cL_law 148 = .ok (.iadd, 1) := by decide +kernel
theorem dL_law_149 : decode cL_law 149 = .ok (.iaload, 1) := by decide +kernel
theorem dL_law_150 : decode cL_law 150 = .ok (.invokevirtual 13, 3) := by decide +kernel
theorem dL_law_153 : decode cL_law 153 = .ok (.aload_n 2, 1) := by decide +kernel
theorem dL_law_154 : decode cL_law 154 = .ok (.aload_n 0, 1) := by decide +kernel
theorem dL_law_155 : decode cL_law 155 = .ok (.iload_n 3, 1) := by decide +kernel
theorem dL_law_156 : decode cL_law 156 = .ok (.iconst 1, 1) := by decide +kernel
theorem dL_law_157 : decode cL_law 157 = .ok (.iadd, 1) := by decide +kernel
theorem dL_law_158 : decode cL_law 158 = .ok (.iaload, 1) := by decide +kernel
theorem dL_law_159 : decode cL_law 159 = .ok (.aload_n 0, 1) := by decide +kernel
theorem dL_law_160 : decode cL_law 160 = .ok (.iload_n 3, 1) := by decide +kernel
theorem dL_law_161 : decode cL_law 161 = .ok (.iconst 2, 1) := by decide +kernel
theorem dL_law_162 : decode cL_law 162 = .ok (.iadd, 1) := by decide +kernel
theorem dL_law_163 : decode cL_law 163 = .ok (.iaload, 1) := by decide +kernel
theorem dL_law_164 : decode cL_law 164 = .ok (.aload_n 0, 1) := by decide +kernel
theorem dL_law_165 : decode cL_law 165 = .ok (.iload_n 3, 1) := by decide +kernel
theorem dL_law_166 : decode cL_law 166 = .ok (.iconst 3, 1) := by decide +kernel
theorem dL_law_167 : decode cL_law 167 = .ok (.iadd, 1) := by decide +kernel
theorem dL_law_168 : decode cL_law 168 = .ok (.iaload, 1) := by decide +kernel
theorem dL_law_169 : decode cL_law 169 = .ok (.aload_n 0, 1) := by decide +kernel
theorem dL_law_170 : decode cL_law 170 = .ok (.iload_n 3, 1) := by decide +kernel
theorem dL_law_171 : decode cL_law 171 = .ok (.iconst 4, 1) := by decide +kernel
theorem dL_law_172 : decode cL_law 172 = .ok (.iadd, 1) := by decide +kernel
theorem dL_law_173 : decode cL_law 173 = .ok (.iaload, 1) := by decide +kernel
theorem dL_law_174 : decode cL_law 174 = .ok (.aload_n 0, 1) := by decide +kernel
theorem dL_law_175 : decode cL_law 175 = .ok (.iload_n 3, 1) := by decide +kernel
theorem dL_law_176 : decode cL_law 176 = .ok (.iconst 5, 1) := by decide +kernel
theorem dL_law_177 : decode cL_law 177 = .ok (.iadd, 1) := by decide +kernel
theorem dL_law_178 : decode cL_law 178 = .ok (.iaload, 1) := by decide +kernel
theorem dL_law_179 : decode cL_law 179 = .ok (.invokevirtual 17, 3) := by decide +kernel
theorem dL_law_182 : decode cL_law 182 = .ok (.if_icmp .eq 385, 3) := by decide +kernel
theorem dL_law_185 : decode cL_law 185 = .ok (.iconst 0, 1) := by decide +kernel
theorem dL_law_186 : decode cL_law 186 = .ok (.ireturn, 1) := by decide +kernel
theorem dL_law_187 : decode cL_law 187 = .ok (.aload_n 1, 1) := by decide +kernel
theorem dL_law_188 : decode cL_law 188 = .ok (.aload_n 0, 1) := by decide +kernel
theorem dL_law_189 : decode cL_law 189 = .ok (.iload_n 3, 1) := by decide +kernel
theorem dL_law_190 : decode cL_law 190 = .ok (.iconst 1, 1) := by decide +kernel
theorem dL_law_191 : decode cL_law 191 = .ok (.iadd, 1) := by decide +kernel
theorem dL_law_192 : decode cL_law 192 = .ok (.iaload, 1) := by decide +kernel
theorem dL_law_193 : decode cL_law 193 = .ok (.invokevirtual 18, 3) := by decide +kernel
theorem dL_law_196 : decode cL_law 196 = .ok (.aload_n 2, 1) := by decide +kernel
theorem dL_law_197 : decode cL_law 197 = .ok (.aload_n 0, 1) := by decide +kernel
theorem dL_law_198 : decode cL_law 198 = .ok (.iload_n 3, 1) := by decide +kernel
theorem dL_law_199 : decode cL_law 199 = .ok (.iconst 1, 1) := by decide +kernel
theorem dL_law_200 : decode cL_law 200 = .ok (.iadd, 1) := by decide +kernel
theorem dL_law_201 : decode cL_law 201 = .ok (.iaload, 1) := by decide +kernel
theorem dL_law_202 : decode cL_law 202 = .ok (.invokevirtual 22, 3) := by decide +kernel
theorem dL_law_205 : decode cL_law 205 = .ok (.if_icmp .eq 362, 3) := by decide +kernel
theorem dL_law_208 : decode cL_law 208 = .ok (.iconst 0, 1) := by decide +kernel
theorem dL_law_209 : decode cL_law 209 = .ok (.ireturn, 1) := by decide +kernel
theorem dL_law_210 : decode cL_law 210 = .ok (.aload_n 1, 1) := by decide +kernel
theorem dL_law_211 : decode cL_law 211 = .ok (.invokevirtual 23, 3) := by decide +kernel
theorem dL_law_214 : decode cL_law 214 = .ok (.aload_n 2, 1) := by decide +kernel
theorem dL_law_215 : decode cL_law 215 = .ok (.invokevirtual 27, 3) := by decide +kernel
theorem dL_law_218 : decode cL_law 218 = .ok (.if_icmp .eq 349, 3) := by decide +kernel
theorem dL_law_221 : decode cL_law 221 = .ok (.iconst 0, 1) := by decide +kernel
theorem dL_law_222 : decode cL_law 222 = .ok (.ireturn, 1) := by decide +kernel
theorem dL_law_223 : decode cL_law 223 = .ok (.aload_n 1, 1) := by decide +kernel
theorem dL_law_224 : decode cL_law 224 = .ok (.aload_n 0, 1) := by decide +kernel
theorem dL_law_225 : decode cL_law 225 = .ok (.iload_n 3, 1) := by decide +kernel
theorem dL_law_226 : decode cL_law 226 = .ok (.iconst 1, 1) := by decide +kernel
theorem dL_law_227 : decode cL_law 227 = .ok (.iadd, 1) := by decide +kernel
theorem dL_law_228 : decode cL_law 228 = .ok (.iaload, 1) := by decide +kernel
theorem dL_law_229 : decode cL_law 229 = .ok (.aload_n 0, 1) := by decide +kernel
theorem dL_law_230 : decode cL_law 230 = .ok (.iload_n 3, 1) := by decide +kernel
theorem dL_law_231 : decode cL_law 231 = .ok (.iconst 2, 1) := by decide +kernel
theorem dL_law_232 : decode cL_law 232 = .ok (.iadd, 1) := by decide +kernel
theorem dL_law_233 : decode cL_law 233 = .ok (.iaload, 1) := by decide +kernel
theorem dL_law_234 : decode cL_law 234 = .ok (.invokevirtual 28, 3) := by decide +kernel
theorem dL_law_237 : decode cL_law 237 = .ok (.aload_n 2, 1) := by decide +kernel
theorem dL_law_238 : decode cL_law 238 = .ok (.aload_n 0, 1) := by decide +kernel
theorem dL_law_239 : decode cL_law 239 = .ok (.iload_n 3, 1) := by decide +kernel
theorem dL_law_240 : decode cL_law 240 = .ok (.iconst 1, 1) := by decide +kernel
theorem dL_law_241 : decode cL_law 241 = .ok (.iadd, 1) := by decide +kernel
theorem dL_law_242 : decode cL_law 242 = .ok (.iaload, 1) := by decide +kernel
theorem dL_law_243 : decode cL_law 243 = .ok (.aload_n 0, 1) := by decide +kernel
theorem dL_law_244 : decode cL_law 244 = .ok (.iload_n 3, 1) := by decide +kernel
theorem dL_law_245 : decode cL_law 245 = .ok (.iconst 2, 1) := by decide +kernel
theorem dL_law_246 : decode cL_law 246 = .ok (.iadd, 1) := by decide +kernel
theorem dL_law_247 : decode cL_law 247 = .ok (.iaload, 1) := by decide +kernel
theorem dL_law_248 : decode cL_law 248 = .ok (.invokevirtual 32, 3) := by decide +kernel
theorem dL_law_251 : decode cL_law 251 = .ok (.lcmp, 1) := by decide +kernel
theorem dL_law_252 : decode cL_law 252 = .ok (.ifCond .eq 315, 3) := by decide +kernel
theorem dL_law_255 : decode cL_law 255 = .ok (.iconst 0, 1) := by decide +kernel
theorem dL_law_256 : decode cL_law 256 = .ok (.ireturn, 1) := by decide +kernel
theorem dL_law_257 : decode cL_law 257 = .ok (.aload_n 1, 1) := by decide +kernel
theorem dL_law_258 : decode cL_law 258 = .ok (.invokevirtual 33, 3) := by decide +kernel
theorem dL_law_261 : decode cL_law 261 = .ok (.aload_n 2, 1) := by decide +kernel
theorem dL_law_262 : decode cL_law 262 = .ok (.invokevirtual 36, 3) := by decide +kernel
theorem dL_law_265 : decode cL_law 265 = .ok (.if_icmp .eq 302, 3) := by decide +kernel
theorem dL_law_268 : decode cL_law 268 = .ok (.iconst 0, 1) := by decide +kernel
theorem dL_law_269 : decode cL_law 269 = .ok (.ireturn, 1) := by decide +kernel
theorem dL_law_270 : decode cL_law 270 = .ok (.aload_n 1, 1) := by decide +kernel
theorem dL_law_271 : decode cL_law 271 = .ok (.invokevirtual 37, 3) := by decide +kernel
theorem dL_law_274 : decode cL_law 274 = .ok (.aload_n 2, 1) := by decide +kernel
theorem dL_law_275 : decode cL_law 275 = .ok (.invokevirtual 40, 3) := by decide +kernel
theorem dL_law_278 : decode cL_law 278 = .ok (.if_icmp .eq 289, 3) := by decide +kernel
theorem dL_law_281 : decode cL_law 281 = .ok (.iconst 0, 1) := by decide +kernel
theorem dL_law_282 : decode cL_law 282 = .ok (.ireturn, 1) := by decide +kernel
theorem dL_law_283 : decode cL_law 283 = .ok (.aload_n 1, 1) := by decide +kernel
theorem dL_law_284 : decode cL_law 284 = .ok (.aload_n 0, 1) := by decide +kernel
theorem dL_law_285 : decode cL_law 285 = .ok (.iload_n 3, 1) := by decide +kernel
theorem dL_law_286 : decode cL_law 286 = .ok (.iconst 1, 1) := by decide +kernel
theorem dL_law_287 : decode cL_law 287 = .ok (.iadd, 1) := by decide +kernel
theorem dL_law_288 : decode cL_law 288 = .ok (.iaload, 1) := by decide +kernel
theorem dL_law_289 : decode cL_law 289 = .ok (.invokevirtual 41, 3) := by decide +kernel
theorem dL_law_292 : decode cL_law 292 = .ok (.aload_n 2, 1) := by decide +kernel
theorem dL_law_293 : decode cL_law 293 = .ok (.aload_n 0, 1) := by decide +kernel
theorem dL_law_294 : decode cL_law 294 = .ok (.iload_n 3, 1) := by decide +kernel
theorem dL_law_295 : decode cL_law 295 = .ok (.iconst 1, 1) := by decide +kernel
theorem dL_law_296 : decode cL_law 296 = .ok (.iadd, 1) := by decide +kernel
theorem dL_law_297 : decode cL_law 297 = .ok (.iaload, 1) := by decide +kernel
theorem dL_law_298 : decode cL_law 298 = .ok (.invokevirtual 45, 3) := by decide +kernel
theorem dL_law_301 : decode cL_law 301 = .ok (.lcmp, 1) := by decide +kernel
theorem dL_law_302 : decode cL_law 302 = .ok (.ifCond .eq 265, 3) := by decide +kernel
theorem dL_law_305 : decode cL_law 305 = .ok (.iconst 0, 1) := by decide +kernel
theorem dL_law_306 : decode cL_law 306 = .ok (.ireturn, 1) := by decide +kernel
theorem dL_law_307 : decode cL_law 307 = .ok (.aload_n 1, 1) := by decide +kernel
theorem dL_law_308 : decode cL_law 308 = .ok (.invokevirtual 46, 3) := by decide +kernel
theorem dL_law_311 : decode cL_law 311 = .ok (.aload_n 2, 1) := by decide +kernel
theorem dL_law_312 : decode cL_law 312 = .ok (.invokevirtual 49, 3) := by decide +kernel
theorem dL_law_315 : decode cL_law 315 = .ok (.if_icmp .eq 252, 3) := by decide +kernel
theorem dL_law_318 : decode cL_law 318 = .ok (.iconst 0, 1) := by decide +kernel
theorem dL_law_319 : decode cL_law 319 = .ok (.ireturn, 1) := by decide +kernel
theorem dL_law_320 : decode cL_law 320 = .ok (.aload_n 1, 1) := by decide +kernel
theorem dL_law_321 : decode cL_law 321 = .ok (.aload_n 0, 1) := by decide +kernel
theorem dL_law_322 : decode cL_law 322 = .ok (.iload_n 3, 1) := by decide +kernel
theorem dL_law_323 : decode cL_law 323 = .ok (.iconst 1, 1) := by decide +kernel
theorem dL_law_324 : decode cL_law 324 = .ok (.iadd, 1) := by decide +kernel
theorem dL_law_325 : decode cL_law 325 = .ok (.iaload, 1) := by decide +kernel
theorem dL_law_326 : decode cL_law 326 = .ok (.aload_n 0, 1) := by decide +kernel
theorem dL_law_327 : decode cL_law 327 = .ok (.iload_n 3, 1) := by decide +kernel
theorem dL_law_328 : decode cL_law 328 = .ok (.iconst 2, 1) := by decide +kernel
theorem dL_law_329 : decode cL_law 329 = .ok (.iadd, 1) := by decide +kernel
theorem dL_law_330 : decode cL_law 330 = .ok (.iaload, 1) := by decide +kernel
theorem dL_law_331 : decode cL_law 331 = .ok (.aload_n 0, 1) := by decide +kernel
theorem dL_law_332 : decode cL_law 332 = .ok (.iload_n 3, 1) := by decide +kernel
theorem dL_law_333 : decode cL_law 333 = .ok (.iconst 3, 1) := by decide +kernel
theorem dL_law_334 : decode cL_law 334 = .ok (.iadd, 1) := by decide +kernel
theorem dL_law_335 : decode cL_law 335 = .ok (.iaload, 1) := by decide +kernel
theorem dL_law_336 : decode cL_law 336 = .ok (.invokevirtual 50, 3) := by decide +kernel
theorem dL_law_339 : decode cL_law 339 = .ok (.aload_n 2, 1) := by decide +kernel
theorem dL_law_340 : decode cL_law 340 = .ok (.aload_n 0, 1) := by decide +kernel
theorem dL_law_341 : decode cL_law 341 = .ok (.iload_n 3, 1) := by decide +kernel
theorem dL_law_342 : decode cL_law 342 = .ok (.iconst 1, 1) := by decide +kernel
theorem dL_law_343 : decode cL_law 343 = .ok (.iadd, 1) := by decide +kernel
theorem dL_law_344 : decode cL_law 344 = .ok (.iaload, 1) := by decide +kernel
theorem dL_law_345 : decode cL_law 345 = .ok (.aload_n 0, 1) := by decide +kernel
theorem dL_law_346 : decode cL_law 346 = .ok (.iload_n 3, 1) := by decide +kernel
theorem dL_law_347 : decode cL_law 347 = .ok (.iconst 2, 1) := by decide +kernel
theorem dL_law_348 : decode cL_law 348 = .ok (.iadd, 1) := by decide +kernel
theorem dL_law_349 : decode cL_law 349 = .ok (.iaload, 1) := by decide +kernel
theorem dL_law_350 : decode cL_law 350 = .ok (.aload_n 0, 1) := by decide +kernel
theorem dL_law_351 : decode cL_law 351 = .ok (.iload_n 3, 1) := by decide +kernel
theorem dL_law_352 : decode cL_law 352 = .ok (.iconst 3, 1) := by decide +kernel
theorem dL_law_353 : decode cL_law 353 = .ok (.iadd, 1) := by decide +kernel
theorem dL_law_354 : decode cL_law 354 = .ok (.iaload, 1) := by decide +kernel
theorem dL_law_355 : decode cL_law 355 = .ok (.invokevirtual 54, 3) := by decide +kernel
theorem dL_law_358 : decode cL_law 358 = .ok (.lcmp, 1) := by decide +kernel
theorem dL_law_359 : decode cL_law 359 = .ok (.ifCond .eq 208, 3) := by decide +kernel
theorem dL_law_362 : decode cL_law 362 = .ok (.iconst 0, 1) := by decide +kernel
theorem dL_law_363 : decode cL_law 363 = .ok (.ireturn, 1) := by decide +kernel
theorem dL_law_364 : decode cL_law 364 = .ok (.aload_n 1, 1) := by decide +kernel
theorem dL_law_365 : decode cL_law 365 = .ok (.aload_n 0, 1) := by decide +kernel
theorem dL_law_366 : decode cL_law 366 = .ok (.iload_n 3, 1) := by decide +kernel
theorem dL_law_367 : decode cL_law 367 = .ok (.iconst 1, 1) := by decide +kernel
theorem dL_law_368 : decode cL_law 368 = .ok (.iadd, 1) := by decide +kernel
theorem dL_law_369 : decode cL_law 369 = .ok (.iaload, 1) := by decide +kernel
theorem dL_law_370 : decode cL_law 370 = .ok (.invokevirtual 55, 3) := by decide +kernel
theorem dL_law_373 : decode cL_law 373 = .ok (.aload_n 2, 1) := by decide +kernel
theorem dL_law_374 : decode cL_law 374 = .ok (.aload_n 0, 1) := by decide +kernel
theorem dL_law_375 : decode cL_law 375 = .ok (.iload_n 3, 1) := by decide +kernel
theorem dL_law_376 : decode cL_law 376 = .ok (.iconst 1, 1) := by decide +kernel
theorem dL_law_377 : decode cL_law 377 = .ok (.iadd, 1) := by decide +kernel
theorem dL_law_378 : decode cL_law 378 = .ok (.iaload, 1) := by decide +kernel
theorem dL_law_379 : decode cL_law 379 = .ok (.invokevirtual 58, 3) := by decide +kernel
theorem dL_law_382 : decode cL_law 382 = .ok (.lcmp, 1) := by decide +kernel
theorem dL_law_383 : decode cL_law 383 = .ok (.ifCond .eq 184, 3) := by decide +kernel
theorem dL_law_386 : decode cL_law 386 = .ok (.iconst 0, 1) := by decide +kernel
theorem dL_law_387 : decode cL_law 387 = .ok (.ireturn, 1) := by decide +kernel
theorem dL_law_388 : decode cL_law 388 = .ok (.aload_n 1, 1) := by decide +kernel
theorem dL_law_389 : decode cL_law 389 = .ok (.invokevirtual 59, 3) := by decide +kernel
theorem dL_law_392 : decode cL_law 392 = .ok (.aload_n 2, 1) := by decide +kernel
theorem dL_law_393 : decode cL_law 393 = .ok (.invokevirtual 62, 3) := by decide +kernel
theorem dL_law_396 : decode cL_law 396 = .ok (.if_icmp .eq 171, 3) := by decide +kernel
theorem dL_law_399 : decode cL_law 399 = .ok (.iconst 0, 1) := by decide +kernel
theorem dL_law_400 : decode cL_law 400 = .ok (.ireturn, 1) := by decide +kernel
theorem dL_law_401 : decode cL_law 401 = .ok (.aload_n 1, 1) := by decide +kernel
theorem dL_law_402 : decode cL_law 402 = .ok (.invokevirtual 63, 3) := by decide +kernel
theorem dL_law_405 : decode cL_law 405 = .ok (.aload_n 2, 1) := by decide +kernel
theorem dL_law_406 : decode cL_law 406 = .ok (.invokevirtual 66, 3) := by decide +kernel
theorem dL_law_409 : decode cL_law 409 = .ok (.if_icmp .eq 158, 3) := by decide +kernel
theorem dL_law_412 : decode cL_law 412 = .ok (.iconst 0, 1) := by decide +kernel
theorem dL_law_413 : decode cL_law 413 = .ok (.ireturn, 1) := by decide +kernel
theorem dL_law_414 : decode cL_law 414 = .ok (.aload_n 1, 1) := by decide +kernel
theorem dL_law_415 : decode cL_law 415 = .ok (.aload_n 0, 1) := by decide +kernel
theorem dL_law_416 : decode cL_law 416 = .ok (.iload_n 3, 1) := by decide +kernel
theorem dL_law_417 : decode cL_law 417 = .ok (.iconst 1, 1) := by decide +kernel
theorem dL_law_418 : decode cL_law 418 = .ok (.iadd, 1) := by decide +kernel
theorem dL_law_419 : decode cL_law 419 = .ok (.iaload, 1) := by decide +kernel
theorem dL_law_420 : decode cL_law 420 = .ok (.invokevirtual 67, 3) := by decide +kernel
theorem dL_law_423 : decode cL_law 423 = .ok (.aload_n 2, 1) := by decide +kernel
theorem dL_law_424 : decode cL_law 424 = .ok (.aload_n 0, 1) := by decide +kernel
theorem dL_law_425 : decode cL_law 425 = .ok (.iload_n 3, 1) := by decide +kernel
theorem dL_law_426 : decode cL_law 426 = .ok (.iconst 1, 1) := by decide +kernel
theorem dL_law_427 : decode cL_law 427 = .ok (.iadd, 1) := by decide +kernel
theorem dL_law_428 : decode cL_law 428 = .ok (.iaload, 1) := by decide +kernel
theorem dL_law_429 : decode cL_law 429 = .ok (.invokevirtual 70, 3) := by decide +kernel
theorem dL_law_432 : decode cL_law 432 = .ok (.if_icmp .eq 135, 3) := by decide +kernel
theorem dL_law_435 : decode cL_law 435 = .ok (.iconst 0, 1) := by decide +kernel
theorem dL_law_436 : decode cL_law 436 = .ok (.ireturn, 1) := by decide +kernel
theorem dL_law_437 : decode cL_law 437 = .ok (.aload_n 1, 1) := by decide +kernel
theorem dL_law_438 : decode cL_law 438 = .ok (.aload_n 0, 1) := by decide +kernel
theorem dL_law_439 : decode cL_law 439 = .ok (.iload_n 3, 1) := by decide +kernel
theorem dL_law_440 : decode cL_law 440 = .ok (.iconst 1, 1) := by decide +kernel
theorem dL_law_441 : decode cL_law 441 = .ok (.iadd, 1) := by decide +kernel
theorem dL_law_442 : decode cL_law 442 = .ok (.iaload, 1) := by decide +kernel
theorem dL_law_443 : decode cL_law 443 = .ok (.invokevirtual 71, 3) := by decide +kernel
theorem dL_law_446 : decode cL_law 446 = .ok (.aload_n 2, 1) := by decide +kernel
theorem dL_law_447 : decode cL_law 447 = .ok (.aload_n 0, 1) := by decide +kernel
theorem dL_law_448 : decode cL_law 448 = .ok (.iload_n 3, 1) := by decide +kernel
theorem dL_law_449 : decode cL_law 449 = .ok (.iconst 1, 1) := by decide +kernel
theorem dL_law_450 : decode cL_law 450 = .ok (.iadd, 1) := by decide +kernel
theorem dL_law_451 : decode cL_law 451 = .ok (.iaload, 1) := by decide +kernel
theorem dL_law_452 : decode cL_law 452 = .ok (.invokevirtual 74, 3) := by decide +kernel
theorem dL_law_455 : decode cL_law 455 = .ok (.lcmp, 1) := by decide +kernel
theorem dL_law_456 : decode cL_law 456 = .ok (.ifCond .eq 111, 3) := by decide +kernel
theorem dL_law_459 : decode cL_law 459 = .ok (.iconst 0, 1) := by decide +kernel
theorem dL_law_460 : decode cL_law 460 = .ok (.ireturn, 1) := by decide +kernel
theorem dL_law_461 : decode cL_law 461 = .ok (.aload_n 1, 1) := by decide +kernel
theorem dL_law_462 : decode cL_law 462 = .ok (.aload_n 0, 1) := by decide +kernel
theorem dL_law_463 : decode cL_law 463 = .ok (.iload_n 3, 1) := by decide +kernel
theorem dL_law_464 : decode cL_law 464 = .ok (.iconst 1, 1) := by decide +kernel
theorem dL_law_465 : decode cL_law 465 = .ok (.iadd, 1) := by decide +kernel
theorem dL_law_466 : decode cL_law 466 = .ok (.iaload, 1) := by decide +kernel
theorem dL_law_467 : decode cL_law 467 = .ok (.invokevirtual 75, 3) := by decide +kernel
theorem dL_law_470 : decode cL_law 470 = .ok (.aload_n 2, 1) := by decide +kernel
theorem dL_law_471 : decode cL_law 471 = .ok (.aload_n 0, 1) := by decide +kernel
theorem dL_law_472 : decode cL_law 472 = .ok (.iload_n 3, 1) := by decide +kernel
theorem dL_law_473 : decode cL_law 473 = .ok (.iconst 1, 1) := by decide +kernel
theorem dL_law_474 : decode cL_law 474 = .ok (.iadd, 1) := by decide +kernel
theorem dL_law_475 : decode cL_law 475 = .ok (.iaload, 1) := by decide +kernel
theorem dL_law_476 : decode cL_law 476 = .ok (.invokevirtual 78, 3) := by decide +kernel
theorem dL_law_479 : decode cL_law 479 = .ok (.if_icmp .eq 88, 3) := by decide +kernel
theorem dL_law_482 : decode cL_law 482 = .ok (.iconst 0, 1) := by decide +kernel
theorem dL_law_483 : decode cL_law 483 = .ok (.ireturn, 1) := by decide +kernel
theorem dL_law_484 : decode cL_law 484 = .ok (.aload_n 1, 1) := by decide +kernel
theorem dL_law_485 : decode cL_law 485 = .ok (.aload_n 0, 1) := by decide +kernel
theorem dL_law_486 : decode cL_law 486 = .ok (.iload_n 3, 1) := by decide +kernel
theorem dL_law_487 : decode cL_law 487 = .ok (.iconst 1, 1) := by decide +kernel
theorem dL_law_488 : decode cL_law 488 = .ok (.iadd, 1) := by decide +kernel
theorem dL_law_489 : decode cL_law 489 = .ok (.iaload, 1) := by decide +kernel
theorem dL_law_490 : decode cL_law 490 = .ok (.invokevirtual 79, 3) := by decide +kernel
theorem dL_law_493 : decode cL_law 493 = .ok (.aload_n 2, 1) := by decide +kernel
theorem dL_law_494 : decode cL_law 494 = .ok (.aload_n 0, 1) := by decide +kernel
theorem dL_law_495 : decode cL_law 495 = .ok (.iload_n 3, 1) := by decide +kernel
theorem dL_law_496 : decode cL_law 496 = .ok (.iconst 1, 1) := by decide +kernel
theorem dL_law_497 : decode cL_law 497 = .ok (.iadd, 1) := by decide +kernel
theorem dL_law_498 : decode cL_law 498 = .ok (.iaload, 1) := by decide +kernel
theorem dL_law_499 : decode cL_law 499 = .ok (.invokevirtual 82, 3) := by decide +kernel
theorem dL_law_502 : decode cL_law 502 = .ok (.lcmp, 1) := by decide +kernel
theorem dL_law_503 : decode cL_law 503 = .ok (.ifCond .eq 64, 3) := by decide +kernel
theorem dL_law_506 : decode cL_law 506 = .ok (.iconst 0, 1) := by decide +kernel
theorem dL_law_507 : decode cL_law 507 = .ok (.ireturn, 1) := by decide +kernel
theorem dL_law_508 : decode cL_law 508 = .ok (.aload_n 1, 1) := by decide +kernel
theorem dL_law_509 : decode cL_law 509 = .ok (.aload_n 0, 1) := by decide +kernel
theorem dL_law_510 : decode cL_law 510 = .ok (.iload_n 3, 1) := by decide +kernel
theorem dL_law_511 : decode cL_law 511 = .ok (.iconst 1, 1) := by decide +kernel
theorem dL_law_512 : decode cL_law 512 = .ok (.iadd, 1) := by decide +kernel
theorem dL_law_513 : decode cL_law 513 = .ok (.iaload, 1) := by decide +kernel
theorem dL_law_514 : decode cL_law 514 = .ok (.invokevirtual 83, 3) := by decide +kernel
theorem dL_law_517 : decode cL_law 517 = .ok (.aload_n 2, 1) := by decide +kernel
theorem dL_law_518 : decode cL_law 518 = .ok (.aload_n 0, 1) := by decide +kernel
theorem dL_law_519 : decode cL_law 519 = .ok (.iload_n 3, 1) := by decide +kernel
theorem dL_law_520 : decode cL_law 520 = .ok (.iconst 1, 1) := by decide +kernel
theorem dL_law_521 : decode cL_law 521 = .ok (.iadd, 1) := by decide +kernel
theorem dL_law_522 : decode cL_law 522 = .ok (.iaload, 1) := by decide +kernel
theorem dL_law_523 : decode cL_law 523 = .ok (.invokevirtual 86, 3) := by decide +kernel
theorem dL_law_526 : decode cL_law 526 = .ok (.if_icmp .eq 41, 3) := by decide +kernel
theorem dL_law_529 : decode cL_law 529 = .ok (.iconst 0, 1) := by decide +kernel
theorem dL_law_530 : decode cL_law 530 = .ok (.ireturn, 1) := by decide +kernel
theorem dL_law_531 : decode cL_law 531 = .ok (.aload_n 1, 1) := by decide +kernel
theorem dL_law_532 : decode cL_law 532 = .ok (.invokevirtual 87, 3) := by decide +kernel
theorem dL_law_535 : decode cL_law 535 = .ok (.aload_n 2, 1) := by decide +kernel
theorem dL_law_536 : decode cL_law 536 = .ok (.invokevirtual 90, 3) := by decide +kernel
theorem dL_law_539 : decode cL_law 539 = .ok (.if_icmp .eq 28, 3) := by decide +kernel
theorem dL_law_542 : decode cL_law 542 = .ok (.iconst 0, 1) := by decide +kernel
theorem dL_law_543 : decode cL_law 543 = .ok (.ireturn, 1) := by decide +kernel
theorem dL_law_544 : decode cL_law 544 = .ok (.aload_n 1, 1) := by decide +kernel
theorem dL_law_545 : decode cL_law 545 = .ok (.aload_n 0, 1) := by decide +kernel
theorem dL_law_546 : decode cL_law 546 = .ok (.iload_n 3, 1) := by decide +kernel
theorem dL_law_547 : decode cL_law 547 = .ok (.iconst 1, 1) := by decide +kernel
theorem dL_law_548 : decode cL_law 548 = .ok (.iadd, 1) := by decide +kernel
theorem dL_law_549 : decode cL_law 549 = .ok (.iaload, 1) := by decide +kernel
theorem dL_law_550 : decode cL_law 550 = .ok (.invokevirtual 91, 3) := by decide +kernel
theorem dL_law_553 : decode cL_law 553 = .ok (.aload_n 2, 1) := by decide +kernel
theorem dL_law_554 : decode cL_law 554 = .ok (.aload_n 0, 1) := by decide +kernel
theorem dL_law_555 : decode cL_law 555 = .ok (.iload_n 3, 1) := by decide +kernel
theorem dL_law_556 : decode cL_law 556 = .ok (.iconst 1, 1) := by decide +kernel
theorem dL_law_557 : decode cL_law 557 = .ok (.iadd, 1) := by decide +kernel
theorem dL_law_558 : decode cL_law 558 = .ok (.iaload, 1) := by decide +kernel
theorem dL_law_559 : decode cL_law 559 = .ok (.invokevirtual 94, 3) := by decide +kernel
theorem dL_law_562 : decode cL_law 562 = .ok (.if_icmp .eq 5, 3) := by decide +kernel
theorem dL_law_565 : decode cL_law 565 = .ok (.iconst 0, 1) := by decide +kernel
theorem dL_law_566 : decode cL_law 566 = .ok (.ireturn, 1) := by decide +kernel
theorem dL_law_567 : decode cL_law 567 = .ok (.iinc 3 6, 3) := by decide +kernel
theorem dL_law_570 : decode cL_law 570 = .ok (.goto (-552), 3) := by decide +kernel
theorem dL_law_573 : decode cL_law 573 = .ok (.iconst 1, 1) := by decide +kernel
theorem dL_law_574 : decode cL_law 574 = .ok (.ireturn, 1) := by decide +kernel

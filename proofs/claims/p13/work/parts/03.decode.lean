theorem dX0_init_0 : decode cX0_init 0 = .ok (.aload_n 0, 1) := by decide +kernel
theorem dX0_init_1 : decode cX0_init 1 = .ok (.invokespecial 3, 3) := by decide +kernel
theorem dX0_init_4 : decode cX0_init 4 = .ok (.aload_n 0, 1) := by decide +kernel
theorem dX0_init_5 : decode cX0_init 5 = .ok (.sipush 3002, 3) := by decide +kernel
theorem dX0_init_8 : decode cX0_init 8 = .ok (.newarray .int, 2) := by decide +kernel
theorem dX0_init_10 : decode cX0_init 10 = .ok (.putfield 11, 3) := by decide +kernel
theorem dX0_init_13 : decode cX0_init 13 = .ok (.aload_n 0, 1) := by decide +kernel
theorem dX0_init_14 : decode cX0_init 14 = .ok (.sipush 4000, 3) := by decide +kernel
theorem dX0_init_17 : decode cX0_init 17 = .ok (.newarray .int, 2) := by decide +kernel
theorem dX0_init_19 : decode cX0_init 19 = .ok (.putfield 19, 3) := by decide +kernel
theorem dX0_init_22 : decode cX0_init 22 = .ok (.aload_n 0, 1) := by decide +kernel
theorem dX0_init_23 : decode cX0_init 23 = .ok (.aload_n 1, 1) := by decide +kernel
theorem dX0_init_24 : decode cX0_init 24 = .ok (.putfield 22, 3) := by decide +kernel
theorem dX0_init_27 : decode cX0_init 27 = .ok (.aload_n 0, 1) := by decide +kernel
theorem dX0_init_28 : decode cX0_init 28 = .ok (.aload_n 2, 1) := by decide +kernel
theorem dX0_init_29 : decode cX0_init 29 = .ok (.putfield 26, 3) := by decide +kernel
theorem dX0_init_32 : decode cX0_init 32 = .ok (.return_, 1) := by decide +kernel
theorem dX0_code_0 : decode cX0_code 0 = .ok (.aload_n 0, 1) := by decide +kernel
theorem dX0_code_1 : decode cX0_code 1 = .ok (.aload_n 1, 1) := by decide +kernel
theorem dX0_code_2 : decode cX0_code 2 = .ok (.putfield 22, 3) := by decide +kernel
theorem dX0_code_5 : decode cX0_code 5 = .ok (.aload_n 0, 1) := by decide +kernel
theorem dX0_code_6 : decode cX0_code 6 = .ok (.aload_n 2, 1) := by decide +kernel
theorem dX0_code_7 : decode cX0_code 7 = .ok (.putfield 26, 3) := by decide +kernel
theorem dX0_code_10 : decode cX0_code 10 = .ok (.aload_n 0, 1) := by decide +kernel
theorem dX0_code_11 : decode cX0_code 11 = .ok (.iconst 0, 1) := by decide +kernel
theorem dX0_code_12 : decode cX0_code 12 = .ok (.putfield 30, 3) := by decide +kernel
theorem dX0_code_15 : decode cX0_code 15 = .ok (.aload_n 0, 1) := by decide +kernel
theorem dX0_code_16 : decode cX0_code 16 = .ok (.sipush 191, 3) := by decide +kernel
theorem dX0_code_19 : decode cX0_code 19 = .ok (.bipush 6, 2) := by decide +kernel
theorem dX0_code_21 : decode cX0_code 21 = .ok (.iconst 1, 1) := by decide +kernel
theorem dX0_code_22 : decode cX0_code 22 = .ok (.iconst 0, 1) := by decide +kernel
theorem dX0_code_23 : decode cX0_code 23 = .ok (.iconst 0, 1) := by decide +kernel
theorem dX0_code_24 : decode cX0_code 24 = .ok (.invokevirtual 34, 3) := by decide +kernel
theorem dX0_code_27 : decode cX0_code 27 = .ok (.iconst 0, 1) := by decide +kernel
theorem dX0_code_28 : decode cX0_code 28 = .ok (.istore_n 3, 1) := by decide +kernel
theorem dX0_code_29 : decode cX0_code 29 = .ok (.iload_n 3, 1) := by decide +kernel
theorem dX0_code_30 : decode cX0_code 30 = .ok (.aload_n 0, 1) := by decide +kernel
theorem dX0_code_31 : decode cX0_code 31 = .ok (.getfield 22, 3) := by decide +kernel
theorem dX0_code_34 : decode cX0_code 34 = .ok (.getfield 38, 3) := by decide +kernel
theorem dX0_code_37 : decode cX0_code 37 = .ok (.if_icmp .ge 41, 3) := by decide +kernel
theorem dX0_code_40 : decode cX0_code 40 = .ok (.aload_n 0, 1) := by decide +kernel
theorem dX0_code_41 : decode cX0_code 41 = .ok (.getfield 22, 3) := by decide +kernel
theorem dX0_code_44 : decode cX0_code 44 = .ok (.getfield 41, 3) := by decide +kernel
theorem dX0_code_47 : decode cX0_code 47 = .ok (.iload_n 3, 1) := by decide +kernel
theorem dX0_code_48 : decode cX0_code 48 = .ok (.baload, 1) := by decide +kernel
theorem dX0_code_49 : decode cX0_code 49 = .ok (.ifCond .eq 23, 3) := by decide +kernel
theorem dX0_code_52 : decode cX0_code 52 = .ok (.aload_n 0, 1) := by decide +kernel
theorem dX0_code_53 : decode cX0_code 53 = .ok (.getfield 11, 3) := by decide +kernel
theorem dX0_code_56 : decode cX0_code 56 = .ok (.iload_n 3, 1) := by decide +kernel
theorem dX0_code_57 : decode cX0_code 57 = .ok (.aload_n 0, 1) := by decide +kernel
theorem dX0_code_58 : decode cX0_code 58 = .ok (.getfield 30, 3) := by decide +kernel
theorem dX0_code_61 : decode cX0_code 61 = .ok (.iastore, 1) := by decide +kernel
theorem dX0_code_62 : decode cX0_code 62 = .ok (.aload_n 0, 1) := by decide +kernel
theorem dX0_code_63 : decode cX0_code 63 = .ok (.iload_n 3, 1) := by decide +kernel
theorem dX0_code_64 : decode cX0_code 64 = .ok (.invokevirtual 45, 3) := by decide +kernel
theorem dX0_code_67 : decode cX0_code 67 = .ok (.aload_n 0, 1) := by decide +kernel
theorem dX0_code_68 : decode cX0_code 68 = .ok (.iload_n 3, 1) := by decide +kernel
theorem dX0_code_69 : decode cX0_code 69 = .ok (.invokevirtual 49, 3) := by decide +kernel
theorem dX0_code_72 : decode cX0_code 72 = .ok (.iinc 3 1, 3) := by decide +kernel
theorem dX0_code_75 : decode cX0_code 75 = .ok (.goto (-46), 3) := by decide +kernel
theorem dX0_code_78 : decode cX0_code 78 = .ok (.aload_n 0, 1) := by decide +kernel
theorem dX0_code_79 : decode cX0_code 79 = .ok (.getfield 11, 3) := by decide +kernel
theorem dX0_code_82 : decode cX0_code 82 = .ok (.aload_n 0, 1) := by decide +kernel
theorem dX0_code_83 : decode cX0_code 83 = .ok (.getfield 22, 3) := by decide +kernel
theorem dX0_code_86 : decode cX0_code 86 = .ok (.getfield 38, 3) := by decide +kernel
theorem dX0_code_89 : decode cX0_code 89 = .ok (.aload_n 0, 1) := by decide +kernel
theorem dX0_code_90 : decode cX0_code 90 = .ok (.getfield 30, 3) := by decide +kernel
theorem dX0_code_93 : decode cX0_code 93 = .ok (.iastore, 1) := by decide +kernel
theorem dX0_code_94 : decode cX0_code 94 = .ok (.aload_n 0, 1) := by decide +kernel
theorem dX0_code_95 : decode cX0_code 95 = .ok (.sipush 180, 3) := by decide +kernel
theorem dX0_code_98 : decode cX0_code 98 = .ok (.iconst 0, 1) := by decide +kernel
theorem dX0_code_99 : decode cX0_code 99 = .ok (.iconst 0, 1) := by decide +kernel
theorem dX0_code_100 : decode cX0_code 100 = .ok (.iconst 0, 1) := by decide +kernel
theorem dX0_code_101 : decode cX0_code 101 = .ok (.iconst 1, 1) := by decide +kernel
theorem dX0_code_102 : decode cX0_code 102 = .ok (.invokevirtual 34, 3) := by decide +kernel
theorem dX0_code_105 : decode cX0_code 105 = .ok (.aload_n 0, 1) := by decide +kernel
theorem dX0_code_106 : decode cX0_code 106 = .ok (.sipush 149, 3) := by decide +kernel
theorem dX0_code_109 : decode cX0_code 109 = .ok (.iconst 0, 1) := by decide +kernel
theorem dX0_code_110 : decode cX0_code 110 = .ok (.iconst 0, 1) := by decide +kernel
theorem dX0_code_111 : decode cX0_code 111 = .ok (.iconst 0, 1) := by decide +kernel
theorem dX0_code_112 : decode cX0_code 112 = .ok (.iconst 0, 1) := by decide +kernel
theorem dX0_code_113 : decode cX0_code 113 = .ok (.invokevirtual 34, 3) := by decide +kernel
theorem dX0_code_116 : decode cX0_code 116 = .ok (.aload_n 0, 1) := by decide +kernel
theorem dX0_code_117 : decode cX0_code 117 = .ok (.getfield 11, 3) := by decide +kernel
theorem dX0_code_120 : decode cX0_code 120 = .ok (.aload_n 0, 1) := by decide +kernel
theorem dX0_code_121 : decode cX0_code 121 = .ok (.getfield 22, 3) := by decide +kernel
theorem dX0_code_124 : decode cX0_code 124 = .ok (.getfield 38, 3) := by decide +kernel
theorem dX0_code_127 : decode cX0_code 127 = .ok (.iconst 1, 1) := by decide +kernel
theorem dX0_code_128 : decode cX0_code 128 = .ok (.iadd, 1) := by decide +kernel
theorem dX0_code_129 : decode cX0_code 129 = .ok (.aload_n 0, 1) := by decide +kernel
theorem dX0_code_130 : decode cX0_code 130 = .ok (.getfield 30, 3) := by decide +kernel
theorem dX0_code_133 : decode cX0_code 133 = .ok (.iastore, 1) := by decide +kernel
theorem dX0_code_134 : decode cX0_code 134 = .ok (.aload_n 0, 1) := by decide +kernel
theorem dX0_code_135 : decode cX0_code 135 = .ok (.sipush 180, 3) := by decide +kernel
theorem dX0_code_138 : decode cX0_code 138 = .ok (.iconst 0, 1) := by decide +kernel
theorem dX0_code_139 : decode cX0_code 139 = .ok (.iconst 0, 1) := by decide +kernel
theorem dX0_code_140 : decode cX0_code 140 = .ok (.iconst 0, 1) := by decide +kernel
theorem dX0_code_141 : decode cX0_code 141 = .ok (.iconst 0, 1) := by decide +kernel
theorem dX0_code_142 : decode cX0_code 142 = .ok (.invokevirtual 34, 3) := by decide +kernel
theorem dX0_code_145 : decode cX0_code 145 = .ok (.aload_n 0, 1) := by decide +kernel
theorem dX0_code_146 : decode cX0_code 146 = .ok (.sipush 149, 3) := by decide +kernel
theorem dX0_code_149 : decode cX0_code 149 = .ok (.iconst 0, 1) := by decide +kernel
theorem dX0_code_150 : decode cX0_code 150 = .ok (.iconst 0, 1) := by decide +kernel
theorem dX0_code_151 : decode cX0_code 151 = .ok (.iconst 0, 1) := by decide +kernel
theorem dX0_code_152 : decode cX0_code 152 = .ok (.iconst 0, 1) := by decide +kernel
theorem dX0_code_153 : decode cX0_code 153 = .ok (.invokevirtual 34, 3) := by decide +kernel
theorem dX0_code_156 : decode cX0_code 156 = .ok (.aload_n 0, 1) := by decide +kernel
theorem dX0_code_157 : decode cX0_code 157 = .ok (.getfield 30, 3) := by decide +kernel
theorem dX0_code_160 : decode cX0_code 160 = .ok (.sipush 4000, 3) := by decide +kernel
theorem dX0_code_163 : decode cX0_code 163 = .ok (.if_icmp .le 5, 3) := by decide +kernel
theorem dX0_code_166 : decode cX0_code 166 = .ok (.iconst (-1), 1) := by decide +kernel
theorem dX0_code_167 : decode cX0_code 167 = .ok (.ireturn, 1) := by decide +kernel
theorem dX0_code_168 : decode cX0_code 168 = .ok (.aload_n 0, 1) := by decide +kernel
theorem dX0_code_169 : decode cX0_code 169 = .ok (.invokevirtual 52, 3) := by decide +kernel
theorem dX0_code_172 : decode cX0_code 172 = .ok (.aload_n 0, 1) := by decide +kernel
theorem dX0_code_173 : decode cX0_code 173 = .ok (.getfield 26, 3) := by decide +kernel
theorem dX0_code_176 : decode cX0_code 176 = .ok (.aload_n 0, 1) := by decide +kernel
theorem dX0_code_177 : decode cX0_code 177 = .ok (.getfield 30, 3) := by decide +kernel
theorem dX0_code_180 : decode cX0_code 180 = .ok (.putfield 55, 3) := by decide +kernel
theorem dX0_code_183 : decode cX0_code 183 = .ok (.aload_n 0, 1) := by decide +kernel
theorem dX0_code_184 : decode cX0_code 184 = .ok (.getfield 30, 3) := by decide +kernel
theorem dX0_code_187 : decode cX0_code 187 = .ok (.ireturn, 1) := by decide +kernel
theorem dX0_put_0 : decode cX0_put 0 = .ok (.aload_n 0, 1) := by decide +kernel
theorem dX0_put_1 : decode cX0_put 1 = .ok (.getfield 30, 3) := by decide +kernel
theorem dX0_put_4 : decode cX0_put 4 = .ok (.sipush 4000, 3) := by decide +kernel
theorem dX0_put_7 : decode cX0_put 7 = .ok (.if_icmp .ge 61, 3) := by decide +kernel
theorem dX0_put_10 : decode cX0_put 10 = .ok (.iload 4, 2) := by decide +kernel
theorem dX0_put_12 : decode cX0_put 12 = .ok (.ldc 56, 2) := by decide +kernel
theorem dX0_put_14 : decode cX0_put 14 = .ok (.iand, 1) := by decide +kernel
theorem dX0_put_15 : decode cX0_put 15 = .ok (.bipush 16, 2) := by decide +kernel
theorem dX0_put_17 : decode cX0_put 17 = .ok (.ishl, 1) := by decide +kernel
theorem dX0_put_18 : decode cX0_put 18 = .ok (.iload_n 3, 1) := by decide +kernel
theorem dX0_put_19 : decode cX0_put 19 = .ok (.bipush 12, 2) := by decide +kernel
theorem dX0_put_21 : decode cX0_put 21 = .ok (.ishl, 1) := by decide +kernel
theorem dX0_put_22 : decode cX0_put 22 = .ok (.ior, 1) := by decide +kernel
theorem dX0_put_23 : decode cX0_put 23 = .ok (.iload_n 2, 1) := by decide +kernel
theorem dX0_put_24 : decode cX0_put 24 = .ok (.bipush 8, 2) := by decide +kernel
theorem dX0_put_26 : decode cX0_put 26 = .ok (.ishl, 1) := by decide +kernel
theorem dX0_put_27 : decode cX0_put 27 = .ok (.ior, 1) := by decide +kernel
theorem dX0_put_28 : decode cX0_put 28 = .ok (.iload_n 1, 1) := by decide +kernel
theorem dX0_put_29 : decode cX0_put 29 = .ok (.ior, 1) := by decide +kernel
theorem dX0_put_30 : decode cX0_put 30 = .ok (.istore 6, 2) := by decide +kernel
theorem dX0_put_32 : decode cX0_put 32 = .ok (.aload_n 0, 1) := by decide +kernel
theorem dX0_put_33 : decode cX0_put 33 = .ok (.getfield 26, 3) := by decide +kernel
theorem dX0_put_36 : decode cX0_put 36 = .ok (.getfield 57, 3) := by decide +kernel
theorem dX0_put_39 : decode cX0_put 39 = .ok (.aload_n 0, 1) := by decide +kernel
theorem dX0_put_40 : decode cX0_put 40 = .ok (.getfield 30, 3) := by decide +kernel
theorem dX0_put_43 : decode cX0_put 43 = .ok (.iload 5, 2) := by decide +kernel
theorem dX0_put_45 : decode cX0_put 45 = .ok (.i2l, 1) := by decide +kernel
theorem dX0_put_46 : decode cX0_put 46 = .ok (.bipush 32, 2) := by decide +kernel
theorem dX0_put_48 : decode cX0_put 48 = .ok (.lshl, 1) := by decide +kernel
theorem dX0_put_49 : decode cX0_put 49 = .ok (.iload 6, 2) := by decide +kernel
theorem dX0_put_51 : decode cX0_put 51 = .ok (.i2l, 1) := by decide +kernel
theorem dX0_put_52 : decode cX0_put 52 = .ok (.ldc2_w 61, 3) := by decide +kernel
theorem dX0_put_55 : decode cX0_put 55 = .ok (.land, 1) := by decide +kernel
theorem dX0_put_56 : decode cX0_put 56 = .ok (.lor, 1) := by decide +kernel
theorem dX0_put_57 : decode cX0_put 57 = .ok (.lastore, 1) := by decide +kernel
theorem dX0_put_58 : decode cX0_put 58 = .ok (.aload_n 0, 1) := by decide +kernel
theorem dX0_put_59 : decode cX0_put 59 = .ok (.getfield 19, 3) := by decide +kernel
theorem dX0_put_62 : decode cX0_put 62 = .ok (.aload_n 0, 1) := by decide +kernel
theorem dX0_put_63 : decode cX0_put 63 = .ok (.getfield 30, 3) := by decide +kernel
theorem dX0_put_66 : decode cX0_put 66 = .ok (.iconst (-1), 1) := by decide +kernel
theorem dX0_put_67 : decode cX0_put 67 = .ok (.iastore, 1) := by decide +kernel
theorem dX0_put_68 : decode cX0_put 68 = .ok (.aload_n 0, 1) := by decide +kernel
theorem dX0_put_69 : decode cX0_put 69 = .ok (.dup, 1) := by decide +kernel
theorem dX0_put_70 : decode cX0_put 70 = .ok (.getfield 30, 3) := by decide +kernel
theorem dX0_put_73 : decode cX0_put 73 = .ok (.iconst 1, 1) := by decide +kernel
theorem dX0_put_74 : decode cX0_put 74 = .ok (.iadd, 1) := by decide +kernel
theorem dX0_put_75 : decode cX0_put 75 = .ok (.putfield 30, 3) := by decide +kernel
theorem dX0_put_78 : decode cX0_put 78 = .ok (.return_, 1) := by decide +kernel
theorem dX0_putGoing_0 : decode cX0_putGoing 0 = .ok (.aload_n 0, 1) := by decide +kernel
theorem dX0_putGoing_1 : decode cX0_putGoing 1 = .ok (.iload_n 1, 1) := by decide +kernel
theorem dX0_putGoing_2 : decode cX0_putGoing 2 = .ok (.iload_n 2, 1) := by decide +kernel
theorem dX0_putGoing_3 : decode cX0_putGoing 3 = .ok (.iload_n 3, 1) := by decide +kernel
theorem dX0_putGoing_4 : decode cX0_putGoing 4 = .ok (.iconst 0, 1) := by decide +kernel
theorem dX0_putGoing_5 : decode cX0_putGoing 5 = .ok (.iload 4, 2) := by decide +kernel
theorem dX0_putGoing_7 : decode cX0_putGoing 7 = .ok (.invokevirtual 34, 3) := by decide +kernel
theorem dX0_putGoing_10 : decode cX0_putGoing 10 = .ok (.aload_n 0, 1) := by decide +kernel
theorem dX0_putGoing_11 : decode cX0_putGoing 11 = .ok (.getfield 30, 3) := by decide +kernel
theorem dX0_putGoing_14 : decode cX0_putGoing 14 = .ok (.sipush 4000, 3) := by decide +kernel
theorem dX0_putGoing_17 : decode cX0_putGoing 17 = .ok (.if_icmp .gt 16, 3) := by decide +kernel
theorem dX0_putGoing_20 : decode cX0_putGoing 20 = .ok (.aload_n 0, 1) := by decide +kernel
theorem dX0_putGoing_21 : decode cX0_putGoing 21 = .ok (.getfield 19, 3) := by decide +kernel
theorem dX0_putGoing_24 : decode cX0_putGoing 24 = .ok (.aload_n 0, 1) := by decide +kernel
theorem dX0_putGoing_25 : decode cX0_putGoing 25 = .ok (.getfield 30, 3) := by decide +kernel
theorem dX0_putGoing_28 : decode cX0_putGoing 28 = .ok (.iconst 1, 1) := by decide +kernel
theorem dX0_putGoing_29 : decode cX0_putGoing 29 = .ok (.isub, 1) := by decide +kernel
theorem dX0_putGoing_30 : decode cX0_putGoing 30 = .ok (.iload 5, 2) := by decide +kernel
theorem dX0_putGoing_32 : decode cX0_putGoing 32 = .ok (.iastore, 1) := by decide +kernel
theorem dX0_putGoing_33 : decode cX0_putGoing 33 = .ok (.return_, 1) := by decide +kernel
theorem dX0_placeGoals_0 : decode cX0_placeGoals 0 = .ok (.iconst 0, 1) := by decide +kernel
theorem dX0_placeGoals_1 : decode cX0_placeGoals 1 = .ok (.istore_n 1, 1) := by decide +kernel
theorem dX0_placeGoals_2 : decode cX0_placeGoals 2 = .ok (.iload_n 1, 1) := by decide +kernel
theorem dX0_placeGoals_3 : decode cX0_placeGoals 3 = .ok (.aload_n 0, 1) := by decide +kernel
theorem dX0_placeGoals_4 : decode cX0_placeGoals 4 = .ok (.getfield 30, 3) := by decide +kernel
theorem dX0_placeGoals_7 : decode cX0_placeGoals 7 = .ok (.if_icmp .ge 53, 3) := by decide +kernel
theorem dX0_placeGoals_10 : decode cX0_placeGoals 10 = .ok (.aload_n 0, 1) := by decide +kernel
theorem dX0_placeGoals_11 : decode cX0_placeGoals 11 = .ok (.getfield 19, 3) := by decide +kernel
theorem dX0_placeGoals_14 : decode cX0_placeGoals 14 = .ok (.iload_n 1, 1) := by decide +kernel
theorem dX0_placeGoals_15 : decode cX0_placeGoals 15 = .ok (.iaload, 1) := by decide +kernel
theorem dX0_placeGoals_16 : decode cX0_placeGoals 16 = .ok (.ifCond .lt 38, 3) := by decide +kernel
theorem dX0_placeGoals_19 : decode cX0_placeGoals 19 = .ok (.aload_n 0, 1) := by decide +kernel
theorem dX0_placeGoals_20 : decode cX0_placeGoals 20 = .ok (.getfield 26, 3) := by decide +kernel
theorem dX0_placeGoals_23 : decode cX0_placeGoals 23 = .ok (.getfield 57, 3) := by decide +kernel
theorem dX0_placeGoals_26 : decode cX0_placeGoals 26 = .ok (.iload_n 1, 1) := by decide +kernel
theorem dX0_placeGoals_27 : decode cX0_placeGoals 27 = .ok (.dup2, 1) := by decide +kernel
theorem dX0_placeGoals_28 : decode cX0_placeGoals 28 = .ok (.laload, 1) := by decide +kernel
theorem dX0_placeGoals_29 : decode cX0_placeGoals 29 = .ok (.aload_n 0, 1) := by decide +kernel
theorem dX0_placeGoals_30 : decode cX0_placeGoals 30 = .ok (.getfield 11, 3) := by decide +kernel
theorem dX0_placeGoals_33 : decode cX0_placeGoals 33 = .ok (.aload_n 0, 1) := by decide +kernel
theorem dX0_placeGoals_34 : decode cX0_placeGoals 34 = .ok (.getfield 19, 3) := by decide +kernel
theorem dX0_placeGoals_37 : decode cX0_placeGoals 37 = .ok (.iload_n 1, 1) := by decide +kernel
theorem dX0_placeGoals_38 : decode cX0_placeGoals 38 = .ok (.iaload, 1) := by decide +kernel
theorem dX0_placeGoals_39 : decode cX0_placeGoals 39 = .ok (.iaload, 1) := by decide +kernel
theorem dX0_placeGoals_40 : decode cX0_placeGoals 40 = .ok (.iload_n 1, 1) := by decide +kernel
theorem dX0_placeGoals_41 : decode cX0_placeGoals 41 = .ok (.isub, 1) := by decide +kernel
theorem dX0_placeGoals_42 : decode cX0_placeGoals 42 = .ok (.iconst 1, 1) := by decide +kernel
theorem dX0_placeGoals_43 : decode cX0_placeGoals 43 = .ok (.isub, 1) := by decide +kernel
theorem dX0_placeGoals_44 : decode cX0_placeGoals 44 = .ok (.i2l, 1) := by decide +kernel
theorem dX0_placeGoals_45 : decode cX0_placeGoals 45 = .ok (.ldc2_w 63, 3) := by decide +kernel
theorem dX0_placeGoals_48 : decode cX0_placeGoals 48 = .ok (.land, 1) := by decide +kernel
theorem dX0_placeGoals_49 : decode cX0_placeGoals 49 = .ok (.bipush 16, 2) := by decide +kernel
theorem dX0_placeGoals_51 : decode cX0_placeGoals 51 = .ok (.lshl, 1) := by decide +kernel
theorem dX0_placeGoals_52 : decode cX0_placeGoals 52 = .ok (.lor, 1) := by decide +kernel
theorem dX0_placeGoals_53 : decode cX0_placeGoals 53 = .ok (.lastore, 1) := by decide +kernel
theorem dX0_placeGoals_54 : decode cX0_placeGoals 54 = .ok (.iinc 1 1, 3) := by decide +kernel
theorem dX0_placeGoals_57 : decode cX0_placeGoals 57 = .ok (.goto (-55), 3) := by decide +kernel
theorem dX0_placeGoals_60 : decode cX0_placeGoals 60 = .ok (.return_, 1) := by decide +kernel
theorem dX0_rightIsNumber_0 : decode cX0_rightIsNumber 0 = .ok (.aload_n 0, 1) := by decide +kernel
theorem dX0_rightIsNumber_1 : decode cX0_rightIsNumber 1 = .ok (.getfield 22, 3) := by decide +kernel
theorem dX0_rightIsNumber_4 : decode cX0_rightIsNumber 4 = .ok (.getfield 65, 3) := by decide +kernel
theorem dX0_rightIsNumber_7 : decode cX0_rightIsNumber 7 = .ok (.iload_n 1, 1) := by decide +kernel
theorem dX0_rightIsNumber_8 : decode cX0_rightIsNumber 8 = .ok (.iaload, 1) := by decide +kernel
theorem dX0_rightIsNumber_9 : decode cX0_rightIsNumber 9 = .ok (.istore_n 2, 1) := by decide +kernel
theorem dX0_rightIsNumber_10 : decode cX0_rightIsNumber 10 = .ok (.aload_n 0, 1) := by decide +kernel
theorem dX0_rightIsNumber_11 : decode cX0_rightIsNumber 11 = .ok (.getfield 22, 3) := by decide +kernel
theorem dX0_rightIsNumber_14 : decode cX0_rightIsNumber 14 = .ok (.getfield 68, 3) := by decide +kernel
theorem dX0_rightIsNumber_17 : decode cX0_rightIsNumber 17 = .ok (.iload_n 1, 1) := by decide +kernel
theorem dX0_rightIsNumber_18 : decode cX0_rightIsNumber 18 = .ok (.iaload, 1) := by decide +kernel
theorem dX0_rightIsNumber_19 : decode cX0_rightIsNumber 19 = .ok (.iload_n 2, 1) := by decide +kernel
theorem dX0_rightIsNumber_20 : decode cX0_rightIsNumber 20 = .ok (.isub, 1) := by decide +kernel
theorem dX0_rightIsNumber_21 : decode cX0_rightIsNumber 21 = .ok (.iconst 1, 1) := by decide +kernel
theorem dX0_rightIsNumber_22 : decode cX0_rightIsNumber 22 = .ok (.if_icmp .ne 32, 3) := by decide +kernel
theorem dX0_rightIsNumber_25 : decode cX0_rightIsNumber 25 = .ok (.aload_n 0, 1) := by decide +kernel
theorem dX0_rightIsNumber_26 : decode cX0_rightIsNumber 26 = .ok (.getfield 22, 3) := by decide +kernel
theorem dX0_rightIsNumber_29 : decode cX0_rightIsNumber 29 = .ok (.getfield 71, 3) := by decide +kernel
theorem dX0_rightIsNumber_32 : decode cX0_rightIsNumber 32 = .ok (.iload_n 2, 1) := by decide +kernel
theorem dX0_rightIsNumber_33 : decode cX0_rightIsNumber 33 = .ok (.iaload, 1) := by decide +kernel
theorem dX0_rightIsNumber_34 : decode cX0_rightIsNumber 34 = .ok (.ifCond .ne 20, 3) := by decide +kernel
theorem dX0_rightIsNumber_37 : decode cX0_rightIsNumber 37 = .ok (.aload_n 0, 1) := by decide +kernel
theorem dX0_rightIsNumber_38 : decode cX0_rightIsNumber 38 = .ok (.getfield 22, 3) := by decide +kernel
theorem dX0_rightIsNumber_41 : decode cX0_rightIsNumber 41 = .ok (.getfield 74, 3) := by decide +kernel
theorem dX0_rightIsNumber_44 : decode cX0_rightIsNumber 44 = .ok (.iload_n 2, 1) := by decide +kernel
theorem dX0_rightIsNumber_45 : decode cX0_rightIsNumber 45 = .ok (.iaload, 1) := by decide +kernel
theorem dX0_rightIsNumber_46 : decode cX0_rightIsNumber 46 = .ok (.iconst 1, 1) := by decide +kernel
theorem dX0_rightIsNumber_47 : decode cX0_rightIsNumber 47 = .ok (.if_icmp .ne 7, 3) := by decide +kernel
theorem dX0_rightIsNumber_50 : decode cX0_rightIsNumber 50 = .ok (.iconst 1, 1) := by decide +kernel
theorem dX0_rightIsNumber_51 : decode cX0_rightIsNumber 51 = .ok (.goto 4, 3) := by decide +kernel
theorem dX0_rightIsNumber_54 : decode cX0_rightIsNumber 54 = .ok (.iconst 0, 1) := by decide +kernel
theorem dX0_rightIsNumber_55 : decode cX0_rightIsNumber 55 = .ok (.ireturn, 1) := by decide +kernel
theorem dX0_codeTest_0 : decode cX0_codeTest 0 = .ok (.aload_n 0, 1) := by decide +kernel
theorem dX0_codeTest_1 : decode cX0_codeTest 1 = .ok (.aload_n 0, 1) := by decide +kernel
theorem dX0_codeTest_2 : decode cX0_codeTest 2 = .ok (.getfield 22, 3) := by decide +kernel
theorem dX0_codeTest_5 : decode cX0_codeTest 5 = .ok (.getfield 77, 3) := by decide +kernel
theorem dX0_codeTest_8 : decode cX0_codeTest 8 = .ok (.iload_n 1, 1) := by decide +kernel
theorem dX0_codeTest_9 : decode cX0_codeTest 9 = .ok (.iaload, 1) := by decide +kernel
theorem dX0_codeTest_10 : decode cX0_codeTest 10 = .ok (.aload_n 0, 1) := by decide +kernel
theorem dX0_codeTest_11 : decode cX0_codeTest 11 = .ok (.getfield 22, 3) := by decide +kernel
theorem dX0_codeTest_14 : decode cX0_codeTest 14 = .ok (.getfield 65, 3) := by decide +kernel
theorem dX0_codeTest_17 : decode cX0_codeTest 17 = .ok (.iload_n 1, 1) := by decide +kernel
theorem dX0_codeTest_18 : decode cX0_codeTest 18 = .ok (.iaload, 1) := by decide +kernel
theorem dX0_codeTest_19 : decode cX0_codeTest 19 = .ok (.invokevirtual 80, 3) := by decide +kernel
theorem dX0_codeTest_22 : decode cX0_codeTest 22 = .ok (.aload_n 0, 1) := by decide +kernel
theorem dX0_codeTest_23 : decode cX0_codeTest 23 = .ok (.iload_n 1, 1) := by decide +kernel
theorem dX0_codeTest_24 : decode cX0_codeTest 24 = .ok (.invokevirtual 84, 3) := by decide +kernel
theorem dX0_codeTest_27 : decode cX0_codeTest 27 = .ok (.ifCond .ne 35, 3) := by decide +kernel
theorem dX0_codeTest_30 : decode cX0_codeTest 30 = .ok (.aload_n 0, 1) := by decide +kernel
theorem dX0_codeTest_31 : decode cX0_codeTest 31 = .ok (.iconst 0, 1) := by decide +kernel
theorem dX0_codeTest_32 : decode cX0_codeTest 32 = .ok (.invokevirtual 88, 3) := by decide +kernel
theorem dX0_codeTest_35 : decode cX0_codeTest 35 = .ok (.aload_n 0, 1) := by decide +kernel
theorem dX0_codeTest_36 : decode cX0_codeTest 36 = .ok (.aload_n 0, 1) := by decide +kernel
theorem dX0_codeTest_37 : decode cX0_codeTest 37 = .ok (.getfield 22, 3) := by decide +kernel
theorem dX0_codeTest_40 : decode cX0_codeTest 40 = .ok (.getfield 65, 3) := by decide +kernel
theorem dX0_codeTest_43 : decode cX0_codeTest 43 = .ok (.iload_n 1, 1) := by decide +kernel
theorem dX0_codeTest_44 : decode cX0_codeTest 44 = .ok (.iaload, 1) := by decide +kernel
theorem dX0_codeTest_45 : decode cX0_codeTest 45 = .ok (.aload_n 0, 1) := by decide +kernel
theorem dX0_codeTest_46 : decode cX0_codeTest 46 = .ok (.getfield 22, 3) := by decide +kernel
theorem dX0_codeTest_49 : decode cX0_codeTest 49 = .ok (.getfield 68, 3) := by decide +kernel
theorem dX0_codeTest_52 : decode cX0_codeTest 52 = .ok (.iload_n 1, 1) := by decide +kernel
theorem dX0_codeTest_53 : decode cX0_codeTest 53 = .ok (.iaload, 1) := by decide +kernel
theorem dX0_codeTest_54 : decode cX0_codeTest 54 = .ok (.invokevirtual 80, 3) := by decide +kernel
theorem dX0_codeTest_57 : decode cX0_codeTest 57 = .ok (.aload_n 0, 1) := by decide +kernel
theorem dX0_codeTest_58 : decode cX0_codeTest 58 = .ok (.iconst 0, 1) := by decide +kernel
theorem dX0_codeTest_59 : decode cX0_codeTest 59 = .ok (.invokevirtual 91, 3) := by decide +kernel
theorem dX0_codeTest_62 : decode cX0_codeTest 62 = .ok (.return_, 1) := by decide +kernel
theorem dX0_codeWays_0 : decode cX0_codeWays 0 = .ok (.aload_n 0, 1) := by decide +kernel
theorem dX0_codeWays_1 : decode cX0_codeWays 1 = .ok (.getfield 22, 3) := by decide +kernel
theorem dX0_codeWays_4 : decode cX0_codeWays 4 = .ok (.getfield 94, 3) := by decide +kernel
theorem dX0_codeWays_7 : decode cX0_codeWays 7 = .ok (.iload_n 1, 1) := by decide +kernel
theorem dX0_codeWays_8 : decode cX0_codeWays 8 = .ok (.iaload, 1) := by decide +kernel
theorem dX0_codeWays_9 : decode cX0_codeWays 9 = .ok (.istore_n 2, 1) := by decide +kernel
theorem dX0_codeWays_10 : decode cX0_codeWays 10 = .ok (.aload_n 0, 1) := by decide +kernel
theorem dX0_codeWays_11 : decode cX0_codeWays 11 = .ok (.getfield 22, 3) := by decide +kernel
theorem dX0_codeWays_14 : decode cX0_codeWays 14 = .ok (.getfield 97, 3) := by decide +kernel
theorem dX0_codeWays_17 : decode cX0_codeWays 17 = .ok (.iload_n 1, 1) := by decide +kernel
theorem dX0_codeWays_18 : decode cX0_codeWays 18 = .ok (.iaload, 1) := by decide +kernel
theorem dX0_codeWays_19 : decode cX0_codeWays 19 = .ok (.istore_n 3, 1) := by decide +kernel
theorem dX0_codeWays_20 : decode cX0_codeWays 20 = .ok (.aload_n 0, 1) := by decide +kernel
theorem dX0_codeWays_21 : decode cX0_codeWays 21 = .ok (.iload_n 1, 1) := by decide +kernel
theorem dX0_codeWays_22 : decode cX0_codeWays 22 = .ok (.invokevirtual 100, 3) := by decide +kernel
theorem dX0_codeWays_25 : decode cX0_codeWays 25 = .ok (.istore 4, 2) := by decide +kernel
theorem dX0_codeWays_27 : decode cX0_codeWays 27 = .ok (.iload_n 2, 1) := by decide +kernel
theorem dX0_codeWays_28 : decode cX0_codeWays 28 = .ok (.iload_n 3, 1) := by decide +kernel
theorem dX0_codeWays_29 : decode cX0_codeWays 29 = .ok (.if_icmp .ne 19, 3) := by decide +kernel
theorem dX0_codeWays_32 : decode cX0_codeWays 32 = .ok (.iload_n 2, 1) := by decide +kernel
theorem dX0_codeWays_33 : decode cX0_codeWays 33 = .ok (.iload 4, 2) := by decide +kernel
theorem dX0_codeWays_35 : decode cX0_codeWays 35 = .ok (.if_icmp .eq 12, 3) := by decide +kernel
theorem dX0_codeWays_38 : decode cX0_codeWays 38 = .ok (.aload_n 0, 1) := by decide +kernel
theorem dX0_codeWays_39 : decode cX0_codeWays 39 = .ok (.iconst 5, 1) := by decide +kernel
theorem dX0_codeWays_40 : decode cX0_codeWays 40 = .ok (.iconst 0, 1) := by decide +kernel
theorem dX0_codeWays_41 : decode cX0_codeWays 41 = .ok (.iconst 0, 1) := by decide +kernel
theorem dX0_codeWays_42 : decode cX0_codeWays 42 = .ok (.iconst 0, 1) := by decide +kernel
theorem dX0_codeWays_43 : decode cX0_codeWays 43 = .ok (.iload_n 2, 1) := by decide +kernel
theorem dX0_codeWays_44 : decode cX0_codeWays 44 = .ok (.invokevirtual 104, 3) := by decide +kernel
theorem dX0_codeWays_47 : decode cX0_codeWays 47 = .ok (.return_, 1) := by decide +kernel
theorem dX0_codeWays_48 : decode cX0_codeWays 48 = .ok (.iload_n 2, 1) := by decide +kernel
theorem dX0_codeWays_49 : decode cX0_codeWays 49 = .ok (.iload 4, 2) := by decide +kernel
theorem dX0_codeWays_51 : decode cX0_codeWays 51 = .ok (.if_icmp .ne 7, 3) := by decide +kernel
theorem dX0_codeWays_54 : decode cX0_codeWays 54 = .ok (.iconst 1, 1) := by decide +kernel
theorem dX0_codeWays_55 : decode cX0_codeWays 55 = .ok (.goto 4, 3) := by decide +kernel
theorem dX0_codeWays_58 : decode cX0_codeWays 58 = .ok (.iconst 0, 1) := by decide +kernel
theorem dX0_codeWays_59 : decode cX0_codeWays 59 = .ok (.istore 5, 2) := by decide +kernel
theorem dX0_codeWays_61 : decode cX0_codeWays 61 = .ok (.iload 5, 2) := by decide +kernel
theorem dX0_codeWays_63 : decode cX0_codeWays 63 = .ok (.ifCond .eq 18, 3) := by decide +kernel
theorem dX0_codeWays_66 : decode cX0_codeWays 66 = .ok (.aload_n 0, 1) := by decide +kernel
theorem dX0_codeWays_67 : decode cX0_codeWays 67 = .ok (.getfield 22, 3) := by decide +kernel
theorem dX0_codeWays_70 : decode cX0_codeWays 70 = .ok (.getfield 107, 3) := by decide +kernel
theorem dX0_codeWays_73 : decode cX0_codeWays 73 = .ok (.iload_n 1, 1) := by decide +kernel
theorem dX0_codeWays_74 : decode cX0_codeWays 74 = .ok (.iaload, 1) := by decide +kernel
theorem dX0_codeWays_75 : decode cX0_codeWays 75 = .ok (.invokestatic 110, 3) := by decide +kernel
theorem dX0_codeWays_78 : decode cX0_codeWays 78 = .ok (.goto 12, 3) := by decide +kernel
theorem dX0_codeWays_81 : decode cX0_codeWays 81 = .ok (.aload_n 0, 1) := by decide +kernel
theorem dX0_codeWays_82 : decode cX0_codeWays 82 = .ok (.getfield 22, 3) := by decide +kernel
theorem dX0_codeWays_85 : decode cX0_codeWays 85 = .ok (.getfield 107, 3) := by decide +kernel
theorem dX0_codeWays_88 : decode cX0_codeWays 88 = .ok (.iload_n 1, 1) := by decide +kernel
theorem dX0_codeWays_89 : decode cX0_codeWays 89 = .ok (.iaload, 1) := by decide +kernel
theorem dX0_codeWays_90 : decode cX0_codeWays 90 = .ok (.istore 6, 2) := by decide +kernel
theorem dX0_codeWays_92 : decode cX0_codeWays 92 = .ok (.aload_n 0, 1) := by decide +kernel
theorem dX0_codeWays_93 : decode cX0_codeWays 93 = .ok (.iload_n 1, 1) := by decide +kernel
theorem dX0_codeWays_94 : decode cX0_codeWays 94 = .ok (.invokevirtual 84, 3) := by decide +kernel
theorem dX0_codeWays_97 : decode cX0_codeWays 97 = .ok (.istore 7, 2) := by decide +kernel
theorem dX0_codeWays_99 : decode cX0_codeWays 99 = .ok (.aload_n 0, 1) := by decide +kernel
theorem dX0_codeWays_100 : decode cX0_codeWays 100 = .ok (.iload 6, 2) := by decide +kernel
theorem dX0_codeWays_102 : decode cX0_codeWays 102 = .ok (.iconst 4, 1) := by decide +kernel
theorem dX0_codeWays_103 : decode cX0_codeWays 103 = .ok (.ishl, 1) := by decide +kernel
theorem dX0_codeWays_104 : decode cX0_codeWays 104 = .ok (.iload 7, 2) := by decide +kernel
theorem dX0_codeWays_106 : decode cX0_codeWays 106 = .ok (.ifCond .eq 8, 3) := by decide +kernel
theorem dX0_codeWays_109 : decode cX0_codeWays 109 = .ok (.bipush 6, 2) := by decide +kernel
theorem dX0_codeWays_111 : decode cX0_codeWays 111 = .ok (.goto 5, 3) := by decide +kernel
theorem dX0_codeWays_114 : decode cX0_codeWays 114 = .ok (.bipush 14, 2) := by decide +kernel
theorem dX0_codeWays_116 : decode cX0_codeWays 116 = .ok (.ior, 1) := by decide +kernel
theorem dX0_codeWays_117 : decode cX0_codeWays 117 = .ok (.iconst 0, 1) := by decide +kernel
theorem dX0_codeWays_118 : decode cX0_codeWays 118 = .ok (.iload 7, 2) := by decide +kernel
theorem dX0_codeWays_120 : decode cX0_codeWays 120 = .ok (.ifCond .eq 7, 3) := by decide +kernel
theorem dX0_codeWays_123 : decode cX0_codeWays 123 = .ok (.iconst 0, 1) := by decide +kernel
theorem dX0_codeWays_124 : decode cX0_codeWays 124 = .ok (.goto 5, 3) := by decide +kernel
theorem dX0_codeWays_127 : decode cX0_codeWays 127 = .ok (.bipush 7, 2) := by decide +kernel
theorem dX0_codeWays_129 : decode cX0_codeWays 129 = .ok (.iload 7, 2) := by decide +kernel
theorem dX0_codeWays_131 : decode cX0_codeWays 131 = .ok (.ifCond .eq 23, 3) := by decide +kernel
theorem dX0_codeWays_134 : decode cX0_codeWays 134 = .ok (.aload_n 0, 1) := by decide +kernel
theorem dX0_codeWays_135 : decode cX0_codeWays 135 = .ok (.getfield 22, 3) := by decide +kernel
theorem dX0_codeWays_138 : decode cX0_codeWays 138 = .ok (.getfield 113, 3) := by decide +kernel
theorem dX0_codeWays_141 : decode cX0_codeWays 141 = .ok (.aload_n 0, 1) := by decide +kernel
theorem dX0_codeWays_142 : decode cX0_codeWays 142 = .ok (.getfield 22, 3) := by decide +kernel
theorem dX0_codeWays_145 : decode cX0_codeWays 145 = .ok (.getfield 65, 3) := by decide +kernel
theorem dX0_codeWays_148 : decode cX0_codeWays 148 = .ok (.iload_n 1, 1) := by decide +kernel
theorem dX0_codeWays_149 : decode cX0_codeWays 149 = .ok (.iaload, 1) := by decide +kernel
theorem dX0_codeWays_150 : decode cX0_codeWays 150 = .ok (.iaload, 1) := by decide +kernel
theorem dX0_codeWays_151 : decode cX0_codeWays 151 = .ok (.goto 4, 3) := by decide +kernel
theorem dX0_codeWays_154 : decode cX0_codeWays 154 = .ok (.iconst 0, 1) := by decide +kernel
theorem dX0_codeWays_155 : decode cX0_codeWays 155 = .ok (.iload 5, 2) := by decide +kernel
theorem dX0_codeWays_157 : decode cX0_codeWays 157 = .ok (.ifCond .eq 7, 3) := by decide +kernel
theorem dX0_codeWays_160 : decode cX0_codeWays 160 = .ok (.iload_n 3, 1) := by decide +kernel
theorem dX0_codeWays_161 : decode cX0_codeWays 161 = .ok (.goto 4, 3) := by decide +kernel
theorem dX0_codeWays_164 : decode cX0_codeWays 164 = .ok (.iload_n 2, 1) := by decide +kernel
theorem dX0_codeWays_165 : decode cX0_codeWays 165 = .ok (.invokevirtual 104, 3) := by decide +kernel
theorem dX0_codeWays_168 : decode cX0_codeWays 168 = .ok (.iload 5, 2) := by decide +kernel
theorem dX0_codeWays_170 : decode cX0_codeWays 170 = .ok (.ifCond .ne 18, 3) := by decide +kernel
theorem dX0_codeWays_173 : decode cX0_codeWays 173 = .ok (.iload_n 3, 1) := by decide +kernel
theorem dX0_codeWays_174 : decode cX0_codeWays 174 = .ok (.iload 4, 2) := by decide +kernel
theorem dX0_codeWays_176 : decode cX0_codeWays 176 = .ok (.if_icmp .eq 12, 3) := by decide +kernel
theorem dX0_codeWays_179 : decode cX0_codeWays 179 = .ok (.aload_n 0, 1) := by decide +kernel
theorem dX0_codeWays_180 : decode cX0_codeWays 180 = .ok (.iconst 5, 1) := by decide +kernel
theorem dX0_codeWays_181 : decode cX0_codeWays 181 = .ok (.iconst 0, 1) := by decide +kernel
theorem dX0_codeWays_182 : decode cX0_codeWays 182 = .ok (.iconst 0, 1) := by decide +kernel
theorem dX0_codeWays_183 : decode cX0_codeWays 183 = .ok (.iconst 0, 1) := by decide +kernel
theorem dX0_codeWays_184 : decode cX0_codeWays 184 = .ok (.iload_n 3, 1) := by decide +kernel
theorem dX0_codeWays_185 : decode cX0_codeWays 185 = .ok (.invokevirtual 104, 3) := by decide +kernel
theorem dX0_codeWays_188 : decode cX0_codeWays 188 = .ok (.return_, 1) := by decide +kernel
theorem dX0_nextKept_0 : decode cX0_nextKept 0 = .ok (.iload_n 1, 1) := by decide +kernel
theorem dX0_nextKept_1 : decode cX0_nextKept 1 = .ok (.iconst 1, 1) := by decide +kernel
theorem dX0_nextKept_2 : decode cX0_nextKept 2 = .ok (.iadd, 1) := by decide +kernel
theorem dX0_nextKept_3 : decode cX0_nextKept 3 = .ok (.istore_n 2, 1) := by decide +kernel
theorem dX0_nextKept_4 : decode cX0_nextKept 4 = .ok (.iload_n 2, 1) := by decide +kernel
theorem dX0_nextKept_5 : decode cX0_nextKept 5 = .ok (.aload_n 0, 1) := by decide +kernel
theorem dX0_nextKept_6 : decode cX0_nextKept 6 = .ok (.getfield 22, 3) := by decide +kernel
theorem dX0_nextKept_9 : decode cX0_nextKept 9 = .ok (.getfield 38, 3) := by decide +kernel
theorem dX0_nextKept_12 : decode cX0_nextKept 12 = .ok (.if_icmp .ge 21, 3) := by decide +kernel
theorem dX0_nextKept_15 : decode cX0_nextKept 15 = .ok (.aload_n 0, 1) := by decide +kernel
theorem dX0_nextKept_16 : decode cX0_nextKept 16 = .ok (.getfield 22, 3) := by decide +kernel
theorem dX0_nextKept_19 : decode cX0_nextKept 19 = .ok (.getfield 41, 3) := by decide +kernel
theorem dX0_nextKept_22 : decode cX0_nextKept 22 = .ok (.iload_n 2, 1) := by decide +kernel
theorem dX0_nextKept_23 : decode cX0_nextKept 23 = .ok (.baload, 1) := by decide +kernel
theorem dX0_nextKept_24 : decode cX0_nextKept 24 = .ok (.ifCond .ne 9, 3) := by decide +kernel
theorem dX0_nextKept_27 : decode cX0_nextKept 27 = .ok (.iinc 2 1, 3) := by decide +kernel
theorem dX0_nextKept_30 : decode cX0_nextKept 30 = .ok (.goto (-26), 3) := by decide +kernel
theorem dX0_nextKept_33 : decode cX0_nextKept 33 = .ok (.iload_n 2, 1) := by decide +kernel
theorem dX0_nextKept_34 : decode cX0_nextKept 34 = .ok (.ireturn, 1) := by decide +kernel
theorem dX0_codeItems_0 : decode cX0_codeItems 0 = .ok (.iload_n 1, 1) := by decide +kernel
theorem dX0_codeItems_1 : decode cX0_codeItems 1 = .ok (.istore_n 3, 1) := by decide +kernel
theorem dX0_codeItems_2 : decode cX0_codeItems 2 = .ok (.iload_n 3, 1) := by decide +kernel
theorem dX0_codeItems_3 : decode cX0_codeItems 3 = .ok (.iload_n 2, 1) := by decide +kernel
theorem dX0_codeItems_4 : decode cX0_codeItems 4 = .ok (.if_icmp .ge 40, 3) := by decide +kernel
theorem dX0_codeItems_7 : decode cX0_codeItems 7 = .ok (.aload_n 0, 1) := by decide +kernel
theorem dX0_codeItems_8 : decode cX0_codeItems 8 = .ok (.aload_n 0, 1) := by decide +kernel
theorem dX0_codeItems_9 : decode cX0_codeItems 9 = .ok (.getfield 22, 3) := by decide +kernel
theorem dX0_codeItems_12 : decode cX0_codeItems 12 = .ok (.getfield 71, 3) := by decide +kernel
theorem dX0_codeItems_15 : decode cX0_codeItems 15 = .ok (.iload_n 3, 1) := by decide +kernel
theorem dX0_codeItems_16 : decode cX0_codeItems 16 = .ok (.iaload, 1) := by decide +kernel
theorem dX0_codeItems_17 : decode cX0_codeItems 17 = .ok (.aload_n 0, 1) := by decide +kernel
theorem dX0_codeItems_18 : decode cX0_codeItems 18 = .ok (.getfield 22, 3) := by decide +kernel
theorem dX0_codeItems_21 : decode cX0_codeItems 21 = .ok (.getfield 74, 3) := by decide +kernel
theorem dX0_codeItems_24 : decode cX0_codeItems 24 = .ok (.iload_n 3, 1) := by decide +kernel
theorem dX0_codeItems_25 : decode cX0_codeItems 25 = .ok (.iaload, 1) := by decide +kernel
theorem dX0_codeItems_26 : decode cX0_codeItems 26 = .ok (.aload_n 0, 1) := by decide +kernel
theorem dX0_codeItems_27 : decode cX0_codeItems 27 = .ok (.getfield 22, 3) := by decide +kernel
theorem dX0_codeItems_30 : decode cX0_codeItems 30 = .ok (.getfield 113, 3) := by decide +kernel
theorem dX0_codeItems_33 : decode cX0_codeItems 33 = .ok (.iload_n 3, 1) := by decide +kernel
theorem dX0_codeItems_34 : decode cX0_codeItems 34 = .ok (.iaload, 1) := by decide +kernel
theorem dX0_codeItems_35 : decode cX0_codeItems 35 = .ok (.invokevirtual 116, 3) := by decide +kernel
theorem dX0_codeItems_38 : decode cX0_codeItems 38 = .ok (.iinc 3 1, 3) := by decide +kernel
theorem dX0_codeItems_41 : decode cX0_codeItems 41 = .ok (.goto (-39), 3) := by decide +kernel
theorem dX0_codeItems_44 : decode cX0_codeItems 44 = .ok (.return_, 1) := by decide +kernel
theorem dX0_codeItem_0 : decode cX0_codeItem 0 = .ok (.iload_n 1, 1) := by decide +kernel
theorem dX0_codeItem_1 : decode cX0_codeItem 1 = .ok (.tableswitch 162 0 8 #[51, 65, 80, 88, 97, 106, 120, 135, 153], 51) := by decide +kernel
theorem dX0_codeItem_52 : decode cX0_codeItem 52 = .ok (.aload_n 0, 1) := by decide +kernel
theorem dX0_codeItem_53 : decode cX0_codeItem 53 = .ok (.sipush 180, 3) := by decide +kernel
theorem dX0_codeItem_56 : decode cX0_codeItem 56 = .ok (.iconst 0, 1) := by decide +kernel
theorem dX0_codeItem_57 : decode cX0_codeItem 57 = .ok (.iconst 0, 1) := by decide +kernel
theorem dX0_codeItem_58 : decode cX0_codeItem 58 = .ok (.iconst 0, 1) := by decide +kernel
theorem dX0_codeItem_59 : decode cX0_codeItem 59 = .ok (.iload_n 3, 1) := by decide +kernel
theorem dX0_codeItem_60 : decode cX0_codeItem 60 = .ok (.invokevirtual 34, 3) := by decide +kernel
theorem dX0_codeItem_63 : decode cX0_codeItem 63 = .ok (.goto 100, 3) := by decide +kernel
theorem dX0_codeItem_66 : decode cX0_codeItem 66 = .ok (.aload_n 0, 1) := by decide +kernel
theorem dX0_codeItem_67 : decode cX0_codeItem 67 = .ok (.sipush 188, 3) := by decide +kernel
theorem dX0_codeItem_70 : decode cX0_codeItem 70 = .ok (.iconst 0, 1) := by decide +kernel
theorem dX0_codeItem_71 : decode cX0_codeItem 71 = .ok (.bipush 6, 2) := by decide +kernel
theorem dX0_codeItem_73 : decode cX0_codeItem 73 = .ok (.iconst 0, 1) := by decide +kernel
theorem dX0_codeItem_74 : decode cX0_codeItem 74 = .ok (.iconst 0, 1) := by decide +kernel
theorem dX0_codeItem_75 : decode cX0_codeItem 75 = .ok (.invokevirtual 34, 3) := by decide +kernel
theorem dX0_codeItem_78 : decode cX0_codeItem 78 = .ok (.goto 85, 3) := by decide +kernel
theorem dX0_codeItem_81 : decode cX0_codeItem 81 = .ok (.aload_n 0, 1) := by decide +kernel
theorem dX0_codeItem_82 : decode cX0_codeItem 82 = .ok (.iload_n 3, 1) := by decide +kernel
theorem dX0_codeItem_83 : decode cX0_codeItem 83 = .ok (.invokevirtual 88, 3) := by decide +kernel
theorem dX0_codeItem_86 : decode cX0_codeItem 86 = .ok (.goto 77, 3) := by decide +kernel
theorem dX0_codeItem_89 : decode cX0_codeItem 89 = .ok (.aload_n 0, 1) := by decide +kernel
theorem dX0_codeItem_90 : decode cX0_codeItem 90 = .ok (.iload_n 2, 1) := by decide +kernel
theorem dX0_codeItem_91 : decode cX0_codeItem 91 = .ok (.iload_n 3, 1) := by decide +kernel
theorem dX0_codeItem_92 : decode cX0_codeItem 92 = .ok (.invokevirtual 120, 3) := by decide +kernel
theorem dX0_codeItem_95 : decode cX0_codeItem 95 = .ok (.goto 68, 3) := by decide +kernel
theorem dX0_codeItem_98 : decode cX0_codeItem 98 = .ok (.aload_n 0, 1) := by decide +kernel
theorem dX0_codeItem_99 : decode cX0_codeItem 99 = .ok (.iload_n 2, 1) := by decide +kernel
theorem dX0_codeItem_100 : decode cX0_codeItem 100 = .ok (.iload_n 3, 1) := by decide +kernel
theorem dX0_codeItem_101 : decode cX0_codeItem 101 = .ok (.invokevirtual 123, 3) := by decide +kernel
theorem dX0_codeItem_104 : decode cX0_codeItem 104 = .ok (.goto 59, 3) := by decide +kernel
theorem dX0_codeItem_107 : decode cX0_codeItem 107 = .ok (.aload_n 0, 1) := by decide +kernel
theorem dX0_codeItem_108 : decode cX0_codeItem 108 = .ok (.sipush 132, 3) := by decide +kernel
theorem dX0_codeItem_111 : decode cX0_codeItem 111 = .ok (.iconst 0, 1) := by decide +kernel
theorem dX0_codeItem_112 : decode cX0_codeItem 112 = .ok (.iconst 0, 1) := by decide +kernel
theorem dX0_codeItem_113 : decode cX0_codeItem 113 = .ok (.iconst 0, 1) := by decide +kernel
theorem dX0_codeItem_114 : decode cX0_codeItem 114 = .ok (.iconst 0, 1) := by decide +kernel
theorem dX0_codeItem_115 : decode cX0_codeItem 115 = .ok (.invokevirtual 34, 3) := by decide +kernel
theorem dX0_codeItem_118 : decode cX0_codeItem 118 = .ok (.goto 45, 3) := by decide +kernel
theorem dX0_codeItem_121 : decode cX0_codeItem 121 = .ok (.aload_n 0, 1) := by decide +kernel
theorem dX0_codeItem_122 : decode cX0_codeItem 122 = .ok (.iload_n 2, 1) := by decide +kernel
theorem dX0_codeItem_123 : decode cX0_codeItem 123 = .ok (.invokestatic 126, 3) := by decide +kernel
theorem dX0_codeItem_126 : decode cX0_codeItem 126 = .ok (.iconst 0, 1) := by decide +kernel
theorem dX0_codeItem_127 : decode cX0_codeItem 127 = .ok (.iconst 0, 1) := by decide +kernel
theorem dX0_codeItem_128 : decode cX0_codeItem 128 = .ok (.iconst 0, 1) := by decide +kernel
theorem dX0_codeItem_129 : decode cX0_codeItem 129 = .ok (.iload_n 3, 1) := by decide +kernel
theorem dX0_codeItem_130 : decode cX0_codeItem 130 = .ok (.invokevirtual 34, 3) := by decide +kernel
theorem dX0_codeItem_133 : decode cX0_codeItem 133 = .ok (.goto 30, 3) := by decide +kernel
theorem dX0_codeItem_136 : decode cX0_codeItem 136 = .ok (.aload_n 0, 1) := by decide +kernel
theorem dX0_codeItem_137 : decode cX0_codeItem 137 = .ok (.iload_n 2, 1) := by decide +kernel
theorem dX0_codeItem_138 : decode cX0_codeItem 138 = .ok (.invokestatic 126, 3) := by decide +kernel
theorem dX0_codeItem_141 : decode cX0_codeItem 141 = .ok (.bipush 32, 2) := by decide +kernel
theorem dX0_codeItem_143 : decode cX0_codeItem 143 = .ok (.iadd, 1) := by decide +kernel
theorem dX0_codeItem_144 : decode cX0_codeItem 144 = .ok (.iconst 0, 1) := by decide +kernel
theorem dX0_codeItem_145 : decode cX0_codeItem 145 = .ok (.iconst 0, 1) := by decide +kernel
theorem dX0_codeItem_146 : decode cX0_codeItem 146 = .ok (.iconst 0, 1) := by decide +kernel
theorem dX0_codeItem_147 : decode cX0_codeItem 147 = .ok (.iload_n 3, 1) := by decide +kernel
theorem dX0_codeItem_148 : decode cX0_codeItem 148 = .ok (.invokevirtual 34, 3) := by decide +kernel
theorem dX0_codeItem_151 : decode cX0_codeItem 151 = .ok (.goto 12, 3) := by decide +kernel
theorem dX0_codeItem_154 : decode cX0_codeItem 154 = .ok (.aload_n 0, 1) := by decide +kernel
theorem dX0_codeItem_155 : decode cX0_codeItem 155 = .ok (.iload_n 2, 1) := by decide +kernel
theorem dX0_codeItem_156 : decode cX0_codeItem 156 = .ok (.iload_n 3, 1) := by decide +kernel
theorem dX0_codeItem_157 : decode cX0_codeItem 157 = .ok (.invokevirtual 129, 3) := by decide +kernel
theorem dX0_codeItem_160 : decode cX0_codeItem 160 = .ok (.goto 3, 3) := by decide +kernel
theorem dX0_codeItem_163 : decode cX0_codeItem 163 = .ok (.return_, 1) := by decide +kernel
theorem dX0_readCode_0 : decode cX0_readCode 0 = .ok (.iload_n 0, 1) := by decide +kernel
theorem dX0_readCode_1 : decode cX0_readCode 1 = .ok (.iconst 4, 1) := by decide +kernel
theorem dX0_readCode_2 : decode cX0_readCode 2 = .ok (.if_icmp .ne 8, 3) := by decide +kernel
theorem dX0_readCode_5 : decode cX0_readCode 5 = .ok (.bipush 32, 2) := by decide +kernel
theorem dX0_readCode_7 : decode cX0_readCode 7 = .ok (.goto 15, 3) := by decide +kernel
theorem dX0_readCode_10 : decode cX0_readCode 10 = .ok (.iload_n 0, 1) := by decide +kernel
theorem dX0_readCode_11 : decode cX0_readCode 11 = .ok (.iconst 2, 1) := by decide +kernel
theorem dX0_readCode_12 : decode cX0_readCode 12 = .ok (.if_icmp .ne 8, 3) := by decide +kernel
theorem dX0_readCode_15 : decode cX0_readCode 15 = .ok (.bipush 40, 2) := by decide +kernel
theorem dX0_readCode_17 : decode cX0_readCode 17 = .ok (.goto 5, 3) := by decide +kernel
theorem dX0_readCode_20 : decode cX0_readCode 20 = .ok (.bipush 48, 2) := by decide +kernel
theorem dX0_readCode_22 : decode cX0_readCode 22 = .ok (.ireturn, 1) := by decide +kernel
theorem dX0_slot_0 : decode cX0_slot 0 = .ok (.bipush (-8), 2) := by decide +kernel
theorem dX0_slot_2 : decode cX0_slot 2 = .ok (.bipush 8, 2) := by decide +kernel
theorem dX0_slot_4 : decode cX0_slot 4 = .ok (.iload_n 0, 1) := by decide +kernel
theorem dX0_slot_5 : decode cX0_slot 5 = .ok (.imul, 1) := by decide +kernel
theorem dX0_slot_6 : decode cX0_slot 6 = .ok (.isub, 1) := by decide +kernel
theorem dX0_slot_7 : decode cX0_slot 7 = .ok (.ireturn, 1) := by decide +kernel
theorem dX0_codePush_0 : decode cX0_codePush 0 = .ok (.aload_n 0, 1) := by decide +kernel
theorem dX0_codePush_1 : decode cX0_codePush 1 = .ok (.bipush 123, 2) := by decide +kernel
theorem dX0_codePush_3 : decode cX0_codePush 3 = .ok (.bipush 10, 2) := by decide +kernel
theorem dX0_codePush_5 : decode cX0_codePush 5 = .ok (.iconst 0, 1) := by decide +kernel
theorem dX0_codePush_6 : decode cX0_codePush 6 = .ok (.iload_n 1, 1) := by decide +kernel
theorem dX0_codePush_7 : decode cX0_codePush 7 = .ok (.invokestatic 132, 3) := by decide +kernel
theorem dX0_codePush_10 : decode cX0_codePush 10 = .ok (.iconst 0, 1) := by decide +kernel
theorem dX0_codePush_11 : decode cX0_codePush 11 = .ok (.invokevirtual 34, 3) := by decide +kernel
theorem dX0_codePush_14 : decode cX0_codePush 14 = .ok (.return_, 1) := by decide +kernel
theorem dX0_codePull_0 : decode cX0_codePull 0 = .ok (.aload_n 0, 1) := by decide +kernel
theorem dX0_codePull_1 : decode cX0_codePull 1 = .ok (.sipush 188, 3) := by decide +kernel
theorem dX0_codePull_4 : decode cX0_codePull 4 = .ok (.bipush 7, 2) := by decide +kernel
theorem dX0_codePull_6 : decode cX0_codePull 6 = .ok (.iconst 0, 1) := by decide +kernel
theorem dX0_codePull_7 : decode cX0_codePull 7 = .ok (.iconst 0, 1) := by decide +kernel
theorem dX0_codePull_8 : decode cX0_codePull 8 = .ok (.iconst 0, 1) := by decide +kernel
theorem dX0_codePull_9 : decode cX0_codePull 9 = .ok (.invokevirtual 34, 3) := by decide +kernel
theorem dX0_codePull_12 : decode cX0_codePull 12 = .ok (.aload_n 0, 1) := by decide +kernel
theorem dX0_codePull_13 : decode cX0_codePull 13 = .ok (.bipush 121, 2) := by decide +kernel
theorem dX0_codePull_15 : decode cX0_codePull 15 = .ok (.iconst 0, 1) := by decide +kernel
theorem dX0_codePull_16 : decode cX0_codePull 16 = .ok (.bipush 10, 2) := by decide +kernel
theorem dX0_codePull_18 : decode cX0_codePull 18 = .ok (.iload_n 1, 1) := by decide +kernel
theorem dX0_codePull_19 : decode cX0_codePull 19 = .ok (.invokestatic 132, 3) := by decide +kernel
theorem dX0_codePull_22 : decode cX0_codePull 22 = .ok (.iconst 0, 1) := by decide +kernel
theorem dX0_codePull_23 : decode cX0_codePull 23 = .ok (.invokevirtual 34, 3) := by decide +kernel
theorem dX0_codePull_26 : decode cX0_codePull 26 = .ok (.return_, 1) := by decide +kernel
theorem dX0_codeWithNumber_0 : decode cX0_codeWithNumber 0 = .ok (.iload_n 1, 1) := by decide +kernel
theorem dX0_codeWithNumber_1 : decode cX0_codeWithNumber 1 = .ok (.iconst 3, 1) := by decide +kernel
theorem dX0_codeWithNumber_2 : decode cX0_codeWithNumber 2 = .ok (.if_icmp .eq 9, 3) := by decide +kernel
theorem dX0_codeWithNumber_5 : decode cX0_codeWithNumber 5 = .ok (.iload_n 1, 1) := by decide +kernel
theorem dX0_codeWithNumber_6 : decode cX0_codeWithNumber 6 = .ok (.bipush 9, 2) := by decide +kernel
theorem dX0_codeWithNumber_8 : decode cX0_codeWithNumber 8 = .ok (.if_icmp .ne 27, 3) := by decide +kernel
theorem dX0_codeWithNumber_11 : decode cX0_codeWithNumber 11 = .ok (.iload_n 2, 1) := by decide +kernel
theorem dX0_codeWithNumber_12 : decode cX0_codeWithNumber 12 = .ok (.ifCond .ne 23, 3) := by decide +kernel
theorem dX0_codeWithNumber_15 : decode cX0_codeWithNumber 15 = .ok (.aload_n 0, 1) := by decide +kernel
theorem dX0_codeWithNumber_16 : decode cX0_codeWithNumber 16 = .ok (.iconst 5, 1) := by decide +kernel
theorem dX0_codeWithNumber_17 : decode cX0_codeWithNumber 17 = .ok (.iconst 0, 1) := by decide +kernel
theorem dX0_codeWithNumber_18 : decode cX0_codeWithNumber 18 = .ok (.iconst 0, 1) := by decide +kernel
theorem dX0_codeWithNumber_19 : decode cX0_codeWithNumber 19 = .ok (.iconst 0, 1) := by decide +kernel
theorem dX0_codeWithNumber_20 : decode cX0_codeWithNumber 20 = .ok (.aload_n 0, 1) := by decide +kernel
theorem dX0_codeWithNumber_21 : decode cX0_codeWithNumber 21 = .ok (.getfield 22, 3) := by decide +kernel
theorem dX0_codeWithNumber_24 : decode cX0_codeWithNumber 24 = .ok (.getfield 38, 3) := by decide +kernel
theorem dX0_codeWithNumber_27 : decode cX0_codeWithNumber 27 = .ok (.iconst 1, 1) := by decide +kernel
theorem dX0_codeWithNumber_28 : decode cX0_codeWithNumber 28 = .ok (.iadd, 1) := by decide +kernel
theorem dX0_codeWithNumber_29 : decode cX0_codeWithNumber 29 = .ok (.invokevirtual 104, 3) := by decide +kernel
theorem dX0_codeWithNumber_32 : decode cX0_codeWithNumber 32 = .ok (.goto 16, 3) := by decide +kernel
theorem dX0_codeWithNumber_35 : decode cX0_codeWithNumber 35 = .ok (.aload_n 0, 1) := by decide +kernel
theorem dX0_codeWithNumber_36 : decode cX0_codeWithNumber 36 = .ok (.iload_n 1, 1) := by decide +kernel
theorem dX0_codeWithNumber_37 : decode cX0_codeWithNumber 37 = .ok (.iconst 4, 1) := by decide +kernel
theorem dX0_codeWithNumber_38 : decode cX0_codeWithNumber 38 = .ok (.ishl, 1) := by decide +kernel
theorem dX0_codeWithNumber_39 : decode cX0_codeWithNumber 39 = .ok (.iconst 4, 1) := by decide +kernel
theorem dX0_codeWithNumber_40 : decode cX0_codeWithNumber 40 = .ok (.ior, 1) := by decide +kernel
theorem dX0_codeWithNumber_41 : decode cX0_codeWithNumber 41 = .ok (.iconst 0, 1) := by decide +kernel
theorem dX0_codeWithNumber_42 : decode cX0_codeWithNumber 42 = .ok (.iconst 0, 1) := by decide +kernel
theorem dX0_codeWithNumber_43 : decode cX0_codeWithNumber 43 = .ok (.iconst 0, 1) := by decide +kernel
theorem dX0_codeWithNumber_44 : decode cX0_codeWithNumber 44 = .ok (.iload_n 2, 1) := by decide +kernel
theorem dX0_codeWithNumber_45 : decode cX0_codeWithNumber 45 = .ok (.invokevirtual 34, 3) := by decide +kernel
theorem dX0_codeWithNumber_48 : decode cX0_codeWithNumber 48 = .ok (.return_, 1) := by decide +kernel
theorem dX0_codeWithPushed_0 : decode cX0_codeWithPushed 0 = .ok (.aload_n 0, 1) := by decide +kernel
theorem dX0_codeWithPushed_1 : decode cX0_codeWithPushed 1 = .ok (.iload_n 2, 1) := by decide +kernel
theorem dX0_codeWithPushed_2 : decode cX0_codeWithPushed 2 = .ok (.invokevirtual 91, 3) := by decide +kernel
theorem dX0_codeWithPushed_5 : decode cX0_codeWithPushed 5 = .ok (.iload_n 1, 1) := by decide +kernel
theorem dX0_codeWithPushed_6 : decode cX0_codeWithPushed 6 = .ok (.iconst 3, 1) := by decide +kernel
theorem dX0_codeWithPushed_7 : decode cX0_codeWithPushed 7 = .ok (.if_icmp .eq 9, 3) := by decide +kernel
theorem dX0_codeWithPushed_10 : decode cX0_codeWithPushed 10 = .ok (.iload_n 1, 1) := by decide +kernel
theorem dX0_codeWithPushed_11 : decode cX0_codeWithPushed 11 = .ok (.bipush 9, 2) := by decide +kernel
theorem dX0_codeWithPushed_13 : decode cX0_codeWithPushed 13 = .ok (.if_icmp .ne 22, 3) := by decide +kernel
theorem dX0_codeWithPushed_16 : decode cX0_codeWithPushed 16 = .ok (.aload_n 0, 1) := by decide +kernel
theorem dX0_codeWithPushed_17 : decode cX0_codeWithPushed 17 = .ok (.bipush 22, 2) := by decide +kernel
theorem dX0_codeWithPushed_19 : decode cX0_codeWithPushed 19 = .ok (.bipush 7, 2) := by decide +kernel
theorem dX0_codeWithPushed_21 : decode cX0_codeWithPushed 21 = .ok (.iconst 0, 1) := by decide +kernel
theorem dX0_codeWithPushed_22 : decode cX0_codeWithPushed 22 = .ok (.iconst 0, 1) := by decide +kernel
theorem dX0_codeWithPushed_23 : decode cX0_codeWithPushed 23 = .ok (.aload_n 0, 1) := by decide +kernel
theorem dX0_codeWithPushed_24 : decode cX0_codeWithPushed 24 = .ok (.getfield 22, 3) := by decide +kernel
theorem dX0_codeWithPushed_27 : decode cX0_codeWithPushed 27 = .ok (.getfield 38, 3) := by decide +kernel
theorem dX0_codeWithPushed_30 : decode cX0_codeWithPushed 30 = .ok (.iconst 1, 1) := by decide +kernel
theorem dX0_codeWithPushed_31 : decode cX0_codeWithPushed 31 = .ok (.iadd, 1) := by decide +kernel
theorem dX0_codeWithPushed_32 : decode cX0_codeWithPushed 32 = .ok (.invokevirtual 104, 3) := by decide +kernel
theorem dX0_codeWithPushed_35 : decode cX0_codeWithPushed 35 = .ok (.aload_n 0, 1) := by decide +kernel
theorem dX0_codeWithPushed_36 : decode cX0_codeWithPushed 36 = .ok (.iload_n 1, 1) := by decide +kernel
theorem dX0_codeWithPushed_37 : decode cX0_codeWithPushed 37 = .ok (.iconst 4, 1) := by decide +kernel
theorem dX0_codeWithPushed_38 : decode cX0_codeWithPushed 38 = .ok (.ishl, 1) := by decide +kernel
theorem dX0_codeWithPushed_39 : decode cX0_codeWithPushed 39 = .ok (.bipush 12, 2) := by decide +kernel
theorem dX0_codeWithPushed_41 : decode cX0_codeWithPushed 41 = .ok (.ior, 1) := by decide +kernel
theorem dX0_codeWithPushed_42 : decode cX0_codeWithPushed 42 = .ok (.iconst 0, 1) := by decide +kernel
theorem dX0_codeWithPushed_43 : decode cX0_codeWithPushed 43 = .ok (.bipush 7, 2) := by decide +kernel
theorem dX0_codeWithPushed_45 : decode cX0_codeWithPushed 45 = .ok (.iconst 0, 1) := by decide +kernel
theorem dX0_codeWithPushed_46 : decode cX0_codeWithPushed 46 = .ok (.iconst 0, 1) := by decide +kernel
theorem dX0_codeWithPushed_47 : decode cX0_codeWithPushed 47 = .ok (.invokevirtual 34, 3) := by decide +kernel
theorem dX0_codeWithPushed_50 : decode cX0_codeWithPushed 50 = .ok (.return_, 1) := by decide +kernel
theorem dX0_codeReadInBody_0 : decode cX0_codeReadInBody 0 = .ok (.aload_n 0, 1) := by decide +kernel
theorem dX0_codeReadInBody_1 : decode cX0_codeReadInBody 1 = .ok (.iload_n 2, 1) := by decide +kernel
theorem dX0_codeReadInBody_2 : decode cX0_codeReadInBody 2 = .ok (.invokevirtual 88, 3) := by decide +kernel
theorem dX0_codeReadInBody_5 : decode cX0_codeReadInBody 5 = .ok (.aload_n 0, 1) := by decide +kernel
theorem dX0_codeReadInBody_6 : decode cX0_codeReadInBody 6 = .ok (.iconst 1, 1) := by decide +kernel
theorem dX0_codeReadInBody_7 : decode cX0_codeReadInBody 7 = .ok (.invokestatic 126, 3) := by decide +kernel
theorem dX0_codeReadInBody_10 : decode cX0_codeReadInBody 10 = .ok (.iconst 0, 1) := by decide +kernel
theorem dX0_codeReadInBody_11 : decode cX0_codeReadInBody 11 = .ok (.iconst 0, 1) := by decide +kernel
theorem dX0_codeReadInBody_12 : decode cX0_codeReadInBody 12 = .ok (.iconst 0, 1) := by decide +kernel
theorem dX0_codeReadInBody_13 : decode cX0_codeReadInBody 13 = .ok (.bipush 14, 2) := by decide +kernel
theorem dX0_codeReadInBody_15 : decode cX0_codeReadInBody 15 = .ok (.invokevirtual 34, 3) := by decide +kernel
theorem dX0_codeReadInBody_18 : decode cX0_codeReadInBody 18 = .ok (.aload_n 0, 1) := by decide +kernel
theorem dX0_codeReadInBody_19 : decode cX0_codeReadInBody 19 = .ok (.bipush 84, 2) := by decide +kernel
theorem dX0_codeReadInBody_21 : decode cX0_codeReadInBody 21 = .ok (.iconst 0, 1) := by decide +kernel
theorem dX0_codeReadInBody_22 : decode cX0_codeReadInBody 22 = .ok (.iconst 0, 1) := by decide +kernel
theorem dX0_codeReadInBody_23 : decode cX0_codeReadInBody 23 = .ok (.iconst 0, 1) := by decide +kernel
theorem dX0_codeReadInBody_24 : decode cX0_codeReadInBody 24 = .ok (.bipush 15, 2) := by decide +kernel
theorem dX0_codeReadInBody_26 : decode cX0_codeReadInBody 26 = .ok (.invokevirtual 34, 3) := by decide +kernel
theorem dX0_codeReadInBody_29 : decode cX0_codeReadInBody 29 = .ok (.aload_n 0, 1) := by decide +kernel
theorem dX0_codeReadInBody_30 : decode cX0_codeReadInBody 30 = .ok (.bipush 100, 2) := by decide +kernel
theorem dX0_codeReadInBody_32 : decode cX0_codeReadInBody 32 = .ok (.iconst 0, 1) := by decide +kernel
theorem dX0_codeReadInBody_33 : decode cX0_codeReadInBody 33 = .ok (.iconst 0, 1) := by decide +kernel
theorem dX0_codeReadInBody_34 : decode cX0_codeReadInBody 34 = .ok (.iconst 0, 1) := by decide +kernel
theorem dX0_codeReadInBody_35 : decode cX0_codeReadInBody 35 = .ok (.iconst 2, 1) := by decide +kernel
theorem dX0_codeReadInBody_36 : decode cX0_codeReadInBody 36 = .ok (.invokevirtual 34, 3) := by decide +kernel
theorem dX0_codeReadInBody_39 : decode cX0_codeReadInBody 39 = .ok (.aload_n 0, 1) := by decide +kernel
theorem dX0_codeReadInBody_40 : decode cX0_codeReadInBody 40 = .ok (.bipush 121, 2) := by decide +kernel
theorem dX0_codeReadInBody_42 : decode cX0_codeReadInBody 42 = .ok (.bipush 7, 2) := by decide +kernel
theorem dX0_codeReadInBody_44 : decode cX0_codeReadInBody 44 = .ok (.bipush 10, 2) := by decide +kernel
theorem dX0_codeReadInBody_46 : decode cX0_codeReadInBody 46 = .ok (.iload_n 2, 1) := by decide +kernel
theorem dX0_codeReadInBody_47 : decode cX0_codeReadInBody 47 = .ok (.invokestatic 132, 3) := by decide +kernel
theorem dX0_codeReadInBody_50 : decode cX0_codeReadInBody 50 = .ok (.iconst 0, 1) := by decide +kernel
theorem dX0_codeReadInBody_51 : decode cX0_codeReadInBody 51 = .ok (.invokevirtual 34, 3) := by decide +kernel
theorem dX0_codeReadInBody_54 : decode cX0_codeReadInBody 54 = .ok (.aload_n 0, 1) := by decide +kernel
theorem dX0_codeReadInBody_55 : decode cX0_codeReadInBody 55 = .ok (.bipush 12, 2) := by decide +kernel
theorem dX0_codeReadInBody_57 : decode cX0_codeReadInBody 57 = .ok (.iconst 0, 1) := by decide +kernel
theorem dX0_codeReadInBody_58 : decode cX0_codeReadInBody 58 = .ok (.bipush 7, 2) := by decide +kernel
theorem dX0_codeReadInBody_60 : decode cX0_codeReadInBody 60 = .ok (.iconst 0, 1) := by decide +kernel
theorem dX0_codeReadInBody_61 : decode cX0_codeReadInBody 61 = .ok (.iconst 0, 1) := by decide +kernel
theorem dX0_codeReadInBody_62 : decode cX0_codeReadInBody 62 = .ok (.invokevirtual 34, 3) := by decide +kernel
theorem dX0_codeReadInBody_65 : decode cX0_codeReadInBody 65 = .ok (.aload_n 0, 1) := by decide +kernel
theorem dX0_codeReadInBody_66 : decode cX0_codeReadInBody 66 = .ok (.iload_n 1, 1) := by decide +kernel
theorem dX0_codeReadInBody_67 : decode cX0_codeReadInBody 67 = .ok (.invokestatic 126, 3) := by decide +kernel
theorem dX0_codeReadInBody_70 : decode cX0_codeReadInBody 70 = .ok (.bipush 32, 2) := by decide +kernel
theorem dX0_codeReadInBody_72 : decode cX0_codeReadInBody 72 = .ok (.iadd, 1) := by decide +kernel
theorem dX0_codeReadInBody_73 : decode cX0_codeReadInBody 73 = .ok (.iconst 0, 1) := by decide +kernel
theorem dX0_codeReadInBody_74 : decode cX0_codeReadInBody 74 = .ok (.iconst 0, 1) := by decide +kernel
theorem dX0_codeReadInBody_75 : decode cX0_codeReadInBody 75 = .ok (.iconst 0, 1) := by decide +kernel
theorem dX0_codeReadInBody_76 : decode cX0_codeReadInBody 76 = .ok (.bipush 14, 2) := by decide +kernel
theorem dX0_codeReadInBody_78 : decode cX0_codeReadInBody 78 = .ok (.invokevirtual 34, 3) := by decide +kernel
theorem dX0_codeReadInBody_81 : decode cX0_codeReadInBody 81 = .ok (.return_, 1) := by decide +kernel
theorem dX1_init_0 : decode cX1_init 0 = .ok (.aload_n 0, 1) := by decide +kernel
theorem dX1_init_1 : decode cX1_init 1 = .ok (.invokespecial 3, 3) := by decide +kernel
theorem dX1_init_4 : decode cX1_init 4 = .ok (.return_, 1) := by decide +kernel
theorem dX1_lose_0 : decode cX1_lose 0 = .ok (.aload_n 0, 1) := by decide +kernel
theorem dX1_lose_1 : decode cX1_lose 1 = .ok (.iconst 0, 1) := by decide +kernel
theorem dX1_lose_2 : decode cX1_lose 2 = .ok (.putfield 11, 3) := by decide +kernel
theorem dX1_lose_5 : decode cX1_lose 5 = .ok (.aload_n 0, 1) := by decide +kernel
theorem dX1_lose_6 : decode cX1_lose 6 = .ok (.lconst 0, 1) := by decide +kernel
theorem dX1_lose_7 : decode cX1_lose 7 = .ok (.putfield 15, 3) := by decide +kernel
theorem dX1_lose_10 : decode cX1_lose 10 = .ok (.aload_n 0, 1) := by decide +kernel
theorem dX1_lose_11 : decode cX1_lose 11 = .ok (.lconst 0, 1) := by decide +kernel
theorem dX1_lose_12 : decode cX1_lose 12 = .ok (.putfield 19, 3) := by decide +kernel
theorem dX1_lose_15 : decode cX1_lose 15 = .ok (.aload_n 0, 1) := by decide +kernel
theorem dX1_lose_16 : decode cX1_lose 16 = .ok (.lconst 0, 1) := by decide +kernel
theorem dX1_lose_17 : decode cX1_lose 17 = .ok (.putfield 22, 3) := by decide +kernel
theorem dX1_lose_20 : decode cX1_lose 20 = .ok (.aload_n 0, 1) := by decide +kernel
theorem dX1_lose_21 : decode cX1_lose 21 = .ok (.lconst 0, 1) := by decide +kernel
theorem dX1_lose_22 : decode cX1_lose 22 = .ok (.putfield 25, 3) := by decide +kernel
theorem dX1_lose_25 : decode cX1_lose 25 = .ok (.return_, 1) := by decide +kernel
theorem dX1_copy_0 : decode cX1_copy 0 = .ok (.aload_n 0, 1) := by decide +kernel
theorem dX1_copy_1 : decode cX1_copy 1 = .ok (.aload_n 1, 1) := by decide +kernel
theorem dX1_copy_2 : decode cX1_copy 2 = .ok (.getfield 11, 3) := by decide +kernel
theorem dX1_copy_5 : decode cX1_copy 5 = .ok (.putfield 11, 3) := by decide +kernel
theorem dX1_copy_8 : decode cX1_copy 8 = .ok (.aload_n 0, 1) := by decide +kernel
theorem dX1_copy_9 : decode cX1_copy 9 = .ok (.aload_n 1, 1) := by decide +kernel
theorem dX1_copy_10 : decode cX1_copy 10 = .ok (.getfield 15, 3) := by decide +kernel
theorem dX1_copy_13 : decode cX1_copy 13 = .ok (.putfield 15, 3) := by decide +kernel
theorem dX1_copy_16 : decode cX1_copy 16 = .ok (.aload_n 0, 1) := by decide +kernel
theorem dX1_copy_17 : decode cX1_copy 17 = .ok (.aload_n 1, 1) := by decide +kernel
theorem dX1_copy_18 : decode cX1_copy 18 = .ok (.getfield 19, 3) := by decide +kernel
theorem dX1_copy_21 : decode cX1_copy 21 = .ok (.putfield 19, 3) := by decide +kernel
theorem dX1_copy_24 : decode cX1_copy 24 = .ok (.aload_n 0, 1) := by decide +kernel
theorem dX1_copy_25 : decode cX1_copy 25 = .ok (.aload_n 1, 1) := by decide +kernel
theorem dX1_copy_26 : decode cX1_copy 26 = .ok (.getfield 22, 3) := by decide +kernel
theorem dX1_copy_29 : decode cX1_copy 29 = .ok (.putfield 22, 3) := by decide +kernel
theorem dX1_copy_32 : decode cX1_copy 32 = .ok (.aload_n 0, 1) := by decide +kernel
theorem dX1_copy_33 : decode cX1_copy 33 = .ok (.aload_n 1, 1) := by decide +kernel
theorem dX1_copy_34 : decode cX1_copy 34 = .ok (.getfield 25, 3) := by decide +kernel
theorem dX1_copy_37 : decode cX1_copy 37 = .ok (.putfield 25, 3) := by decide +kernel
theorem dX1_copy_40 : decode cX1_copy 40 = .ok (.return_, 1) := by decide +kernel
theorem dX1_setExact_0 : decode cX1_setExact 0 = .ok (.aload_n 0, 1) := by decide +kernel
theorem dX1_setExact_1 : decode cX1_setExact 1 = .ok (.lload_n 1, 1) := by decide +kernel
theorem dX1_setExact_2 : decode cX1_setExact 2 = .ok (.lload_n 1, 1) := by decide +kernel
theorem dX1_setExact_3 : decode cX1_setExact 3 = .ok (.invokevirtual 28, 3) := by decide +kernel
theorem dX1_setExact_6 : decode cX1_setExact 6 = .ok (.aload_n 0, 1) := by decide +kernel
theorem dX1_setExact_7 : decode cX1_setExact 7 = .ok (.ldc2_w 32, 3) := by decide +kernel
theorem dX1_setExact_10 : decode cX1_setExact 10 = .ok (.putfield 22, 3) := by decide +kernel
theorem dX1_setExact_13 : decode cX1_setExact 13 = .ok (.aload_n 0, 1) := by decide +kernel
theorem dX1_setExact_14 : decode cX1_setExact 14 = .ok (.lload_n 1, 1) := by decide +kernel
theorem dX1_setExact_15 : decode cX1_setExact 15 = .ok (.putfield 25, 3) := by decide +kernel
theorem dX1_setExact_18 : decode cX1_setExact 18 = .ok (.return_, 1) := by decide +kernel
theorem dX1_setRange_0 : decode cX1_setRange 0 = .ok (.aload_n 0, 1) := by decide +kernel
theorem dX1_setRange_1 : decode cX1_setRange 1 = .ok (.iconst 1, 1) := by decide +kernel
theorem dX1_setRange_2 : decode cX1_setRange 2 = .ok (.putfield 11, 3) := by decide +kernel
theorem dX1_setRange_5 : decode cX1_setRange 5 = .ok (.aload_n 0, 1) := by decide +kernel
theorem dX1_setRange_6 : decode cX1_setRange 6 = .ok (.lload_n 1, 1) := by decide +kernel
theorem dX1_setRange_7 : decode cX1_setRange 7 = .ok (.putfield 15, 3) := by decide +kernel
theorem dX1_setRange_10 : decode cX1_setRange 10 = .ok (.aload_n 0, 1) := by decide +kernel
theorem dX1_setRange_11 : decode cX1_setRange 11 = .ok (.lload_n 3, 1) := by decide +kernel
theorem dX1_setRange_12 : decode cX1_setRange 12 = .ok (.putfield 19, 3) := by decide +kernel
theorem dX1_setRange_15 : decode cX1_setRange 15 = .ok (.aload_n 0, 1) := by decide +kernel
theorem dX1_setRange_16 : decode cX1_setRange 16 = .ok (.lconst 0, 1) := by decide +kernel
theorem dX1_setRange_17 : decode cX1_setRange 17 = .ok (.putfield 22, 3) := by decide +kernel
theorem dX1_setRange_20 : decode cX1_setRange 20 = .ok (.aload_n 0, 1) := by decide +kernel
theorem dX1_setRange_21 : decode cX1_setRange 21 = .ok (.lconst 0, 1) := by decide +kernel
theorem dX1_setRange_22 : decode cX1_setRange 22 = .ok (.putfield 25, 3) := by decide +kernel
theorem dX1_setRange_25 : decode cX1_setRange 25 = .ok (.return_, 1) := by decide +kernel
theorem dX1_setBytes_0 : decode cX1_setBytes 0 = .ok (.iload_n 1, 1) := by decide +kernel
theorem dX1_setBytes_1 : decode cX1_setBytes 1 = .ok (.bipush 8, 2) := by decide +kernel
theorem dX1_setBytes_3 : decode cX1_setBytes 3 = .ok (.if_icmp .lt 12, 3) := by decide +kernel
theorem dX1_setBytes_6 : decode cX1_setBytes 6 = .ok (.aload_n 0, 1) := by decide +kernel
theorem dX1_setBytes_7 : decode cX1_setBytes 7 = .ok (.lconst 0, 1) := by decide +kernel
theorem dX1_setBytes_8 : decode cX1_setBytes 8 = .ok (.ldc2_w 32, 3) := by decide +kernel
theorem dX1_setBytes_11 : decode cX1_setBytes 11 = .ok (.invokevirtual 28, 3) := by decide +kernel
theorem dX1_setBytes_14 : decode cX1_setBytes 14 = .ok (.return_, 1) := by decide +kernel
theorem dX1_setBytes_15 : decode cX1_setBytes 15 = .ok (.aload_n 0, 1) := by decide +kernel
theorem dX1_setBytes_16 : decode cX1_setBytes 16 = .ok (.lconst 0, 1) := by decide +kernel
theorem dX1_setBytes_17 : decode cX1_setBytes 17 = .ok (.lconst 1, 1) := by decide +kernel
theorem dX1_setBytes_18 : decode cX1_setBytes 18 = .ok (.bipush 8, 2) := by decide +kernel
theorem dX1_setBytes_20 : decode cX1_setBytes 20 = .ok (.iload_n 1, 1) := by decide +kernel
theorem dX1_setBytes_21 : decode cX1_setBytes 21 = .ok (.imul, 1) := by decide +kernel
theorem dX1_setBytes_22 : decode cX1_setBytes 22 = .ok (.lshl, 1) := by decide +kernel
theorem dX1_setBytes_23 : decode cX1_setBytes 23 = .ok (.lconst 1, 1) := by decide +kernel
theorem dX1_setBytes_24 : decode cX1_setBytes 24 = .ok (.lsub, 1) := by decide +kernel
theorem dX1_setBytes_25 : decode cX1_setBytes 25 = .ok (.invokevirtual 28, 3) := by decide +kernel
theorem dX1_setBytes_28 : decode cX1_setBytes 28 = .ok (.aload_n 0, 1) := by decide +kernel
theorem dX1_setBytes_29 : decode cX1_setBytes 29 = .ok (.ldc2_w 32, 3) := by decide +kernel
theorem dX1_setBytes_32 : decode cX1_setBytes 32 = .ok (.bipush 8, 2) := by decide +kernel
theorem dX1_setBytes_34 : decode cX1_setBytes 34 = .ok (.iload_n 1, 1) := by decide +kernel
theorem dX1_setBytes_35 : decode cX1_setBytes 35 = .ok (.imul, 1) := by decide +kernel
theorem dX1_setBytes_36 : decode cX1_setBytes 36 = .ok (.lshl, 1) := by decide +kernel
theorem dX1_setBytes_37 : decode cX1_setBytes 37 = .ok (.putfield 22, 3) := by decide +kernel
theorem dX1_setBytes_40 : decode cX1_setBytes 40 = .ok (.return_, 1) := by decide +kernel
theorem dX1_isExact_0 : decode cX1_isExact 0 = .ok (.aload_n 0, 1) := by decide +kernel
theorem dX1_isExact_1 : decode cX1_isExact 1 = .ok (.getfield 15, 3) := by decide +kernel
theorem dX1_isExact_4 : decode cX1_isExact 4 = .ok (.aload_n 0, 1) := by decide +kernel
theorem dX1_isExact_5 : decode cX1_isExact 5 = .ok (.getfield 19, 3) := by decide +kernel
theorem dX1_isExact_8 : decode cX1_isExact 8 = .ok (.lcmp, 1) := by decide +kernel
theorem dX1_isExact_9 : decode cX1_isExact 9 = .ok (.ifCond .ne 7, 3) := by decide +kernel
theorem dX1_isExact_12 : decode cX1_isExact 12 = .ok (.iconst 1, 1) := by decide +kernel
theorem dX1_isExact_13 : decode cX1_isExact 13 = .ok (.goto 4, 3) := by decide +kernel
theorem dX1_isExact_16 : decode cX1_isExact 16 = .ok (.iconst 0, 1) := by decide +kernel
theorem dX1_isExact_17 : decode cX1_isExact 17 = .ok (.ireturn, 1) := by decide +kernel
theorem dX1_settle_0 : decode cX1_settle 0 = .ok (.aload_n 0, 1) := by decide +kernel
theorem dX1_settle_1 : decode cX1_settle 1 = .ok (.getfield 15, 3) := by decide +kernel
theorem dX1_settle_4 : decode cX1_settle 4 = .ok (.aload_n 0, 1) := by decide +kernel
theorem dX1_settle_5 : decode cX1_settle 5 = .ok (.getfield 19, 3) := by decide +kernel
theorem dX1_settle_8 : decode cX1_settle 8 = .ok (.lcmp, 1) := by decide +kernel
theorem dX1_settle_9 : decode cX1_settle 9 = .ok (.ifCond .ne 21, 3) := by decide +kernel
theorem dX1_settle_12 : decode cX1_settle 12 = .ok (.aload_n 0, 1) := by decide +kernel
theorem dX1_settle_13 : decode cX1_settle 13 = .ok (.ldc2_w 32, 3) := by decide +kernel
theorem dX1_settle_16 : decode cX1_settle 16 = .ok (.putfield 22, 3) := by decide +kernel
theorem dX1_settle_19 : decode cX1_settle 19 = .ok (.aload_n 0, 1) := by decide +kernel
theorem dX1_settle_20 : decode cX1_settle 20 = .ok (.aload_n 0, 1) := by decide +kernel
theorem dX1_settle_21 : decode cX1_settle 21 = .ok (.getfield 15, 3) := by decide +kernel
theorem dX1_settle_24 : decode cX1_settle 24 = .ok (.putfield 25, 3) := by decide +kernel
theorem dX1_settle_27 : decode cX1_settle 27 = .ok (.goto 30, 3) := by decide +kernel
theorem dX1_settle_30 : decode cX1_settle 30 = .ok (.aload_n 0, 1) := by decide +kernel
theorem dX1_settle_31 : decode cX1_settle 31 = .ok (.getfield 22, 3) := by decide +kernel
theorem dX1_settle_34 : decode cX1_settle 34 = .ok (.ldc2_w 32, 3) := by decide +kernel
theorem dX1_settle_37 : decode cX1_settle 37 = .ok (.lcmp, 1) := by decide +kernel
theorem dX1_settle_38 : decode cX1_settle 38 = .ok (.ifCond .ne 19, 3) := by decide +kernel
theorem dX1_settle_41 : decode cX1_settle 41 = .ok (.aload_n 0, 1) := by decide +kernel
theorem dX1_settle_42 : decode cX1_settle 42 = .ok (.aload_n 0, 1) := by decide +kernel
theorem dX1_settle_43 : decode cX1_settle 43 = .ok (.getfield 25, 3) := by decide +kernel
theorem dX1_settle_46 : decode cX1_settle 46 = .ok (.putfield 15, 3) := by decide +kernel
theorem dX1_settle_49 : decode cX1_settle 49 = .ok (.aload_n 0, 1) := by decide +kernel
theorem dX1_settle_50 : decode cX1_settle 50 = .ok (.aload_n 0, 1) := by decide +kernel
theorem dX1_settle_51 : decode cX1_settle 51 = .ok (.getfield 25, 3) := by decide +kernel
theorem dX1_settle_54 : decode cX1_settle 54 = .ok (.putfield 19, 3) := by decide +kernel
theorem dX1_settle_57 : decode cX1_settle 57 = .ok (.return_, 1) := by decide +kernel
theorem dX1_cut_0 : decode cX1_cut 0 = .ok (.ldc2_w 34, 3) := by decide +kernel
theorem dX1_cut_3 : decode cX1_cut 3 = .ok (.aload_n 0, 1) := by decide +kernel
theorem dX1_cut_4 : decode cX1_cut 4 = .ok (.getfield 19, 3) := by decide +kernel
theorem dX1_cut_7 : decode cX1_cut 7 = .ok (.invokestatic 36, 3) := by decide +kernel
theorem dX1_cut_10 : decode cX1_cut 10 = .ok (.ifCond .eq 15, 3) := by decide +kernel
theorem dX1_cut_13 : decode cX1_cut 13 = .ok (.aload_n 0, 1) := by decide +kernel
theorem dX1_cut_14 : decode cX1_cut 14 = .ok (.lconst 0, 1) := by decide +kernel
theorem dX1_cut_15 : decode cX1_cut 15 = .ok (.putfield 15, 3) := by decide +kernel
theorem dX1_cut_18 : decode cX1_cut 18 = .ok (.aload_n 0, 1) := by decide +kernel
theorem dX1_cut_19 : decode cX1_cut 19 = .ok (.ldc2_w 34, 3) := by decide +kernel
theorem dX1_cut_22 : decode cX1_cut 22 = .ok (.putfield 19, 3) := by decide +kernel
theorem dX1_cut_25 : decode cX1_cut 25 = .ok (.aload_n 0, 1) := by decide +kernel
theorem dX1_cut_26 : decode cX1_cut 26 = .ok (.dup, 1) := by decide +kernel
theorem dX1_cut_27 : decode cX1_cut 27 = .ok (.getfield 22, 3) := by decide +kernel
theorem dX1_cut_30 : decode cX1_cut 30 = .ok (.ldc2_w 40, 3) := by decide +kernel
theorem dX1_cut_33 : decode cX1_cut 33 = .ok (.lor, 1) := by decide +kernel
theorem dX1_cut_34 : decode cX1_cut 34 = .ok (.putfield 22, 3) := by decide +kernel
theorem dX1_cut_37 : decode cX1_cut 37 = .ok (.aload_n 0, 1) := by decide +kernel
theorem dX1_cut_38 : decode cX1_cut 38 = .ok (.dup, 1) := by decide +kernel
theorem dX1_cut_39 : decode cX1_cut 39 = .ok (.getfield 25, 3) := by decide +kernel
theorem dX1_cut_42 : decode cX1_cut 42 = .ok (.ldc2_w 34, 3) := by decide +kernel
theorem dX1_cut_45 : decode cX1_cut 45 = .ok (.land, 1) := by decide +kernel
theorem dX1_cut_46 : decode cX1_cut 46 = .ok (.putfield 25, 3) := by decide +kernel
theorem dX1_cut_49 : decode cX1_cut 49 = .ok (.aload_n 0, 1) := by decide +kernel
theorem dX1_cut_50 : decode cX1_cut 50 = .ok (.invokevirtual 42, 3) := by decide +kernel
theorem dX1_cut_53 : decode cX1_cut 53 = .ok (.return_, 1) := by decide +kernel
theorem dX1_work_0 : decode cX1_work 0 = .ok (.iload_n 2, 1) := by decide +kernel
theorem dX1_work_1 : decode cX1_work 1 = .ok (.ifCond .ne 11, 3) := by decide +kernel
theorem dX1_work_4 : decode cX1_work 4 = .ok (.aload_n 0, 1) := by decide +kernel
theorem dX1_work_5 : decode cX1_work 5 = .ok (.invokevirtual 45, 3) := by decide +kernel
theorem dX1_work_8 : decode cX1_work 8 = .ok (.aload_n 3, 1) := by decide +kernel
theorem dX1_work_9 : decode cX1_work 9 = .ok (.invokevirtual 45, 3) := by decide +kernel
theorem dX1_work_12 : decode cX1_work 12 = .ok (.iload_n 1, 1) := by decide +kernel
theorem dX1_work_13 : decode cX1_work 13 = .ok (.bipush 11, 2) := by decide +kernel
theorem dX1_work_15 : decode cX1_work 15 = .ok (.if_icmp .ne 11, 3) := by decide +kernel
theorem dX1_work_18 : decode cX1_work 18 = .ok (.aload_n 0, 1) := by decide +kernel
theorem dX1_work_19 : decode cX1_work 19 = .ok (.aload_n 3, 1) := by decide +kernel
theorem dX1_work_20 : decode cX1_work 20 = .ok (.invokevirtual 48, 3) := by decide +kernel
theorem dX1_work_23 : decode cX1_work 23 = .ok (.goto 75, 3) := by decide +kernel
theorem dX1_work_26 : decode cX1_work 26 = .ok (.aload_n 0, 1) := by decide +kernel
theorem dX1_work_27 : decode cX1_work 27 = .ok (.getfield 15, 3) := by decide +kernel
theorem dX1_work_30 : decode cX1_work 30 = .ok (.aload_n 0, 1) := by decide +kernel
theorem dX1_work_31 : decode cX1_work 31 = .ok (.getfield 19, 3) := by decide +kernel
theorem dX1_work_34 : decode cX1_work 34 = .ok (.lcmp, 1) := by decide +kernel
theorem dX1_work_35 : decode cX1_work 35 = .ok (.ifCond .ne 49, 3) := by decide +kernel
theorem dX1_work_38 : decode cX1_work 38 = .ok (.iload_n 1, 1) := by decide +kernel
theorem dX1_work_39 : decode cX1_work 39 = .ok (.bipush 8, 2) := by decide +kernel
theorem dX1_work_41 : decode cX1_work 41 = .ok (.if_icmp .eq 15, 3) := by decide +kernel
theorem dX1_work_44 : decode cX1_work 44 = .ok (.aload_n 3, 1) := by decide +kernel
theorem dX1_work_45 : decode cX1_work 45 = .ok (.getfield 15, 3) := by decide +kernel
theorem dX1_work_48 : decode cX1_work 48 = .ok (.aload_n 3, 1) := by decide +kernel
theorem dX1_work_49 : decode cX1_work 49 = .ok (.getfield 19, 3) := by decide +kernel
theorem dX1_work_52 : decode cX1_work 52 = .ok (.lcmp, 1) := by decide +kernel
theorem dX1_work_53 : decode cX1_work 53 = .ok (.ifCond .ne 31, 3) := by decide +kernel
theorem dX1_work_56 : decode cX1_work 56 = .ok (.aload_n 0, 1) := by decide +kernel
theorem dX1_work_57 : decode cX1_work 57 = .ok (.iload_n 1, 1) := by decide +kernel
theorem dX1_work_58 : decode cX1_work 58 = .ok (.iload_n 2, 1) := by decide +kernel
theorem dX1_work_59 : decode cX1_work 59 = .ok (.aload_n 0, 1) := by decide +kernel
theorem dX1_work_60 : decode cX1_work 60 = .ok (.getfield 15, 3) := by decide +kernel
theorem dX1_work_63 : decode cX1_work 63 = .ok (.aload_n 3, 1) := by decide +kernel
theorem dX1_work_64 : decode cX1_work 64 = .ok (.getfield 15, 3) := by decide +kernel
theorem dX1_work_67 : decode cX1_work 67 = .ok (.invokestatic 52, 3) := by decide +kernel
theorem dX1_work_70 : decode cX1_work 70 = .ok (.putfield 15, 3) := by decide +kernel
theorem dX1_work_73 : decode cX1_work 73 = .ok (.aload_n 0, 1) := by decide +kernel
theorem dX1_work_74 : decode cX1_work 74 = .ok (.aload_n 0, 1) := by decide +kernel
theorem dX1_work_75 : decode cX1_work 75 = .ok (.getfield 15, 3) := by decide +kernel
theorem dX1_work_78 : decode cX1_work 78 = .ok (.putfield 19, 3) := by decide +kernel
theorem dX1_work_81 : decode cX1_work 81 = .ok (.goto 17, 3) := by decide +kernel
theorem dX1_work_84 : decode cX1_work 84 = .ok (.aload_n 0, 1) := by decide +kernel
theorem dX1_work_85 : decode cX1_work 85 = .ok (.iload_n 1, 1) := by decide +kernel
theorem dX1_work_86 : decode cX1_work 86 = .ok (.iload_n 2, 1) := by decide +kernel
theorem dX1_work_87 : decode cX1_work 87 = .ok (.aload_n 3, 1) := by decide +kernel
theorem dX1_work_88 : decode cX1_work 88 = .ok (.invokevirtual 56, 3) := by decide +kernel
theorem dX1_work_91 : decode cX1_work 91 = .ok (.aload_n 0, 1) := by decide +kernel
theorem dX1_work_92 : decode cX1_work 92 = .ok (.iload_n 1, 1) := by decide +kernel
theorem dX1_work_93 : decode cX1_work 93 = .ok (.iload_n 2, 1) := by decide +kernel
theorem dX1_work_94 : decode cX1_work 94 = .ok (.aload_n 3, 1) := by decide +kernel
theorem dX1_work_95 : decode cX1_work 95 = .ok (.invokevirtual 60, 3) := by decide +kernel
theorem dX1_work_98 : decode cX1_work 98 = .ok (.aload_n 0, 1) := by decide +kernel
theorem dX1_work_99 : decode cX1_work 99 = .ok (.invokevirtual 42, 3) := by decide +kernel
theorem dX1_work_102 : decode cX1_work 102 = .ok (.iload_n 2, 1) := by decide +kernel
theorem dX1_work_103 : decode cX1_work 103 = .ok (.ifCond .ne 7, 3) := by decide +kernel
theorem dX1_work_106 : decode cX1_work 106 = .ok (.aload_n 0, 1) := by decide +kernel
theorem dX1_work_107 : decode cX1_work 107 = .ok (.invokevirtual 45, 3) := by decide +kernel
theorem dX1_work_110 : decode cX1_work 110 = .ok (.return_, 1) := by decide +kernel
theorem dX1_workBits_0 : decode cX1_workBits 0 = .ok (.aload_n 0, 1) := by decide +kernel
theorem dX1_workBits_1 : decode cX1_workBits 1 = .ok (.getfield 22, 3) := by decide +kernel
theorem dX1_workBits_4 : decode cX1_workBits 4 = .ok (.aload_n 0, 1) := by decide +kernel
theorem dX1_workBits_5 : decode cX1_workBits 5 = .ok (.getfield 25, 3) := by decide +kernel
theorem dX1_workBits_8 : decode cX1_workBits 8 = .ok (.ldc2_w 32, 3) := by decide +kernel
theorem dX1_workBits_11 : decode cX1_workBits 11 = .ok (.lxor, 1) := by decide +kernel
theorem dX1_workBits_12 : decode cX1_workBits 12 = .ok (.land, 1) := by decide +kernel
theorem dX1_workBits_13 : decode cX1_workBits 13 = .ok (.lstore 4, 2) := by decide +kernel
theorem dX1_workBits_15 : decode cX1_workBits 15 = .ok (.aload_n 3, 1) := by decide +kernel
theorem dX1_workBits_16 : decode cX1_workBits 16 = .ok (.getfield 22, 3) := by decide +kernel
theorem dX1_workBits_19 : decode cX1_workBits 19 = .ok (.aload_n 3, 1) := by decide +kernel
theorem dX1_workBits_20 : decode cX1_workBits 20 = .ok (.getfield 25, 3) := by decide +kernel
theorem dX1_workBits_23 : decode cX1_workBits 23 = .ok (.ldc2_w 32, 3) := by decide +kernel
theorem dX1_workBits_26 : decode cX1_workBits 26 = .ok (.lxor, 1) := by decide +kernel
theorem dX1_workBits_27 : decode cX1_workBits 27 = .ok (.land, 1) := by decide +kernel
theorem dX1_workBits_28 : decode cX1_workBits 28 = .ok (.lstore 6, 2) := by decide +kernel
theorem dX1_workBits_30 : decode cX1_workBits 30 = .ok (.iload_n 1, 1) := by decide +kernel
theorem dX1_workBits_31 : decode cX1_workBits 31 = .ok (.tableswitch 167 0 10 #[57, 65, 167, 167, 73, 103, 167, 167, 167, 167, 133], 57) := by decide +kernel
theorem dX1_workBits_88 : decode cX1_workBits 88 = .ok (.aload_n 0, 1) := by decide +kernel
theorem dX1_workBits_89 : decode cX1_workBits 89 = .ok (.aload_n 3, 1) := by decide +kernel
theorem dX1_workBits_90 : decode cX1_workBits 90 = .ok (.invokevirtual 63, 3) := by decide +kernel
theorem dX1_workBits_93 : decode cX1_workBits 93 = .ok (.goto 112, 3) := by decide +kernel
theorem dX1_workBits_96 : decode cX1_workBits 96 = .ok (.aload_n 0, 1) := by decide +kernel
theorem dX1_workBits_97 : decode cX1_workBits 97 = .ok (.aload_n 3, 1) := by decide +kernel
theorem dX1_workBits_98 : decode cX1_workBits 98 = .ok (.invokevirtual 66, 3) := by decide +kernel
theorem dX1_workBits_101 : decode cX1_workBits 101 = .ok (.goto 104, 3) := by decide +kernel
theorem dX1_workBits_104 : decode cX1_workBits 104 = .ok (.aload_n 0, 1) := by decide +kernel
theorem dX1_workBits_105 : decode cX1_workBits 105 = .ok (.dup, 1) := by decide +kernel
theorem dX1_workBits_106 : decode cX1_workBits 106 = .ok (.getfield 25, 3) := by decide +kernel
theorem dX1_workBits_109 : decode cX1_workBits 109 = .ok (.aload_n 3, 1) := by decide +kernel
theorem dX1_workBits_110 : decode cX1_workBits 110 = .ok (.getfield 25, 3) := by decide +kernel
theorem dX1_workBits_113 : decode cX1_workBits 113 = .ok (.lor, 1) := by decide +kernel
theorem dX1_workBits_114 : decode cX1_workBits 114 = .ok (.putfield 25, 3) := by decide +kernel
theorem dX1_workBits_117 : decode cX1_workBits 117 = .ok (.aload_n 0, 1) := by decide +kernel
theorem dX1_workBits_118 : decode cX1_workBits 118 = .ok (.aload_n 0, 1) := by decide +kernel
theorem dX1_workBits_119 : decode cX1_workBits 119 = .ok (.getfield 25, 3) := by decide +kernel
theorem dX1_workBits_122 : decode cX1_workBits 122 = .ok (.lload 4, 2) := by decide +kernel
theorem dX1_workBits_124 : decode cX1_workBits 124 = .ok (.lload 6, 2) := by decide +kernel
theorem dX1_workBits_126 : decode cX1_workBits 126 = .ok (.land, 1) := by decide +kernel
theorem dX1_workBits_127 : decode cX1_workBits 127 = .ok (.lor, 1) := by decide +kernel
theorem dX1_workBits_128 : decode cX1_workBits 128 = .ok (.putfield 22, 3) := by decide +kernel
theorem dX1_workBits_131 : decode cX1_workBits 131 = .ok (.goto 74, 3) := by decide +kernel
theorem dX1_workBits_134 : decode cX1_workBits 134 = .ok (.aload_n 0, 1) := by decide +kernel
theorem dX1_workBits_135 : decode cX1_workBits 135 = .ok (.dup, 1) := by decide +kernel
theorem dX1_workBits_136 : decode cX1_workBits 136 = .ok (.getfield 25, 3) := by decide +kernel
theorem dX1_workBits_139 : decode cX1_workBits 139 = .ok (.aload_n 3, 1) := by decide +kernel
theorem dX1_workBits_140 : decode cX1_workBits 140 = .ok (.getfield 25, 3) := by decide +kernel
theorem dX1_workBits_143 : decode cX1_workBits 143 = .ok (.land, 1) := by decide +kernel
theorem dX1_workBits_144 : decode cX1_workBits 144 = .ok (.putfield 25, 3) := by decide +kernel
theorem dX1_workBits_147 : decode cX1_workBits 147 = .ok (.aload_n 0, 1) := by decide +kernel
theorem dX1_workBits_148 : decode cX1_workBits 148 = .ok (.aload_n 0, 1) := by decide +kernel
theorem dX1_workBits_149 : decode cX1_workBits 149 = .ok (.getfield 25, 3) := by decide +kernel
theorem dX1_workBits_152 : decode cX1_workBits 152 = .ok (.lload 4, 2) := by decide +kernel
theorem dX1_workBits_154 : decode cX1_workBits 154 = .ok (.lor, 1) := by decide +kernel
theorem dX1_workBits_155 : decode cX1_workBits 155 = .ok (.lload 6, 2) := by decide +kernel
theorem dX1_workBits_157 : decode cX1_workBits 157 = .ok (.lor, 1) := by decide +kernel
theorem dX1_workBits_158 : decode cX1_workBits 158 = .ok (.putfield 22, 3) := by decide +kernel
theorem dX1_workBits_161 : decode cX1_workBits 161 = .ok (.goto 44, 3) := by decide +kernel
theorem dX1_workBits_164 : decode cX1_workBits 164 = .ok (.aload_n 0, 1) := by decide +kernel
theorem dX1_workBits_165 : decode cX1_workBits 165 = .ok (.dup, 1) := by decide +kernel
theorem dX1_workBits_166 : decode cX1_workBits 166 = .ok (.getfield 22, 3) := by decide +kernel
theorem dX1_workBits_169 : decode cX1_workBits 169 = .ok (.aload_n 3, 1) := by decide +kernel
theorem dX1_workBits_170 : decode cX1_workBits 170 = .ok (.getfield 22, 3) := by decide +kernel
theorem dX1_workBits_173 : decode cX1_workBits 173 = .ok (.land, 1) := by decide +kernel
theorem dX1_workBits_174 : decode cX1_workBits 174 = .ok (.putfield 22, 3) := by decide +kernel
theorem dX1_workBits_177 : decode cX1_workBits 177 = .ok (.aload_n 0, 1) := by decide +kernel
theorem dX1_workBits_178 : decode cX1_workBits 178 = .ok (.aload_n 0, 1) := by decide +kernel
theorem dX1_workBits_179 : decode cX1_workBits 179 = .ok (.getfield 25, 3) := by decide +kernel
theorem dX1_workBits_182 : decode cX1_workBits 182 = .ok (.aload_n 3, 1) := by decide +kernel
theorem dX1_workBits_183 : decode cX1_workBits 183 = .ok (.getfield 25, 3) := by decide +kernel
theorem dX1_workBits_186 : decode cX1_workBits 186 = .ok (.lxor, 1) := by decide +kernel
theorem dX1_workBits_187 : decode cX1_workBits 187 = .ok (.aload_n 0, 1) := by decide +kernel
theorem dX1_workBits_188 : decode cX1_workBits 188 = .ok (.getfield 22, 3) := by decide +kernel
theorem dX1_workBits_191 : decode cX1_workBits 191 = .ok (.land, 1) := by decide +kernel
theorem dX1_workBits_192 : decode cX1_workBits 192 = .ok (.putfield 25, 3) := by decide +kernel
theorem dX1_workBits_195 : decode cX1_workBits 195 = .ok (.goto 10, 3) := by decide +kernel
theorem dX1_workBits_198 : decode cX1_workBits 198 = .ok (.aload_n 0, 1) := by decide +kernel
theorem dX1_workBits_199 : decode cX1_workBits 199 = .ok (.iload_n 1, 1) := by decide +kernel
theorem dX1_workBits_200 : decode cX1_workBits 200 = .ok (.iload_n 2, 1) := by decide +kernel
theorem dX1_workBits_201 : decode cX1_workBits 201 = .ok (.aload_n 3, 1) := by decide +kernel
theorem dX1_workBits_202 : decode cX1_workBits 202 = .ok (.invokevirtual 69, 3) := by decide +kernel
theorem dX1_workBits_205 : decode cX1_workBits 205 = .ok (.return_, 1) := by decide +kernel
theorem dX1_addBits_0 : decode cX1_addBits 0 = .ok (.aload_n 0, 1) := by decide +kernel
theorem dX1_addBits_1 : decode cX1_addBits 1 = .ok (.getfield 25, 3) := by decide +kernel
theorem dX1_addBits_4 : decode cX1_addBits 4 = .ok (.aload_n 1, 1) := by decide +kernel
theorem dX1_addBits_5 : decode cX1_addBits 5 = .ok (.getfield 25, 3) := by decide +kernel
theorem dX1_addBits_8 : decode cX1_addBits 8 = .ok (.ladd, 1) := by decide +kernel
theorem dX1_addBits_9 : decode cX1_addBits 9 = .ok (.lstore_n 2, 1) := by decide +kernel
theorem dX1_addBits_10 : decode cX1_addBits 10 = .ok (.lload_n 2, 1) := by decide +kernel
theorem dX1_addBits_11 : decode cX1_addBits 11 = .ok (.aload_n 0, 1) := by decide +kernel
theorem dX1_addBits_12 : decode cX1_addBits 12 = .ok (.getfield 22, 3) := by decide +kernel
theorem dX1_addBits_15 : decode cX1_addBits 15 = .ok (.ldc2_w 32, 3) := by decide +kernel
theorem dX1_addBits_18 : decode cX1_addBits 18 = .ok (.lxor, 1) := by decide +kernel
theorem dX1_addBits_19 : decode cX1_addBits 19 = .ok (.ladd, 1) := by decide +kernel
theorem dX1_addBits_20 : decode cX1_addBits 20 = .ok (.aload_n 1, 1) := by decide +kernel
theorem dX1_addBits_21 : decode cX1_addBits 21 = .ok (.getfield 22, 3) := by decide +kernel
theorem dX1_addBits_24 : decode cX1_addBits 24 = .ok (.ldc2_w 32, 3) := by decide +kernel
theorem dX1_addBits_27 : decode cX1_addBits 27 = .ok (.lxor, 1) := by decide +kernel
theorem dX1_addBits_28 : decode cX1_addBits 28 = .ok (.ladd, 1) := by decide +kernel
theorem dX1_addBits_29 : decode cX1_addBits 29 = .ok (.lstore 4, 2) := by decide +kernel
theorem dX1_addBits_31 : decode cX1_addBits 31 = .ok (.aload_n 0, 1) := by decide +kernel
theorem dX1_addBits_32 : decode cX1_addBits 32 = .ok (.lload_n 2, 1) := by decide +kernel
theorem dX1_addBits_33 : decode cX1_addBits 33 = .ok (.lload 4, 2) := by decide +kernel
theorem dX1_addBits_35 : decode cX1_addBits 35 = .ok (.lxor, 1) := by decide +kernel
theorem dX1_addBits_36 : decode cX1_addBits 36 = .ok (.aload_n 0, 1) := by decide +kernel
theorem dX1_addBits_37 : decode cX1_addBits 37 = .ok (.getfield 22, 3) := by decide +kernel
theorem dX1_addBits_40 : decode cX1_addBits 40 = .ok (.ldc2_w 32, 3) := by decide +kernel
theorem dX1_addBits_43 : decode cX1_addBits 43 = .ok (.lxor, 1) := by decide +kernel
theorem dX1_addBits_44 : decode cX1_addBits 44 = .ok (.lor, 1) := by decide +kernel
theorem dX1_addBits_45 : decode cX1_addBits 45 = .ok (.aload_n 1, 1) := by decide +kernel
theorem dX1_addBits_46 : decode cX1_addBits 46 = .ok (.getfield 22, 3) := by decide +kernel
theorem dX1_addBits_49 : decode cX1_addBits 49 = .ok (.ldc2_w 32, 3) := by decide +kernel
theorem dX1_addBits_52 : decode cX1_addBits 52 = .ok (.lxor, 1) := by decide +kernel
theorem dX1_addBits_53 : decode cX1_addBits 53 = .ok (.lor, 1) := by decide +kernel
theorem dX1_addBits_54 : decode cX1_addBits 54 = .ok (.ldc2_w 32, 3) := by decide +kernel
theorem dX1_addBits_57 : decode cX1_addBits 57 = .ok (.lxor, 1) := by decide +kernel
theorem dX1_addBits_58 : decode cX1_addBits 58 = .ok (.putfield 22, 3) := by decide +kernel
theorem dX1_addBits_61 : decode cX1_addBits 61 = .ok (.aload_n 0, 1) := by decide +kernel
theorem dX1_addBits_62 : decode cX1_addBits 62 = .ok (.lload_n 2, 1) := by decide +kernel
theorem dX1_addBits_63 : decode cX1_addBits 63 = .ok (.aload_n 0, 1) := by decide +kernel
theorem dX1_addBits_64 : decode cX1_addBits 64 = .ok (.getfield 22, 3) := by decide +kernel
theorem dX1_addBits_67 : decode cX1_addBits 67 = .ok (.land, 1) := by decide +kernel
theorem dX1_addBits_68 : decode cX1_addBits 68 = .ok (.putfield 25, 3) := by decide +kernel
theorem dX1_addBits_71 : decode cX1_addBits 71 = .ok (.return_, 1) := by decide +kernel
theorem dX1_takeBits_0 : decode cX1_takeBits 0 = .ok (.aload_n 0, 1) := by decide +kernel
theorem dX1_takeBits_1 : decode cX1_takeBits 1 = .ok (.getfield 25, 3) := by decide +kernel
theorem dX1_takeBits_4 : decode cX1_takeBits 4 = .ok (.aload_n 1, 1) := by decide +kernel
theorem dX1_takeBits_5 : decode cX1_takeBits 5 = .ok (.getfield 25, 3) := by decide +kernel
theorem dX1_takeBits_8 : decode cX1_takeBits 8 = .ok (.lsub, 1) := by decide +kernel
theorem dX1_takeBits_9 : decode cX1_takeBits 9 = .ok (.lstore_n 2, 1) := by decide +kernel
theorem dX1_takeBits_10 : decode cX1_takeBits 10 = .ok (.lload_n 2, 1) := by decide +kernel
theorem dX1_takeBits_11 : decode cX1_takeBits 11 = .ok (.aload_n 0, 1) := by decide +kernel
theorem dX1_takeBits_12 : decode cX1_takeBits 12 = .ok (.getfield 22, 3) := by decide +kernel
theorem dX1_takeBits_15 : decode cX1_takeBits 15 = .ok (.ldc2_w 32, 3) := by decide +kernel
theorem dX1_takeBits_18 : decode cX1_takeBits 18 = .ok (.lxor, 1) := by decide +kernel
theorem dX1_takeBits_19 : decode cX1_takeBits 19 = .ok (.ladd, 1) := by decide +kernel
theorem dX1_takeBits_20 : decode cX1_takeBits 20 = .ok (.lstore 4, 2) := by decide +kernel
theorem dX1_takeBits_22 : decode cX1_takeBits 22 = .ok (.lload_n 2, 1) := by decide +kernel
theorem dX1_takeBits_23 : decode cX1_takeBits 23 = .ok (.aload_n 1, 1) := by decide +kernel
theorem dX1_takeBits_24 : decode cX1_takeBits 24 = .ok (.getfield 22, 3) := by decide +kernel
theorem dX1_takeBits_27 : decode cX1_takeBits 27 = .ok (.ldc2_w 32, 3) := by decide +kernel
theorem dX1_takeBits_30 : decode cX1_takeBits 30 = .ok (.lxor, 1) := by decide +kernel
theorem dX1_takeBits_31 : decode cX1_takeBits 31 = .ok (.lsub, 1) := by decide +kernel
theorem dX1_takeBits_32 : decode cX1_takeBits 32 = .ok (.lstore 6, 2) := by decide +kernel
theorem dX1_takeBits_34 : decode cX1_takeBits 34 = .ok (.aload_n 0, 1) := by decide +kernel
theorem dX1_takeBits_35 : decode cX1_takeBits 35 = .ok (.lload 4, 2) := by decide +kernel
theorem dX1_takeBits_37 : decode cX1_takeBits 37 = .ok (.lload 6, 2) := by decide +kernel
theorem dX1_takeBits_39 : decode cX1_takeBits 39 = .ok (.lxor, 1) := by decide +kernel
theorem dX1_takeBits_40 : decode cX1_takeBits 40 = .ok (.aload_n 0, 1) := by decide +kernel
theorem dX1_takeBits_41 : decode cX1_takeBits 41 = .ok (.getfield 22, 3) := by decide +kernel
theorem dX1_takeBits_44 : decode cX1_takeBits 44 = .ok (.ldc2_w 32, 3) := by decide +kernel
theorem dX1_takeBits_47 : decode cX1_takeBits 47 = .ok (.lxor, 1) := by decide +kernel
theorem dX1_takeBits_48 : decode cX1_takeBits 48 = .ok (.lor, 1) := by decide +kernel
theorem dX1_takeBits_49 : decode cX1_takeBits 49 = .ok (.aload_n 1, 1) := by decide +kernel
theorem dX1_takeBits_50 : decode cX1_takeBits 50 = .ok (.getfield 22, 3) := by decide +kernel
theorem dX1_takeBits_53 : decode cX1_takeBits 53 = .ok (.ldc2_w 32, 3) := by decide +kernel
theorem dX1_takeBits_56 : decode cX1_takeBits 56 = .ok (.lxor, 1) := by decide +kernel
theorem dX1_takeBits_57 : decode cX1_takeBits 57 = .ok (.lor, 1) := by decide +kernel
theorem dX1_takeBits_58 : decode cX1_takeBits 58 = .ok (.ldc2_w 32, 3) := by decide +kernel
theorem dX1_takeBits_61 : decode cX1_takeBits 61 = .ok (.lxor, 1) := by decide +kernel
theorem dX1_takeBits_62 : decode cX1_takeBits 62 = .ok (.putfield 22, 3) := by decide +kernel
theorem dX1_takeBits_65 : decode cX1_takeBits 65 = .ok (.aload_n 0, 1) := by decide +kernel
theorem dX1_takeBits_66 : decode cX1_takeBits 66 = .ok (.lload_n 2, 1) := by decide +kernel
theorem dX1_takeBits_67 : decode cX1_takeBits 67 = .ok (.aload_n 0, 1) := by decide +kernel
theorem dX1_takeBits_68 : decode cX1_takeBits 68 = .ok (.getfield 22, 3) := by decide +kernel
theorem dX1_takeBits_71 : decode cX1_takeBits 71 = .ok (.land, 1) := by decide +kernel
theorem dX1_takeBits_72 : decode cX1_takeBits 72 = .ok (.putfield 25, 3) := by decide +kernel
theorem dX1_takeBits_75 : decode cX1_takeBits 75 = .ok (.return_, 1) := by decide +kernel
theorem dX1_shiftBits_0 : decode cX1_shiftBits 0 = .ok (.iload_n 1, 1) := by decide +kernel
theorem dX1_shiftBits_1 : decode cX1_shiftBits 1 = .ok (.bipush 6, 2) := by decide +kernel
theorem dX1_shiftBits_3 : decode cX1_shiftBits 3 = .ok (.if_icmp .ne 7, 3) := by decide +kernel
theorem dX1_shiftBits_6 : decode cX1_shiftBits 6 = .ok (.iconst 1, 1) := by decide +kernel
theorem dX1_shiftBits_7 : decode cX1_shiftBits 7 = .ok (.goto 4, 3) := by decide +kernel
theorem dX1_shiftBits_10 : decode cX1_shiftBits 10 = .ok (.iconst 0, 1) := by decide +kernel
theorem dX1_shiftBits_11 : decode cX1_shiftBits 11 = .ok (.istore 4, 2) := by decide +kernel
theorem dX1_shiftBits_13 : decode cX1_shiftBits 13 = .ok (.iload_n 1, 1) := by decide +kernel
theorem dX1_shiftBits_14 : decode cX1_shiftBits 14 = .ok (.bipush 7, 2) := by decide +kernel
theorem dX1_shiftBits_16 : decode cX1_shiftBits 16 = .ok (.if_icmp .eq 17, 3) := by decide +kernel
theorem dX1_shiftBits_19 : decode cX1_shiftBits 19 = .ok (.iload_n 1, 1) := by decide +kernel
theorem dX1_shiftBits_20 : decode cX1_shiftBits 20 = .ok (.bipush 12, 2) := by decide +kernel
theorem dX1_shiftBits_22 : decode cX1_shiftBits 22 = .ok (.if_icmp .ne 15, 3) := by decide +kernel
theorem dX1_shiftBits_25 : decode cX1_shiftBits 25 = .ok (.aload_n 0, 1) := by decide +kernel
theorem dX1_shiftBits_26 : decode cX1_shiftBits 26 = .ok (.iload_n 2, 1) := by decide +kernel
theorem dX1_shiftBits_27 : decode cX1_shiftBits 27 = .ok (.invokevirtual 72, 3) := by decide +kernel
theorem dX1_shiftBits_30 : decode cX1_shiftBits 30 = .ok (.ifCond .eq 7, 3) := by decide +kernel
theorem dX1_shiftBits_33 : decode cX1_shiftBits 33 = .ok (.iconst 1, 1) := by decide +kernel
theorem dX1_shiftBits_34 : decode cX1_shiftBits 34 = .ok (.goto 4, 3) := by decide +kernel
theorem dX1_shiftBits_37 : decode cX1_shiftBits 37 = .ok (.iconst 0, 1) := by decide +kernel
theorem dX1_shiftBits_38 : decode cX1_shiftBits 38 = .ok (.istore 5, 2) := by decide +kernel
theorem dX1_shiftBits_40 : decode cX1_shiftBits 40 = .ok (.iload 4, 2) := by decide +kernel
theorem dX1_shiftBits_42 : decode cX1_shiftBits 42 = .ok (.ifCond .ne 8, 3) := by decide +kernel
theorem dX1_shiftBits_45 : decode cX1_shiftBits 45 = .ok (.iload 5, 2) := by decide +kernel
theorem dX1_shiftBits_47 : decode cX1_shiftBits 47 = .ok (.ifCond .eq 10, 3) := by decide +kernel
theorem dX1_shiftBits_50 : decode cX1_shiftBits 50 = .ok (.aload_n 3, 1) := by decide +kernel
theorem dX1_shiftBits_51 : decode cX1_shiftBits 51 = .ok (.invokevirtual 76, 3) := by decide +kernel
theorem dX1_shiftBits_54 : decode cX1_shiftBits 54 = .ok (.ifCond .ne 14, 3) := by decide +kernel
theorem dX1_shiftBits_57 : decode cX1_shiftBits 57 = .ok (.aload_n 0, 1) := by decide +kernel
theorem dX1_shiftBits_58 : decode cX1_shiftBits 58 = .ok (.lconst 0, 1) := by decide +kernel
theorem dX1_shiftBits_59 : decode cX1_shiftBits 59 = .ok (.putfield 22, 3) := by decide +kernel
theorem dX1_shiftBits_62 : decode cX1_shiftBits 62 = .ok (.aload_n 0, 1) := by decide +kernel
theorem dX1_shiftBits_63 : decode cX1_shiftBits 63 = .ok (.lconst 0, 1) := by decide +kernel
theorem dX1_shiftBits_64 : decode cX1_shiftBits 64 = .ok (.putfield 25, 3) := by decide +kernel
theorem dX1_shiftBits_67 : decode cX1_shiftBits 67 = .ok (.return_, 1) := by decide +kernel
theorem dX1_shiftBits_68 : decode cX1_shiftBits 68 = .ok (.aload_n 3, 1) := by decide +kernel
theorem dX1_shiftBits_69 : decode cX1_shiftBits 69 = .ok (.getfield 15, 3) := by decide +kernel
theorem dX1_shiftBits_72 : decode cX1_shiftBits 72 = .ok (.iload_n 2, 1) := by decide +kernel
theorem dX1_shiftBits_73 : decode cX1_shiftBits 73 = .ok (.ifCond .eq 8, 3) := by decide +kernel
theorem dX1_shiftBits_76 : decode cX1_shiftBits 76 = .ok (.bipush 63, 2) := by decide +kernel
theorem dX1_shiftBits_78 : decode cX1_shiftBits 78 = .ok (.goto 5, 3) := by decide +kernel
theorem dX1_shiftBits_81 : decode cX1_shiftBits 81 = .ok (.bipush 31, 2) := by decide +kernel
theorem dX1_shiftBits_83 : decode cX1_shiftBits 83 = .ok (.i2l, 1) := by decide +kernel
theorem dX1_shiftBits_84 : decode cX1_shiftBits 84 = .ok (.land, 1) := by decide +kernel
theorem dX1_shiftBits_85 : decode cX1_shiftBits 85 = .ok (.l2i, 1) := by decide +kernel
theorem dX1_shiftBits_86 : decode cX1_shiftBits 86 = .ok (.istore 6, 2) := by decide +kernel
theorem dX1_shiftBits_88 : decode cX1_shiftBits 88 = .ok (.iload 4, 2) := by decide +kernel
theorem dX1_shiftBits_90 : decode cX1_shiftBits 90 = .ok (.ifCond .eq 36, 3) := by decide +kernel
theorem dX1_shiftBits_93 : decode cX1_shiftBits 93 = .ok (.aload_n 0, 1) := by decide +kernel
theorem dX1_shiftBits_94 : decode cX1_shiftBits 94 = .ok (.aload_n 0, 1) := by decide +kernel
theorem dX1_shiftBits_95 : decode cX1_shiftBits 95 = .ok (.getfield 22, 3) := by decide +kernel
theorem dX1_shiftBits_98 : decode cX1_shiftBits 98 = .ok (.ldc2_w 32, 3) := by decide +kernel
theorem dX1_shiftBits_101 : decode cX1_shiftBits 101 = .ok (.lxor, 1) := by decide +kernel
theorem dX1_shiftBits_102 : decode cX1_shiftBits 102 = .ok (.iload 6, 2) := by decide +kernel
theorem dX1_shiftBits_104 : decode cX1_shiftBits 104 = .ok (.lshl, 1) := by decide +kernel
theorem dX1_shiftBits_105 : decode cX1_shiftBits 105 = .ok (.ldc2_w 32, 3) := by decide +kernel
theorem dX1_shiftBits_108 : decode cX1_shiftBits 108 = .ok (.lxor, 1) := by decide +kernel
theorem dX1_shiftBits_109 : decode cX1_shiftBits 109 = .ok (.putfield 22, 3) := by decide +kernel
theorem dX1_shiftBits_112 : decode cX1_shiftBits 112 = .ok (.aload_n 0, 1) := by decide +kernel
theorem dX1_shiftBits_113 : decode cX1_shiftBits 113 = .ok (.aload_n 0, 1) := by decide +kernel
theorem dX1_shiftBits_114 : decode cX1_shiftBits 114 = .ok (.getfield 25, 3) := by decide +kernel
theorem dX1_shiftBits_117 : decode cX1_shiftBits 117 = .ok (.iload 6, 2) := by decide +kernel
theorem dX1_shiftBits_119 : decode cX1_shiftBits 119 = .ok (.lshl, 1) := by decide +kernel
theorem dX1_shiftBits_120 : decode cX1_shiftBits 120 = .ok (.putfield 25, 3) := by decide +kernel
theorem dX1_shiftBits_123 : decode cX1_shiftBits 123 = .ok (.goto 33, 3) := by decide +kernel
theorem dX1_shiftBits_126 : decode cX1_shiftBits 126 = .ok (.aload_n 0, 1) := by decide +kernel
theorem dX1_shiftBits_127 : decode cX1_shiftBits 127 = .ok (.aload_n 0, 1) := by decide +kernel
theorem dX1_shiftBits_128 : decode cX1_shiftBits 128 = .ok (.getfield 22, 3) := by decide +kernel
theorem dX1_shiftBits_131 : decode cX1_shiftBits 131 = .ok (.ldc2_w 32, 3) := by decide +kernel
theorem dX1_shiftBits_134 : decode cX1_shiftBits 134 = .ok (.lxor, 1) := by decide +kernel
theorem dX1_shiftBits_135 : decode cX1_shiftBits 135 = .ok (.iload 6, 2) := by decide +kernel
theorem dX1_shiftBits_137 : decode cX1_shiftBits 137 = .ok (.lushr, 1) := by decide +kernel
theorem dX1_shiftBits_138 : decode cX1_shiftBits 138 = .ok (.ldc2_w 32, 3) := by decide +kernel
theorem dX1_shiftBits_141 : decode cX1_shiftBits 141 = .ok (.lxor, 1) := by decide +kernel
theorem dX1_shiftBits_142 : decode cX1_shiftBits 142 = .ok (.putfield 22, 3) := by decide +kernel
theorem dX1_shiftBits_145 : decode cX1_shiftBits 145 = .ok (.aload_n 0, 1) := by decide +kernel
theorem dX1_shiftBits_146 : decode cX1_shiftBits 146 = .ok (.aload_n 0, 1) := by decide +kernel
theorem dX1_shiftBits_147 : decode cX1_shiftBits 147 = .ok (.getfield 25, 3) := by decide +kernel
theorem dX1_shiftBits_150 : decode cX1_shiftBits 150 = .ok (.iload 6, 2) := by decide +kernel
theorem dX1_shiftBits_152 : decode cX1_shiftBits 152 = .ok (.lushr, 1) := by decide +kernel
theorem dX1_shiftBits_153 : decode cX1_shiftBits 153 = .ok (.putfield 25, 3) := by decide +kernel
theorem dX1_shiftBits_156 : decode cX1_shiftBits 156 = .ok (.return_, 1) := by decide +kernel
theorem dX1_isUnsigned_0 : decode cX1_isUnsigned 0 = .ok (.iload_n 1, 1) := by decide +kernel
theorem dX1_isUnsigned_1 : decode cX1_isUnsigned 1 = .ok (.ifCond .eq 20, 3) := by decide +kernel
theorem dX1_isUnsigned_4 : decode cX1_isUnsigned 4 = .ok (.aload_n 0, 1) := by decide +kernel
theorem dX1_isUnsigned_5 : decode cX1_isUnsigned 5 = .ok (.getfield 19, 3) := by decide +kernel
theorem dX1_isUnsigned_8 : decode cX1_isUnsigned 8 = .ok (.lconst 0, 1) := by decide +kernel
theorem dX1_isUnsigned_9 : decode cX1_isUnsigned 9 = .ok (.lcmp, 1) := by decide +kernel
theorem dX1_isUnsigned_10 : decode cX1_isUnsigned 10 = .ok (.ifCond .lt 7, 3) := by decide +kernel
theorem dX1_isUnsigned_13 : decode cX1_isUnsigned 13 = .ok (.iconst 1, 1) := by decide +kernel
theorem dX1_isUnsigned_14 : decode cX1_isUnsigned 14 = .ok (.goto 32, 3) := by decide +kernel
theorem dX1_isUnsigned_17 : decode cX1_isUnsigned 17 = .ok (.iconst 0, 1) := by decide +kernel
theorem dX1_isUnsigned_18 : decode cX1_isUnsigned 18 = .ok (.goto 28, 3) := by decide +kernel
theorem dX1_isUnsigned_21 : decode cX1_isUnsigned 21 = .ok (.aload_n 0, 1) := by decide +kernel
theorem dX1_isUnsigned_22 : decode cX1_isUnsigned 22 = .ok (.getfield 19, 3) := by decide +kernel
theorem dX1_isUnsigned_25 : decode cX1_isUnsigned 25 = .ok (.lconst 0, 1) := by decide +kernel
theorem dX1_isUnsigned_26 : decode cX1_isUnsigned 26 = .ok (.lcmp, 1) := by decide +kernel
theorem dX1_isUnsigned_27 : decode cX1_isUnsigned 27 = .ok (.ifCond .lt 18, 3) := by decide +kernel
theorem dX1_isUnsigned_30 : decode cX1_isUnsigned 30 = .ok (.aload_n 0, 1) := by decide +kernel
theorem dX1_isUnsigned_31 : decode cX1_isUnsigned 31 = .ok (.getfield 19, 3) := by decide +kernel
theorem dX1_isUnsigned_34 : decode cX1_isUnsigned 34 = .ok (.ldc2_w 80, 3) := by decide +kernel
theorem dX1_isUnsigned_37 : decode cX1_isUnsigned 37 = .ok (.lcmp, 1) := by decide +kernel
theorem dX1_isUnsigned_38 : decode cX1_isUnsigned 38 = .ok (.ifCond .gt 7, 3) := by decide +kernel
theorem dX1_isUnsigned_41 : decode cX1_isUnsigned 41 = .ok (.iconst 1, 1) := by decide +kernel
theorem dX1_isUnsigned_42 : decode cX1_isUnsigned 42 = .ok (.goto 4, 3) := by decide +kernel
theorem dX1_isUnsigned_45 : decode cX1_isUnsigned 45 = .ok (.iconst 0, 1) := by decide +kernel
theorem dX1_isUnsigned_46 : decode cX1_isUnsigned 46 = .ok (.ireturn, 1) := by decide +kernel
theorem dX1_workRange_0 : decode cX1_workRange 0 = .ok (.aload_n 3, 1) := by decide +kernel
theorem dX1_workRange_1 : decode cX1_workRange 1 = .ok (.getfield 15, 3) := by decide +kernel
theorem dX1_workRange_4 : decode cX1_workRange 4 = .ok (.iload_n 2, 1) := by decide +kernel
theorem dX1_workRange_5 : decode cX1_workRange 5 = .ok (.ifCond .eq 8, 3) := by decide +kernel
theorem dX1_workRange_8 : decode cX1_workRange 8 = .ok (.bipush 63, 2) := by decide +kernel
theorem dX1_workRange_10 : decode cX1_workRange 10 = .ok (.goto 5, 3) := by decide +kernel
theorem dX1_workRange_13 : decode cX1_workRange 13 = .ok (.bipush 31, 2) := by decide +kernel
theorem dX1_workRange_15 : decode cX1_workRange 15 = .ok (.i2l, 1) := by decide +kernel
theorem dX1_workRange_16 : decode cX1_workRange 16 = .ok (.land, 1) := by decide +kernel
theorem dX1_workRange_17 : decode cX1_workRange 17 = .ok (.l2i, 1) := by decide +kernel
theorem dX1_workRange_18 : decode cX1_workRange 18 = .ok (.istore 4, 2) := by decide +kernel
theorem dX1_workRange_20 : decode cX1_workRange 20 = .ok (.aload_n 3, 1) := by decide +kernel
theorem dX1_workRange_21 : decode cX1_workRange 21 = .ok (.getfield 15, 3) := by decide +kernel
theorem dX1_workRange_24 : decode cX1_workRange 24 = .ok (.aload_n 3, 1) := by decide +kernel
theorem dX1_workRange_25 : decode cX1_workRange 25 = .ok (.getfield 19, 3) := by decide +kernel
theorem dX1_workRange_28 : decode cX1_workRange 28 = .ok (.lcmp, 1) := by decide +kernel
theorem dX1_workRange_29 : decode cX1_workRange 29 = .ok (.ifCond .ne 7, 3) := by decide +kernel
theorem dX1_workRange_32 : decode cX1_workRange 32 = .ok (.iconst 1, 1) := by decide +kernel
theorem dX1_workRange_33 : decode cX1_workRange 33 = .ok (.goto 4, 3) := by decide +kernel
theorem dX1_workRange_36 : decode cX1_workRange 36 = .ok (.iconst 0, 1) := by decide +kernel
theorem dX1_workRange_37 : decode cX1_workRange 37 = .ok (.istore 5, 2) := by decide +kernel
theorem dX1_workRange_39 : decode cX1_workRange 39 = .ok (.iload_n 1, 1) := by decide +kernel
theorem dX1_workRange_40 : decode cX1_workRange 40 = .ok (.tableswitch 505 0 12 #[68, 117, 161, 220, 337, 317, 389, 440, 505, 279, 368, 505, 440], 68) := by decide +kernel
theorem dX1_workRange_108 : decode cX1_workRange 108 = .ok (.aload_n 0, 1) := by decide +kernel
theorem dX1_workRange_109 : decode cX1_workRange 109 = .ok (.aload_n 0, 1) := by decide +kernel
theorem dX1_workRange_110 : decode cX1_workRange 110 = .ok (.getfield 15, 3) := by decide +kernel
theorem dX1_workRange_113 : decode cX1_workRange 113 = .ok (.aload_n 3, 1) := by decide +kernel
theorem dX1_workRange_114 : decode cX1_workRange 114 = .ok (.getfield 15, 3) := by decide +kernel
theorem dX1_workRange_117 : decode cX1_workRange 117 = .ok (.ladd, 1) := by decide +kernel
theorem dX1_workRange_118 : decode cX1_workRange 118 = .ok (.aload_n 0, 1) := by decide +kernel
theorem dX1_workRange_119 : decode cX1_workRange 119 = .ok (.getfield 19, 3) := by decide +kernel
theorem dX1_workRange_122 : decode cX1_workRange 122 = .ok (.aload_n 3, 1) := by decide +kernel
theorem dX1_workRange_123 : decode cX1_workRange 123 = .ok (.getfield 19, 3) := by decide +kernel
theorem dX1_workRange_126 : decode cX1_workRange 126 = .ok (.ladd, 1) := by decide +kernel
theorem dX1_workRange_127 : decode cX1_workRange 127 = .ok (.aload_n 0, 1) := by decide +kernel
theorem dX1_workRange_128 : decode cX1_workRange 128 = .ok (.getfield 19, 3) := by decide +kernel
theorem dX1_workRange_131 : decode cX1_workRange 131 = .ok (.aload_n 3, 1) := by decide +kernel
theorem dX1_workRange_132 : decode cX1_workRange 132 = .ok (.getfield 19, 3) := by decide +kernel
theorem dX1_workRange_135 : decode cX1_workRange 135 = .ok (.ladd, 1) := by decide +kernel
theorem dX1_workRange_136 : decode cX1_workRange 136 = .ok (.aload_n 0, 1) := by decide +kernel
theorem dX1_workRange_137 : decode cX1_workRange 137 = .ok (.getfield 19, 3) := by decide +kernel
theorem dX1_workRange_140 : decode cX1_workRange 140 = .ok (.invokestatic 36, 3) := by decide +kernel
theorem dX1_workRange_143 : decode cX1_workRange 143 = .ok (.ifCond .ne 7, 3) := by decide +kernel
theorem dX1_workRange_146 : decode cX1_workRange 146 = .ok (.iconst 1, 1) := by decide +kernel
theorem dX1_workRange_147 : decode cX1_workRange 147 = .ok (.goto 4, 3) := by decide +kernel
theorem dX1_workRange_150 : decode cX1_workRange 150 = .ok (.iconst 0, 1) := by decide +kernel
theorem dX1_workRange_151 : decode cX1_workRange 151 = .ok (.invokevirtual 82, 3) := by decide +kernel
theorem dX1_workRange_154 : decode cX1_workRange 154 = .ok (.goto 400, 3) := by decide +kernel
theorem dX1_workRange_157 : decode cX1_workRange 157 = .ok (.aload_n 0, 1) := by decide +kernel
theorem dX1_workRange_158 : decode cX1_workRange 158 = .ok (.aload_n 0, 1) := by decide +kernel
theorem dX1_workRange_159 : decode cX1_workRange 159 = .ok (.getfield 15, 3) := by decide +kernel
theorem dX1_workRange_162 : decode cX1_workRange 162 = .ok (.aload_n 3, 1) := by decide +kernel
theorem dX1_workRange_163 : decode cX1_workRange 163 = .ok (.getfield 19, 3) := by decide +kernel
theorem dX1_workRange_166 : decode cX1_workRange 166 = .ok (.lsub, 1) := by decide +kernel
theorem dX1_workRange_167 : decode cX1_workRange 167 = .ok (.aload_n 0, 1) := by decide +kernel
theorem dX1_workRange_168 : decode cX1_workRange 168 = .ok (.getfield 19, 3) := by decide +kernel
theorem dX1_workRange_171 : decode cX1_workRange 171 = .ok (.aload_n 3, 1) := by decide +kernel
theorem dX1_workRange_172 : decode cX1_workRange 172 = .ok (.getfield 15, 3) := by decide +kernel
theorem dX1_workRange_175 : decode cX1_workRange 175 = .ok (.lsub, 1) := by decide +kernel
theorem dX1_workRange_176 : decode cX1_workRange 176 = .ok (.aload_n 0, 1) := by decide +kernel
theorem dX1_workRange_177 : decode cX1_workRange 177 = .ok (.getfield 15, 3) := by decide +kernel
theorem dX1_workRange_180 : decode cX1_workRange 180 = .ok (.aload_n 3, 1) := by decide +kernel
theorem dX1_workRange_181 : decode cX1_workRange 181 = .ok (.getfield 19, 3) := by decide +kernel
theorem dX1_workRange_184 : decode cX1_workRange 184 = .ok (.invokestatic 36, 3) := by decide +kernel
theorem dX1_workRange_187 : decode cX1_workRange 187 = .ok (.ifCond .ne 7, 3) := by decide +kernel
theorem dX1_workRange_190 : decode cX1_workRange 190 = .ok (.iconst 1, 1) := by decide +kernel
theorem dX1_workRange_191 : decode cX1_workRange 191 = .ok (.goto 4, 3) := by decide +kernel
theorem dX1_workRange_194 : decode cX1_workRange 194 = .ok (.iconst 0, 1) := by decide +kernel
theorem dX1_workRange_195 : decode cX1_workRange 195 = .ok (.invokevirtual 82, 3) := by decide +kernel
theorem dX1_workRange_198 : decode cX1_workRange 198 = .ok (.goto 356, 3) := by decide +kernel
theorem dX1_workRange_201 : decode cX1_workRange 201 = .ok (.aload_n 0, 1) := by decide +kernel
theorem dX1_workRange_202 : decode cX1_workRange 202 = .ok (.aload_n 0, 1) := by decide +kernel
theorem dX1_workRange_203 : decode cX1_workRange 203 = .ok (.getfield 15, 3) := by decide +kernel
theorem dX1_workRange_206 : decode cX1_workRange 206 = .ok (.aload_n 3, 1) := by decide +kernel
theorem dX1_workRange_207 : decode cX1_workRange 207 = .ok (.getfield 15, 3) := by decide +kernel
theorem dX1_workRange_210 : decode cX1_workRange 210 = .ok (.lmul, 1) := by decide +kernel
theorem dX1_workRange_211 : decode cX1_workRange 211 = .ok (.aload_n 0, 1) := by decide +kernel
theorem dX1_workRange_212 : decode cX1_workRange 212 = .ok (.getfield 19, 3) := by decide +kernel
theorem dX1_workRange_215 : decode cX1_workRange 215 = .ok (.aload_n 3, 1) := by decide +kernel
theorem dX1_workRange_216 : decode cX1_workRange 216 = .ok (.getfield 19, 3) := by decide +kernel
theorem dX1_workRange_219 : decode cX1_workRange 219 = .ok (.lmul, 1) := by decide +kernel
theorem dX1_workRange_220 : decode cX1_workRange 220 = .ok (.aload_n 3, 1) := by decide +kernel
theorem dX1_workRange_221 : decode cX1_workRange 221 = .ok (.getfield 19, 3) := by decide +kernel
theorem dX1_workRange_224 : decode cX1_workRange 224 = .ok (.lconst 0, 1) := by decide +kernel
theorem dX1_workRange_225 : decode cX1_workRange 225 = .ok (.lcmp, 1) := by decide +kernel
theorem dX1_workRange_226 : decode cX1_workRange 226 = .ok (.ifCond .eq 23, 3) := by decide +kernel
theorem dX1_workRange_229 : decode cX1_workRange 229 = .ok (.ldc2_w 32, 3) := by decide +kernel
theorem dX1_workRange_232 : decode cX1_workRange 232 = .ok (.aload_n 3, 1) := by decide +kernel
theorem dX1_workRange_233 : decode cX1_workRange 233 = .ok (.getfield 19, 3) := by decide +kernel
theorem dX1_workRange_236 : decode cX1_workRange 236 = .ok (.invokestatic 86, 3) := by decide +kernel
theorem dX1_workRange_239 : decode cX1_workRange 239 = .ok (.aload_n 0, 1) := by decide +kernel
theorem dX1_workRange_240 : decode cX1_workRange 240 = .ok (.getfield 19, 3) := by decide +kernel
theorem dX1_workRange_243 : decode cX1_workRange 243 = .ok (.invokestatic 36, 3) := by decide +kernel
theorem dX1_workRange_246 : decode cX1_workRange 246 = .ok (.ifCond .ne 7, 3) := by decide +kernel
theorem dX1_workRange_249 : decode cX1_workRange 249 = .ok (.iconst 1, 1) := by decide +kernel
theorem dX1_workRange_250 : decode cX1_workRange 250 = .ok (.goto 4, 3) := by decide +kernel
theorem dX1_workRange_253 : decode cX1_workRange 253 = .ok (.iconst 0, 1) := by decide +kernel
theorem dX1_workRange_254 : decode cX1_workRange 254 = .ok (.invokevirtual 82, 3) := by decide +kernel
theorem dX1_workRange_257 : decode cX1_workRange 257 = .ok (.goto 297, 3) := by decide +kernel
theorem dX1_workRange_260 : decode cX1_workRange 260 = .ok (.aload_n 0, 1) := by decide +kernel
theorem dX1_workRange_261 : decode cX1_workRange 261 = .ok (.aload_n 3, 1) := by decide +kernel
theorem dX1_workRange_262 : decode cX1_workRange 262 = .ok (.getfield 15, 3) := by decide +kernel
theorem dX1_workRange_265 : decode cX1_workRange 265 = .ok (.lconst 0, 1) := by decide +kernel
theorem dX1_workRange_266 : decode cX1_workRange 266 = .ok (.lcmp, 1) := by decide +kernel
theorem dX1_workRange_267 : decode cX1_workRange 267 = .ok (.ifCond .ne 7, 3) := by decide +kernel
theorem dX1_workRange_270 : decode cX1_workRange 270 = .ok (.lconst 0, 1) := by decide +kernel
theorem dX1_workRange_271 : decode cX1_workRange 271 = .ok (.goto 14, 3) := by decide +kernel
theorem dX1_workRange_274 : decode cX1_workRange 274 = .ok (.aload_n 0, 1) := by decide +kernel
theorem dX1_workRange_275 : decode cX1_workRange 275 = .ok (.getfield 15, 3) := by decide +kernel
theorem dX1_workRange_278 : decode cX1_workRange 278 = .ok (.aload_n 3, 1) := by decide +kernel
theorem dX1_workRange_279 : decode cX1_workRange 279 = .ok (.getfield 19, 3) := by decide +kernel
theorem dX1_workRange_282 : decode cX1_workRange 282 = .ok (.invokestatic 86, 3) := by decide +kernel
theorem dX1_workRange_285 : decode cX1_workRange 285 = .ok (.aload_n 3, 1) := by decide +kernel
theorem dX1_workRange_286 : decode cX1_workRange 286 = .ok (.getfield 15, 3) := by decide +kernel
theorem dX1_workRange_289 : decode cX1_workRange 289 = .ok (.lconst 0, 1) := by decide +kernel
theorem dX1_workRange_290 : decode cX1_workRange 290 = .ok (.lcmp, 1) := by decide +kernel
theorem dX1_workRange_291 : decode cX1_workRange 291 = .ok (.ifCond .ne 10, 3) := by decide +kernel
theorem dX1_workRange_294 : decode cX1_workRange 294 = .ok (.aload_n 0, 1) := by decide +kernel
theorem dX1_workRange_295 : decode cX1_workRange 295 = .ok (.getfield 19, 3) := by decide +kernel
theorem dX1_workRange_298 : decode cX1_workRange 298 = .ok (.goto 14, 3) := by decide +kernel
theorem dX1_workRange_301 : decode cX1_workRange 301 = .ok (.aload_n 0, 1) := by decide +kernel
theorem dX1_workRange_302 : decode cX1_workRange 302 = .ok (.getfield 19, 3) := by decide +kernel
theorem dX1_workRange_305 : decode cX1_workRange 305 = .ok (.aload_n 3, 1) := by decide +kernel
theorem dX1_workRange_306 : decode cX1_workRange 306 = .ok (.getfield 15, 3) := by decide +kernel
theorem dX1_workRange_309 : decode cX1_workRange 309 = .ok (.invokestatic 86, 3) := by decide +kernel
theorem dX1_workRange_312 : decode cX1_workRange 312 = .ok (.iconst 1, 1) := by decide +kernel
theorem dX1_workRange_313 : decode cX1_workRange 313 = .ok (.invokevirtual 82, 3) := by decide +kernel
theorem dX1_workRange_316 : decode cX1_workRange 316 = .ok (.goto 238, 3) := by decide +kernel
theorem dX1_workRange_319 : decode cX1_workRange 319 = .ok (.aload_n 0, 1) := by decide +kernel
theorem dX1_workRange_320 : decode cX1_workRange 320 = .ok (.lconst 0, 1) := by decide +kernel
theorem dX1_workRange_321 : decode cX1_workRange 321 = .ok (.aload_n 3, 1) := by decide +kernel
theorem dX1_workRange_322 : decode cX1_workRange 322 = .ok (.getfield 15, 3) := by decide +kernel
theorem dX1_workRange_325 : decode cX1_workRange 325 = .ok (.lconst 0, 1) := by decide +kernel
theorem dX1_workRange_326 : decode cX1_workRange 326 = .ok (.lcmp, 1) := by decide +kernel
theorem dX1_workRange_327 : decode cX1_workRange 327 = .ok (.ifCond .ne 10, 3) := by decide +kernel
theorem dX1_workRange_330 : decode cX1_workRange 330 = .ok (.aload_n 0, 1) := by decide +kernel
theorem dX1_workRange_331 : decode cX1_workRange 331 = .ok (.getfield 19, 3) := by decide +kernel
theorem dX1_workRange_334 : decode cX1_workRange 334 = .ok (.goto 16, 3) := by decide +kernel
theorem dX1_workRange_337 : decode cX1_workRange 337 = .ok (.aload_n 0, 1) := by decide +kernel
theorem dX1_workRange_338 : decode cX1_workRange 338 = .ok (.getfield 19, 3) := by decide +kernel
theorem dX1_workRange_341 : decode cX1_workRange 341 = .ok (.aload_n 3, 1) := by decide +kernel
theorem dX1_workRange_342 : decode cX1_workRange 342 = .ok (.getfield 19, 3) := by decide +kernel
theorem dX1_workRange_345 : decode cX1_workRange 345 = .ok (.lconst 1, 1) := by decide +kernel
theorem dX1_workRange_346 : decode cX1_workRange 346 = .ok (.lsub, 1) := by decide +kernel
theorem dX1_workRange_347 : decode cX1_workRange 347 = .ok (.invokestatic 90, 3) := by decide +kernel
theorem dX1_workRange_350 : decode cX1_workRange 350 = .ok (.iconst 1, 1) := by decide +kernel
theorem dX1_workRange_351 : decode cX1_workRange 351 = .ok (.invokevirtual 82, 3) := by decide +kernel
theorem dX1_workRange_354 : decode cX1_workRange 354 = .ok (.goto 200, 3) := by decide +kernel
theorem dX1_workRange_357 : decode cX1_workRange 357 = .ok (.aload_n 0, 1) := by decide +kernel
theorem dX1_workRange_358 : decode cX1_workRange 358 = .ok (.lconst 0, 1) := by decide +kernel
theorem dX1_workRange_359 : decode cX1_workRange 359 = .ok (.aload_n 0, 1) := by decide +kernel
theorem dX1_workRange_360 : decode cX1_workRange 360 = .ok (.getfield 19, 3) := by decide +kernel
theorem dX1_workRange_363 : decode cX1_workRange 363 = .ok (.aload_n 3, 1) := by decide +kernel
theorem dX1_workRange_364 : decode cX1_workRange 364 = .ok (.getfield 19, 3) := by decide +kernel
theorem dX1_workRange_367 : decode cX1_workRange 367 = .ok (.invokestatic 90, 3) := by decide +kernel
theorem dX1_workRange_370 : decode cX1_workRange 370 = .ok (.iconst 1, 1) := by decide +kernel
theorem dX1_workRange_371 : decode cX1_workRange 371 = .ok (.invokevirtual 82, 3) := by decide +kernel
theorem dX1_workRange_374 : decode cX1_workRange 374 = .ok (.goto 180, 3) := by decide +kernel
theorem dX1_workRange_377 : decode cX1_workRange 377 = .ok (.aload_n 0, 1) := by decide +kernel
theorem dX1_workRange_378 : decode cX1_workRange 378 = .ok (.aload_n 0, 1) := by decide +kernel
theorem dX1_workRange_379 : decode cX1_workRange 379 = .ok (.getfield 15, 3) := by decide +kernel
theorem dX1_workRange_382 : decode cX1_workRange 382 = .ok (.aload_n 3, 1) := by decide +kernel
theorem dX1_workRange_383 : decode cX1_workRange 383 = .ok (.getfield 15, 3) := by decide +kernel
theorem dX1_workRange_386 : decode cX1_workRange 386 = .ok (.invokestatic 93, 3) := by decide +kernel
theorem dX1_workRange_389 : decode cX1_workRange 389 = .ok (.aload_n 0, 1) := by decide +kernel
theorem dX1_workRange_390 : decode cX1_workRange 390 = .ok (.getfield 19, 3) := by decide +kernel
theorem dX1_workRange_393 : decode cX1_workRange 393 = .ok (.aload_n 3, 1) := by decide +kernel
theorem dX1_workRange_394 : decode cX1_workRange 394 = .ok (.getfield 19, 3) := by decide +kernel
theorem dX1_workRange_397 : decode cX1_workRange 397 = .ok (.lor, 1) := by decide +kernel
theorem dX1_workRange_398 : decode cX1_workRange 398 = .ok (.invokestatic 96, 3) := by decide +kernel
theorem dX1_workRange_401 : decode cX1_workRange 401 = .ok (.iconst 1, 1) := by decide +kernel
theorem dX1_workRange_402 : decode cX1_workRange 402 = .ok (.invokevirtual 82, 3) := by decide +kernel
theorem dX1_workRange_405 : decode cX1_workRange 405 = .ok (.goto 149, 3) := by decide +kernel
theorem dX1_workRange_408 : decode cX1_workRange 408 = .ok (.aload_n 0, 1) := by decide +kernel
theorem dX1_workRange_409 : decode cX1_workRange 409 = .ok (.lconst 0, 1) := by decide +kernel
theorem dX1_workRange_410 : decode cX1_workRange 410 = .ok (.aload_n 0, 1) := by decide +kernel
theorem dX1_workRange_411 : decode cX1_workRange 411 = .ok (.getfield 19, 3) := by decide +kernel
theorem dX1_workRange_414 : decode cX1_workRange 414 = .ok (.aload_n 3, 1) := by decide +kernel
theorem dX1_workRange_415 : decode cX1_workRange 415 = .ok (.getfield 19, 3) := by decide +kernel
theorem dX1_workRange_418 : decode cX1_workRange 418 = .ok (.lor, 1) := by decide +kernel
theorem dX1_workRange_419 : decode cX1_workRange 419 = .ok (.invokestatic 96, 3) := by decide +kernel
theorem dX1_workRange_422 : decode cX1_workRange 422 = .ok (.iconst 1, 1) := by decide +kernel
theorem dX1_workRange_423 : decode cX1_workRange 423 = .ok (.invokevirtual 82, 3) := by decide +kernel
theorem dX1_workRange_426 : decode cX1_workRange 426 = .ok (.goto 128, 3) := by decide +kernel
theorem dX1_workRange_429 : decode cX1_workRange 429 = .ok (.aload_n 0, 1) := by decide +kernel
theorem dX1_workRange_430 : decode cX1_workRange 430 = .ok (.aload_n 0, 1) := by decide +kernel
theorem dX1_workRange_431 : decode cX1_workRange 431 = .ok (.getfield 15, 3) := by decide +kernel
theorem dX1_workRange_434 : decode cX1_workRange 434 = .ok (.iload 4, 2) := by decide +kernel
theorem dX1_workRange_436 : decode cX1_workRange 436 = .ok (.lshl, 1) := by decide +kernel
theorem dX1_workRange_437 : decode cX1_workRange 437 = .ok (.aload_n 0, 1) := by decide +kernel
theorem dX1_workRange_438 : decode cX1_workRange 438 = .ok (.getfield 19, 3) := by decide +kernel
theorem dX1_workRange_441 : decode cX1_workRange 441 = .ok (.iload 4, 2) := by decide +kernel
theorem dX1_workRange_443 : decode cX1_workRange 443 = .ok (.lshl, 1) := by decide +kernel
theorem dX1_workRange_444 : decode cX1_workRange 444 = .ok (.iload 5, 2) := by decide +kernel
theorem dX1_workRange_446 : decode cX1_workRange 446 = .ok (.ifCond .eq 27, 3) := by decide +kernel
theorem dX1_workRange_449 : decode cX1_workRange 449 = .ok (.iload 4, 2) := by decide +kernel
theorem dX1_workRange_451 : decode cX1_workRange 451 = .ok (.ifCond .eq 18, 3) := by decide +kernel
theorem dX1_workRange_454 : decode cX1_workRange 454 = .ok (.aload_n 0, 1) := by decide +kernel
theorem dX1_workRange_455 : decode cX1_workRange 455 = .ok (.getfield 19, 3) := by decide +kernel
theorem dX1_workRange_458 : decode cX1_workRange 458 = .ok (.bipush 64, 2) := by decide +kernel
theorem dX1_workRange_460 : decode cX1_workRange 460 = .ok (.iload 4, 2) := by decide +kernel
theorem dX1_workRange_462 : decode cX1_workRange 462 = .ok (.isub, 1) := by decide +kernel
theorem dX1_workRange_463 : decode cX1_workRange 463 = .ok (.lushr, 1) := by decide +kernel
theorem dX1_workRange_464 : decode cX1_workRange 464 = .ok (.lconst 0, 1) := by decide +kernel
theorem dX1_workRange_465 : decode cX1_workRange 465 = .ok (.lcmp, 1) := by decide +kernel
theorem dX1_workRange_466 : decode cX1_workRange 466 = .ok (.ifCond .ne 7, 3) := by decide +kernel
theorem dX1_workRange_469 : decode cX1_workRange 469 = .ok (.iconst 1, 1) := by decide +kernel
theorem dX1_workRange_470 : decode cX1_workRange 470 = .ok (.goto 4, 3) := by decide +kernel
theorem dX1_workRange_473 : decode cX1_workRange 473 = .ok (.iconst 0, 1) := by decide +kernel
theorem dX1_workRange_474 : decode cX1_workRange 474 = .ok (.invokevirtual 82, 3) := by decide +kernel
theorem dX1_workRange_477 : decode cX1_workRange 477 = .ok (.goto 77, 3) := by decide +kernel
theorem dX1_workRange_480 : decode cX1_workRange 480 = .ok (.iload_n 1, 1) := by decide +kernel
theorem dX1_workRange_481 : decode cX1_workRange 481 = .ok (.bipush 7, 2) := by decide +kernel
theorem dX1_workRange_483 : decode cX1_workRange 483 = .ok (.if_icmp .eq 11, 3) := by decide +kernel
theorem dX1_workRange_486 : decode cX1_workRange 486 = .ok (.aload_n 0, 1) := by decide +kernel
theorem dX1_workRange_487 : decode cX1_workRange 487 = .ok (.iload_n 2, 1) := by decide +kernel
theorem dX1_workRange_488 : decode cX1_workRange 488 = .ok (.invokevirtual 72, 3) := by decide +kernel
theorem dX1_workRange_491 : decode cX1_workRange 491 = .ok (.ifCond .eq 7, 3) := by decide +kernel
theorem dX1_workRange_494 : decode cX1_workRange 494 = .ok (.iconst 1, 1) := by decide +kernel
theorem dX1_workRange_495 : decode cX1_workRange 495 = .ok (.goto 4, 3) := by decide +kernel
theorem dX1_workRange_498 : decode cX1_workRange 498 = .ok (.iconst 0, 1) := by decide +kernel
theorem dX1_workRange_499 : decode cX1_workRange 499 = .ok (.istore 6, 2) := by decide +kernel
theorem dX1_workRange_501 : decode cX1_workRange 501 = .ok (.aload_n 0, 1) := by decide +kernel
theorem dX1_workRange_502 : decode cX1_workRange 502 = .ok (.iload 5, 2) := by decide +kernel
theorem dX1_workRange_504 : decode cX1_workRange 504 = .ok (.ifCond .eq 13, 3) := by decide +kernel
theorem dX1_workRange_507 : decode cX1_workRange 507 = .ok (.aload_n 0, 1) := by decide +kernel
theorem dX1_workRange_508 : decode cX1_workRange 508 = .ok (.getfield 15, 3) := by decide +kernel
theorem dX1_workRange_511 : decode cX1_workRange 511 = .ok (.iload 4, 2) := by decide +kernel
theorem dX1_workRange_513 : decode cX1_workRange 513 = .ok (.lushr, 1) := by decide +kernel
theorem dX1_workRange_514 : decode cX1_workRange 514 = .ok (.goto 4, 3) := by decide +kernel
theorem dX1_workRange_517 : decode cX1_workRange 517 = .ok (.lconst 0, 1) := by decide +kernel
theorem dX1_workRange_518 : decode cX1_workRange 518 = .ok (.iload 5, 2) := by decide +kernel
theorem dX1_workRange_520 : decode cX1_workRange 520 = .ok (.ifCond .eq 13, 3) := by decide +kernel
theorem dX1_workRange_523 : decode cX1_workRange 523 = .ok (.aload_n 0, 1) := by decide +kernel
theorem dX1_workRange_524 : decode cX1_workRange 524 = .ok (.getfield 19, 3) := by decide +kernel
theorem dX1_workRange_527 : decode cX1_workRange 527 = .ok (.iload 4, 2) := by decide +kernel
theorem dX1_workRange_529 : decode cX1_workRange 529 = .ok (.lushr, 1) := by decide +kernel
theorem dX1_workRange_530 : decode cX1_workRange 530 = .ok (.goto 7, 3) := by decide +kernel
theorem dX1_workRange_533 : decode cX1_workRange 533 = .ok (.aload_n 0, 1) := by decide +kernel
theorem dX1_workRange_534 : decode cX1_workRange 534 = .ok (.getfield 19, 3) := by decide +kernel
theorem dX1_workRange_537 : decode cX1_workRange 537 = .ok (.iload 6, 2) := by decide +kernel
theorem dX1_workRange_539 : decode cX1_workRange 539 = .ok (.invokevirtual 82, 3) := by decide +kernel
theorem dX1_workRange_542 : decode cX1_workRange 542 = .ok (.goto 12, 3) := by decide +kernel
theorem dX1_workRange_545 : decode cX1_workRange 545 = .ok (.aload_n 0, 1) := by decide +kernel
theorem dX1_workRange_546 : decode cX1_workRange 546 = .ok (.lconst 0, 1) := by decide +kernel
theorem dX1_workRange_547 : decode cX1_workRange 547 = .ok (.ldc2_w 32, 3) := by decide +kernel
theorem dX1_workRange_550 : decode cX1_workRange 550 = .ok (.iconst 1, 1) := by decide +kernel
theorem dX1_workRange_551 : decode cX1_workRange 551 = .ok (.invokevirtual 82, 3) := by decide +kernel
theorem dX1_workRange_554 : decode cX1_workRange 554 = .ok (.return_, 1) := by decide +kernel
theorem dX1_keepRange_0 : decode cX1_keepRange 0 = .ok (.aload_n 0, 1) := by decide +kernel
theorem dX1_keepRange_1 : decode cX1_keepRange 1 = .ok (.iload 5, 2) := by decide +kernel
theorem dX1_keepRange_3 : decode cX1_keepRange 3 = .ok (.ifCond .eq 7, 3) := by decide +kernel
theorem dX1_keepRange_6 : decode cX1_keepRange 6 = .ok (.lload_n 1, 1) := by decide +kernel
theorem dX1_keepRange_7 : decode cX1_keepRange 7 = .ok (.goto 4, 3) := by decide +kernel
theorem dX1_keepRange_10 : decode cX1_keepRange 10 = .ok (.lconst 0, 1) := by decide +kernel
theorem dX1_keepRange_11 : decode cX1_keepRange 11 = .ok (.putfield 15, 3) := by decide +kernel
theorem dX1_keepRange_14 : decode cX1_keepRange 14 = .ok (.aload_n 0, 1) := by decide +kernel
theorem dX1_keepRange_15 : decode cX1_keepRange 15 = .ok (.iload 5, 2) := by decide +kernel
theorem dX1_keepRange_17 : decode cX1_keepRange 17 = .ok (.ifCond .eq 7, 3) := by decide +kernel
theorem dX1_keepRange_20 : decode cX1_keepRange 20 = .ok (.lload_n 3, 1) := by decide +kernel
theorem dX1_keepRange_21 : decode cX1_keepRange 21 = .ok (.goto 6, 3) := by decide +kernel
theorem dX1_keepRange_24 : decode cX1_keepRange 24 = .ok (.ldc2_w 32, 3) := by decide +kernel
theorem dX1_keepRange_27 : decode cX1_keepRange 27 = .ok (.putfield 19, 3) := by decide +kernel
theorem dX1_keepRange_30 : decode cX1_keepRange 30 = .ok (.return_, 1) := by decide +kernel
theorem dX1_filled_0 : decode cX1_filled 0 = .ok (.lload_n 0, 1) := by decide +kernel
theorem dX1_filled_1 : decode cX1_filled 1 = .ok (.lstore_n 2, 1) := by decide +kernel
theorem dX1_filled_2 : decode cX1_filled 2 = .ok (.iconst 1, 1) := by decide +kernel
theorem dX1_filled_3 : decode cX1_filled 3 = .ok (.istore 4, 2) := by decide +kernel
theorem dX1_filled_5 : decode cX1_filled 5 = .ok (.iload 4, 2) := by decide +kernel
theorem dX1_filled_7 : decode cX1_filled 7 = .ok (.bipush 64, 2) := by decide +kernel
theorem dX1_filled_9 : decode cX1_filled 9 = .ok (.if_icmp .ge 19, 3) := by decide +kernel
theorem dX1_filled_12 : decode cX1_filled 12 = .ok (.lload_n 2, 1) := by decide +kernel
theorem dX1_filled_13 : decode cX1_filled 13 = .ok (.lload_n 2, 1) := by decide +kernel
theorem dX1_filled_14 : decode cX1_filled 14 = .ok (.iload 4, 2) := by decide +kernel
theorem dX1_filled_16 : decode cX1_filled 16 = .ok (.lushr, 1) := by decide +kernel
theorem dX1_filled_17 : decode cX1_filled 17 = .ok (.lor, 1) := by decide +kernel
theorem dX1_filled_18 : decode cX1_filled 18 = .ok (.lstore_n 2, 1) := by decide +kernel
theorem dX1_filled_19 : decode cX1_filled 19 = .ok (.iload 4, 2) := by decide +kernel
theorem dX1_filled_21 : decode cX1_filled 21 = .ok (.iconst 2, 1) := by decide +kernel
theorem dX1_filled_22 : decode cX1_filled 22 = .ok (.imul, 1) := by decide +kernel
theorem dX1_filled_23 : decode cX1_filled 23 = .ok (.istore 4, 2) := by decide +kernel
theorem dX1_filled_25 : decode cX1_filled 25 = .ok (.goto (-20), 3) := by decide +kernel
theorem dX1_filled_28 : decode cX1_filled 28 = .ok (.lload_n 2, 1) := by decide +kernel
theorem dX1_filled_29 : decode cX1_filled 29 = .ok (.lreturn, 1) := by decide +kernel
theorem dX1_narrow_0 : decode cX1_narrow 0 = .ok (.iconst 1, 1) := by decide +kernel
theorem dX1_narrow_1 : decode cX1_narrow 1 = .ok (.istore 4, 2) := by decide +kernel
theorem dX1_narrow_3 : decode cX1_narrow 3 = .ok (.iload_n 1, 1) := by decide +kernel
theorem dX1_narrow_4 : decode cX1_narrow 4 = .ok (.tableswitch 204 1 11 #[60, 112, 144, 204, 102, 204, 204, 204, 204, 159, 189], 60) := by decide +kernel
theorem dX1_narrow_64 : decode cX1_narrow 64 = .ok (.lload_n 2, 1) := by decide +kernel
theorem dX1_narrow_65 : decode cX1_narrow 65 = .ok (.aload_n 0, 1) := by decide +kernel
theorem dX1_narrow_66 : decode cX1_narrow 66 = .ok (.getfield 15, 3) := by decide +kernel
theorem dX1_narrow_69 : decode cX1_narrow 69 = .ok (.invokestatic 36, 3) := by decide +kernel
theorem dX1_narrow_72 : decode cX1_narrow 72 = .ok (.ifCond .ne 18, 3) := by decide +kernel
theorem dX1_narrow_75 : decode cX1_narrow 75 = .ok (.aload_n 0, 1) := by decide +kernel
theorem dX1_narrow_76 : decode cX1_narrow 76 = .ok (.getfield 19, 3) := by decide +kernel
theorem dX1_narrow_79 : decode cX1_narrow 79 = .ok (.lload_n 2, 1) := by decide +kernel
theorem dX1_narrow_80 : decode cX1_narrow 80 = .ok (.invokestatic 36, 3) := by decide +kernel
theorem dX1_narrow_83 : decode cX1_narrow 83 = .ok (.ifCond .ne 7, 3) := by decide +kernel
theorem dX1_narrow_86 : decode cX1_narrow 86 = .ok (.iconst 1, 1) := by decide +kernel
theorem dX1_narrow_87 : decode cX1_narrow 87 = .ok (.goto 4, 3) := by decide +kernel
theorem dX1_narrow_90 : decode cX1_narrow 90 = .ok (.iconst 0, 1) := by decide +kernel
theorem dX1_narrow_91 : decode cX1_narrow 91 = .ok (.istore 4, 2) := by decide +kernel
theorem dX1_narrow_93 : decode cX1_narrow 93 = .ok (.aload_n 0, 1) := by decide +kernel
theorem dX1_narrow_94 : decode cX1_narrow 94 = .ok (.lload_n 2, 1) := by decide +kernel
theorem dX1_narrow_95 : decode cX1_narrow 95 = .ok (.putfield 15, 3) := by decide +kernel
theorem dX1_narrow_98 : decode cX1_narrow 98 = .ok (.aload_n 0, 1) := by decide +kernel
theorem dX1_narrow_99 : decode cX1_narrow 99 = .ok (.lload_n 2, 1) := by decide +kernel
theorem dX1_narrow_100 : decode cX1_narrow 100 = .ok (.putfield 19, 3) := by decide +kernel
theorem dX1_narrow_103 : decode cX1_narrow 103 = .ok (.goto 105, 3) := by decide +kernel
theorem dX1_narrow_106 : decode cX1_narrow 106 = .ok (.aload_n 0, 1) := by decide +kernel
theorem dX1_narrow_107 : decode cX1_narrow 107 = .ok (.lload_n 2, 1) := by decide +kernel
theorem dX1_narrow_108 : decode cX1_narrow 108 = .ok (.invokevirtual 100, 3) := by decide +kernel
theorem dX1_narrow_111 : decode cX1_narrow 111 = .ok (.istore 4, 2) := by decide +kernel
theorem dX1_narrow_113 : decode cX1_narrow 113 = .ok (.goto 95, 3) := by decide +kernel
theorem dX1_narrow_116 : decode cX1_narrow 116 = .ok (.lload_n 2, 1) := by decide +kernel
theorem dX1_narrow_117 : decode cX1_narrow 117 = .ok (.ldc2_w 32, 3) := by decide +kernel
theorem dX1_narrow_120 : decode cX1_narrow 120 = .ok (.lcmp, 1) := by decide +kernel
theorem dX1_narrow_121 : decode cX1_narrow 121 = .ok (.ifCond .eq 7, 3) := by decide +kernel
theorem dX1_narrow_124 : decode cX1_narrow 124 = .ok (.iconst 1, 1) := by decide +kernel
theorem dX1_narrow_125 : decode cX1_narrow 125 = .ok (.goto 4, 3) := by decide +kernel
theorem dX1_narrow_128 : decode cX1_narrow 128 = .ok (.iconst 0, 1) := by decide +kernel
theorem dX1_narrow_129 : decode cX1_narrow 129 = .ok (.istore 4, 2) := by decide +kernel
theorem dX1_narrow_131 : decode cX1_narrow 131 = .ok (.aload_n 0, 1) := by decide +kernel
theorem dX1_narrow_132 : decode cX1_narrow 132 = .ok (.aload_n 0, 1) := by decide +kernel
theorem dX1_narrow_133 : decode cX1_narrow 133 = .ok (.getfield 15, 3) := by decide +kernel
theorem dX1_narrow_136 : decode cX1_narrow 136 = .ok (.lload_n 2, 1) := by decide +kernel
theorem dX1_narrow_137 : decode cX1_narrow 137 = .ok (.lconst 1, 1) := by decide +kernel
theorem dX1_narrow_138 : decode cX1_narrow 138 = .ok (.ladd, 1) := by decide +kernel
theorem dX1_narrow_139 : decode cX1_narrow 139 = .ok (.invokestatic 93, 3) := by decide +kernel
theorem dX1_narrow_142 : decode cX1_narrow 142 = .ok (.putfield 15, 3) := by decide +kernel
theorem dX1_narrow_145 : decode cX1_narrow 145 = .ok (.goto 63, 3) := by decide +kernel
theorem dX1_narrow_148 : decode cX1_narrow 148 = .ok (.aload_n 0, 1) := by decide +kernel
theorem dX1_narrow_149 : decode cX1_narrow 149 = .ok (.aload_n 0, 1) := by decide +kernel
theorem dX1_narrow_150 : decode cX1_narrow 150 = .ok (.getfield 15, 3) := by decide +kernel
theorem dX1_narrow_153 : decode cX1_narrow 153 = .ok (.lload_n 2, 1) := by decide +kernel
theorem dX1_narrow_154 : decode cX1_narrow 154 = .ok (.invokestatic 93, 3) := by decide +kernel
theorem dX1_narrow_157 : decode cX1_narrow 157 = .ok (.putfield 15, 3) := by decide +kernel
theorem dX1_narrow_160 : decode cX1_narrow 160 = .ok (.goto 48, 3) := by decide +kernel
theorem dX1_narrow_163 : decode cX1_narrow 163 = .ok (.lload_n 2, 1) := by decide +kernel
theorem dX1_narrow_164 : decode cX1_narrow 164 = .ok (.lconst 0, 1) := by decide +kernel
theorem dX1_narrow_165 : decode cX1_narrow 165 = .ok (.lcmp, 1) := by decide +kernel
theorem dX1_narrow_166 : decode cX1_narrow 166 = .ok (.ifCond .eq 7, 3) := by decide +kernel
theorem dX1_narrow_169 : decode cX1_narrow 169 = .ok (.iconst 1, 1) := by decide +kernel
theorem dX1_narrow_170 : decode cX1_narrow 170 = .ok (.goto 4, 3) := by decide +kernel
theorem dX1_narrow_173 : decode cX1_narrow 173 = .ok (.iconst 0, 1) := by decide +kernel
theorem dX1_narrow_174 : decode cX1_narrow 174 = .ok (.istore 4, 2) := by decide +kernel
theorem dX1_narrow_176 : decode cX1_narrow 176 = .ok (.aload_n 0, 1) := by decide +kernel
theorem dX1_narrow_177 : decode cX1_narrow 177 = .ok (.aload_n 0, 1) := by decide +kernel
theorem dX1_narrow_178 : decode cX1_narrow 178 = .ok (.getfield 19, 3) := by decide +kernel
theorem dX1_narrow_181 : decode cX1_narrow 181 = .ok (.lload_n 2, 1) := by decide +kernel
theorem dX1_narrow_182 : decode cX1_narrow 182 = .ok (.lconst 1, 1) := by decide +kernel
theorem dX1_narrow_183 : decode cX1_narrow 183 = .ok (.lsub, 1) := by decide +kernel
theorem dX1_narrow_184 : decode cX1_narrow 184 = .ok (.invokestatic 90, 3) := by decide +kernel
theorem dX1_narrow_187 : decode cX1_narrow 187 = .ok (.putfield 19, 3) := by decide +kernel
theorem dX1_narrow_190 : decode cX1_narrow 190 = .ok (.goto 18, 3) := by decide +kernel
theorem dX1_narrow_193 : decode cX1_narrow 193 = .ok (.aload_n 0, 1) := by decide +kernel
theorem dX1_narrow_194 : decode cX1_narrow 194 = .ok (.aload_n 0, 1) := by decide +kernel
theorem dX1_narrow_195 : decode cX1_narrow 195 = .ok (.getfield 19, 3) := by decide +kernel
theorem dX1_narrow_198 : decode cX1_narrow 198 = .ok (.lload_n 2, 1) := by decide +kernel
theorem dX1_narrow_199 : decode cX1_narrow 199 = .ok (.invokestatic 90, 3) := by decide +kernel
theorem dX1_narrow_202 : decode cX1_narrow 202 = .ok (.putfield 19, 3) := by decide +kernel
theorem dX1_narrow_205 : decode cX1_narrow 205 = .ok (.goto 3, 3) := by decide +kernel
theorem dX1_narrow_208 : decode cX1_narrow 208 = .ok (.iload 4, 2) := by decide +kernel
theorem dX1_narrow_210 : decode cX1_narrow 210 = .ok (.ifCond .eq 17, 3) := by decide +kernel
theorem dX1_narrow_213 : decode cX1_narrow 213 = .ok (.aload_n 0, 1) := by decide +kernel
theorem dX1_narrow_214 : decode cX1_narrow 214 = .ok (.getfield 19, 3) := by decide +kernel
theorem dX1_narrow_217 : decode cX1_narrow 217 = .ok (.aload_n 0, 1) := by decide +kernel
theorem dX1_narrow_218 : decode cX1_narrow 218 = .ok (.getfield 15, 3) := by decide +kernel
theorem dX1_narrow_221 : decode cX1_narrow 221 = .ok (.invokestatic 36, 3) := by decide +kernel
theorem dX1_narrow_224 : decode cX1_narrow 224 = .ok (.ifCond .eq 5, 3) := by decide +kernel
theorem dX1_narrow_227 : decode cX1_narrow 227 = .ok (.iconst 0, 1) := by decide +kernel
theorem dX1_narrow_228 : decode cX1_narrow 228 = .ok (.ireturn, 1) := by decide +kernel
theorem dX1_narrow_229 : decode cX1_narrow 229 = .ok (.aload_n 0, 1) := by decide +kernel
theorem dX1_narrow_230 : decode cX1_narrow 230 = .ok (.invokevirtual 42, 3) := by decide +kernel
theorem dX1_narrow_233 : decode cX1_narrow 233 = .ok (.iconst 1, 1) := by decide +kernel
theorem dX1_narrow_234 : decode cX1_narrow 234 = .ok (.ireturn, 1) := by decide +kernel
theorem dX1_narrowUnequal_0 : decode cX1_narrowUnequal 0 = .ok (.aload_n 0, 1) := by decide +kernel
theorem dX1_narrowUnequal_1 : decode cX1_narrowUnequal 1 = .ok (.getfield 15, 3) := by decide +kernel
theorem dX1_narrowUnequal_4 : decode cX1_narrowUnequal 4 = .ok (.lload_n 1, 1) := by decide +kernel
theorem dX1_narrowUnequal_5 : decode cX1_narrowUnequal 5 = .ok (.lcmp, 1) := by decide +kernel
theorem dX1_narrowUnequal_6 : decode cX1_narrowUnequal 6 = .ok (.ifCond .ne 14, 3) := by decide +kernel
theorem dX1_narrowUnequal_9 : decode cX1_narrowUnequal 9 = .ok (.aload_n 0, 1) := by decide +kernel
theorem dX1_narrowUnequal_10 : decode cX1_narrowUnequal 10 = .ok (.getfield 19, 3) := by decide +kernel
theorem dX1_narrowUnequal_13 : decode cX1_narrowUnequal 13 = .ok (.lload_n 1, 1) := by decide +kernel
theorem dX1_narrowUnequal_14 : decode cX1_narrowUnequal 14 = .ok (.lcmp, 1) := by decide +kernel
theorem dX1_narrowUnequal_15 : decode cX1_narrowUnequal 15 = .ok (.ifCond .ne 5, 3) := by decide +kernel
theorem dX1_narrowUnequal_18 : decode cX1_narrowUnequal 18 = .ok (.iconst 0, 1) := by decide +kernel
theorem dX1_narrowUnequal_19 : decode cX1_narrowUnequal 19 = .ok (.ireturn, 1) := by decide +kernel
theorem dX1_narrowUnequal_20 : decode cX1_narrowUnequal 20 = .ok (.aload_n 0, 1) := by decide +kernel
theorem dX1_narrowUnequal_21 : decode cX1_narrowUnequal 21 = .ok (.getfield 15, 3) := by decide +kernel
theorem dX1_narrowUnequal_24 : decode cX1_narrowUnequal 24 = .ok (.lload_n 1, 1) := by decide +kernel
theorem dX1_narrowUnequal_25 : decode cX1_narrowUnequal 25 = .ok (.lcmp, 1) := by decide +kernel
theorem dX1_narrowUnequal_26 : decode cX1_narrowUnequal 26 = .ok (.ifCond .ne 16, 3) := by decide +kernel
theorem dX1_narrowUnequal_29 : decode cX1_narrowUnequal 29 = .ok (.aload_n 0, 1) := by decide +kernel
theorem dX1_narrowUnequal_30 : decode cX1_narrowUnequal 30 = .ok (.dup, 1) := by decide +kernel
theorem dX1_narrowUnequal_31 : decode cX1_narrowUnequal 31 = .ok (.getfield 15, 3) := by decide +kernel
theorem dX1_narrowUnequal_34 : decode cX1_narrowUnequal 34 = .ok (.lconst 1, 1) := by decide +kernel
theorem dX1_narrowUnequal_35 : decode cX1_narrowUnequal 35 = .ok (.ladd, 1) := by decide +kernel
theorem dX1_narrowUnequal_36 : decode cX1_narrowUnequal 36 = .ok (.putfield 15, 3) := by decide +kernel
theorem dX1_narrowUnequal_39 : decode cX1_narrowUnequal 39 = .ok (.goto 22, 3) := by decide +kernel
theorem dX1_narrowUnequal_42 : decode cX1_narrowUnequal 42 = .ok (.aload_n 0, 1) := by decide +kernel
theorem dX1_narrowUnequal_43 : decode cX1_narrowUnequal 43 = .ok (.getfield 19, 3) := by decide +kernel
theorem dX1_narrowUnequal_46 : decode cX1_narrowUnequal 46 = .ok (.lload_n 1, 1) := by decide +kernel
theorem dX1_narrowUnequal_47 : decode cX1_narrowUnequal 47 = .ok (.lcmp, 1) := by decide +kernel
theorem dX1_narrowUnequal_48 : decode cX1_narrowUnequal 48 = .ok (.ifCond .ne 13, 3) := by decide +kernel
theorem dX1_narrowUnequal_51 : decode cX1_narrowUnequal 51 = .ok (.aload_n 0, 1) := by decide +kernel
theorem dX1_narrowUnequal_52 : decode cX1_narrowUnequal 52 = .ok (.dup, 1) := by decide +kernel
theorem dX1_narrowUnequal_53 : decode cX1_narrowUnequal 53 = .ok (.getfield 19, 3) := by decide +kernel
theorem dX1_narrowUnequal_56 : decode cX1_narrowUnequal 56 = .ok (.lconst 1, 1) := by decide +kernel
theorem dX1_narrowUnequal_57 : decode cX1_narrowUnequal 57 = .ok (.lsub, 1) := by decide +kernel
theorem dX1_narrowUnequal_58 : decode cX1_narrowUnequal 58 = .ok (.putfield 19, 3) := by decide +kernel
theorem dX1_narrowUnequal_61 : decode cX1_narrowUnequal 61 = .ok (.iconst 1, 1) := by decide +kernel
theorem dX1_narrowUnequal_62 : decode cX1_narrowUnequal 62 = .ok (.ireturn, 1) := by decide +kernel
theorem dX2_init_0 : decode cX2_init 0 = .ok (.aload_n 0, 1) := by decide +kernel
theorem dX2_init_1 : decode cX2_init 1 = .ok (.invokespecial 3, 3) := by decide +kernel
theorem dX2_init_4 : decode cX2_init 4 = .ok (.aload_n 0, 1) := by decide +kernel
theorem dX2_init_5 : decode cX2_init 5 = .ok (.sipush 7000, 3) := by decide +kernel
theorem dX2_init_8 : decode cX2_init 8 = .ok (.newarray .int, 2) := by decide +kernel
theorem dX2_init_10 : decode cX2_init 10 = .ok (.putfield 11, 3) := by decide +kernel
theorem dX2_init_13 : decode cX2_init 13 = .ok (.aload_n 0, 1) := by decide +kernel
theorem dX2_init_14 : decode cX2_init 14 = .ok (.sipush 7000, 3) := by decide +kernel
theorem dX2_init_17 : decode cX2_init 17 = .ok (.newarray .int, 2) := by decide +kernel
theorem dX2_init_19 : decode cX2_init 19 = .ok (.putfield 15, 3) := by decide +kernel
theorem dX2_init_22 : decode cX2_init 22 = .ok (.aload_n 0, 1) := by decide +kernel
theorem dX2_init_23 : decode cX2_init 23 = .ok (.sipush 7000, 3) := by decide +kernel
theorem dX2_init_26 : decode cX2_init 26 = .ok (.newarray .int, 2) := by decide +kernel
theorem dX2_init_28 : decode cX2_init 28 = .ok (.putfield 18, 3) := by decide +kernel
theorem dX2_init_31 : decode cX2_init 31 = .ok (.aload_n 0, 1) := by decide +kernel
theorem dX2_init_32 : decode cX2_init 32 = .ok (.sipush 3000, 3) := by decide +kernel
theorem dX2_init_35 : decode cX2_init 35 = .ok (.newarray .int, 2) := by decide +kernel
theorem dX2_init_37 : decode cX2_init 37 = .ok (.putfield 21, 3) := by decide +kernel
theorem dX2_init_40 : decode cX2_init 40 = .ok (.aload_n 0, 1) := by decide +kernel
theorem dX2_init_41 : decode cX2_init 41 = .ok (.sipush 3000, 3) := by decide +kernel
theorem dX2_init_44 : decode cX2_init 44 = .ok (.newarray .int, 2) := by decide +kernel
theorem dX2_init_46 : decode cX2_init 46 = .ok (.putfield 24, 3) := by decide +kernel
theorem dX2_init_49 : decode cX2_init 49 = .ok (.aload_n 0, 1) := by decide +kernel
theorem dX2_init_50 : decode cX2_init 50 = .ok (.sipush 3000, 3) := by decide +kernel
theorem dX2_init_53 : decode cX2_init 53 = .ok (.newarray .int, 2) := by decide +kernel
theorem dX2_init_55 : decode cX2_init 55 = .ok (.putfield 27, 3) := by decide +kernel
theorem dX2_init_58 : decode cX2_init 58 = .ok (.aload_n 0, 1) := by decide +kernel
theorem dX2_init_59 : decode cX2_init 59 = .ok (.sipush 3000, 3) := by decide +kernel
theorem dX2_init_62 : decode cX2_init 62 = .ok (.newarray .int, 2) := by decide +kernel
theorem dX2_init_64 : decode cX2_init 64 = .ok (.putfield 30, 3) := by decide +kernel
theorem dX2_init_67 : decode cX2_init 67 = .ok (.aload_n 0, 1) := by decide +kernel
theorem dX2_init_68 : decode cX2_init 68 = .ok (.sipush 3000, 3) := by decide +kernel
theorem dX2_init_71 : decode cX2_init 71 = .ok (.newarray .int, 2) := by decide +kernel
theorem dX2_init_73 : decode cX2_init 73 = .ok (.putfield 33, 3) := by decide +kernel
theorem dX2_init_76 : decode cX2_init 76 = .ok (.aload_n 0, 1) := by decide +kernel
theorem dX2_init_77 : decode cX2_init 77 = .ok (.sipush 3000, 3) := by decide +kernel
theorem dX2_init_80 : decode cX2_init 80 = .ok (.newarray .int, 2) := by decide +kernel
theorem dX2_init_82 : decode cX2_init 82 = .ok (.putfield 36, 3) := by decide +kernel
theorem dX2_init_85 : decode cX2_init 85 = .ok (.aload_n 0, 1) := by decide +kernel
theorem dX2_init_86 : decode cX2_init 86 = .ok (.sipush 3000, 3) := by decide +kernel
theorem dX2_init_89 : decode cX2_init 89 = .ok (.newarray .boolean, 2) := by decide +kernel
theorem dX2_init_91 : decode cX2_init 91 = .ok (.putfield 39, 3) := by decide +kernel
theorem dX2_init_94 : decode cX2_init 94 = .ok (.aload_n 0, 1) := by decide +kernel
theorem dX2_init_95 : decode cX2_init 95 = .ok (.sipush 5000, 3) := by decide +kernel
theorem dX2_init_98 : decode cX2_init 98 = .ok (.newarray .int, 2) := by decide +kernel
theorem dX2_init_100 : decode cX2_init 100 = .ok (.putfield 43, 3) := by decide +kernel
theorem dX2_init_103 : decode cX2_init 103 = .ok (.aload_n 0, 1) := by decide +kernel
theorem dX2_init_104 : decode cX2_init 104 = .ok (.bipush 6, 2) := by decide +kernel
theorem dX2_init_106 : decode cX2_init 106 = .ok (.newarray .int, 2) := by decide +kernel
theorem dX2_init_108 : decode cX2_init 108 = .ok (.putfield 46, 3) := by decide +kernel
theorem dX2_init_111 : decode cX2_init 111 = .ok (.aload_n 0, 1) := by decide +kernel
theorem dX2_init_112 : decode cX2_init 112 = .ok (.bipush 8, 2) := by decide +kernel
theorem dX2_init_114 : decode cX2_init 114 = .ok (.newarray .long, 2) := by decide +kernel
theorem dX2_init_116 : decode cX2_init 116 = .ok (.putfield 49, 3) := by decide +kernel
theorem dX2_init_119 : decode cX2_init 119 = .ok (.return_, 1) := by decide +kernel
theorem dX2_clear_0 : decode cX2_clear 0 = .ok (.aload_n 0, 1) := by decide +kernel
theorem dX2_clear_1 : decode cX2_clear 1 = .ok (.iconst 0, 1) := by decide +kernel
theorem dX2_clear_2 : decode cX2_clear 2 = .ok (.putfield 53, 3) := by decide +kernel
theorem dX2_clear_5 : decode cX2_clear 5 = .ok (.aload_n 0, 1) := by decide +kernel
theorem dX2_clear_6 : decode cX2_clear 6 = .ok (.iconst 0, 1) := by decide +kernel
theorem dX2_clear_7 : decode cX2_clear 7 = .ok (.putfield 57, 3) := by decide +kernel
theorem dX2_clear_10 : decode cX2_clear 10 = .ok (.aload_n 0, 1) := by decide +kernel
theorem dX2_clear_11 : decode cX2_clear 11 = .ok (.iconst 0, 1) := by decide +kernel
theorem dX2_clear_12 : decode cX2_clear 12 = .ok (.putfield 60, 3) := by decide +kernel
theorem dX2_clear_15 : decode cX2_clear 15 = .ok (.aload_n 0, 1) := by decide +kernel
theorem dX2_clear_16 : decode cX2_clear 16 = .ok (.iconst 2, 1) := by decide +kernel
theorem dX2_clear_17 : decode cX2_clear 17 = .ok (.putfield 63, 3) := by decide +kernel
theorem dX2_clear_20 : decode cX2_clear 20 = .ok (.return_, 1) := by decide +kernel
theorem dX2_newLabel_0 : decode cX2_newLabel 0 = .ok (.aload_n 0, 1) := by decide +kernel
theorem dX2_newLabel_1 : decode cX2_newLabel 1 = .ok (.getfield 63, 3) := by decide +kernel
theorem dX2_newLabel_4 : decode cX2_newLabel 4 = .ok (.sipush 5000, 3) := by decide +kernel
theorem dX2_newLabel_7 : decode cX2_newLabel 7 = .ok (.if_icmp .ge 13, 3) := by decide +kernel
theorem dX2_newLabel_10 : decode cX2_newLabel 10 = .ok (.aload_n 0, 1) := by decide +kernel
theorem dX2_newLabel_11 : decode cX2_newLabel 11 = .ok (.dup, 1) := by decide +kernel
theorem dX2_newLabel_12 : decode cX2_newLabel 12 = .ok (.getfield 63, 3) := by decide +kernel
theorem dX2_newLabel_15 : decode cX2_newLabel 15 = .ok (.iconst 1, 1) := by decide +kernel
theorem dX2_newLabel_16 : decode cX2_newLabel 16 = .ok (.iadd, 1) := by decide +kernel
theorem dX2_newLabel_17 : decode cX2_newLabel 17 = .ok (.putfield 63, 3) := by decide +kernel
theorem dX2_newLabel_20 : decode cX2_newLabel 20 = .ok (.aload_n 0, 1) := by decide +kernel
theorem dX2_newLabel_21 : decode cX2_newLabel 21 = .ok (.getfield 63, 3) := by decide +kernel
theorem dX2_newLabel_24 : decode cX2_newLabel 24 = .ok (.iconst 1, 1) := by decide +kernel
theorem dX2_newLabel_25 : decode cX2_newLabel 25 = .ok (.isub, 1) := by decide +kernel
theorem dX2_newLabel_26 : decode cX2_newLabel 26 = .ok (.ireturn, 1) := by decide +kernel
theorem dX2_putLabelHere_0 : decode cX2_putLabelHere 0 = .ok (.iload_n 1, 1) := by decide +kernel
theorem dX2_putLabelHere_1 : decode cX2_putLabelHere 1 = .ok (.ifCond .lt 21, 3) := by decide +kernel
theorem dX2_putLabelHere_4 : decode cX2_putLabelHere 4 = .ok (.iload_n 1, 1) := by decide +kernel
theorem dX2_putLabelHere_5 : decode cX2_putLabelHere 5 = .ok (.aload_n 0, 1) := by decide +kernel
theorem dX2_putLabelHere_6 : decode cX2_putLabelHere 6 = .ok (.getfield 63, 3) := by decide +kernel
theorem dX2_putLabelHere_9 : decode cX2_putLabelHere 9 = .ok (.if_icmp .ge 13, 3) := by decide +kernel
theorem dX2_putLabelHere_12 : decode cX2_putLabelHere 12 = .ok (.aload_n 0, 1) := by decide +kernel
theorem dX2_putLabelHere_13 : decode cX2_putLabelHere 13 = .ok (.getfield 43, 3) := by decide +kernel
theorem dX2_putLabelHere_16 : decode cX2_putLabelHere 16 = .ok (.iload_n 1, 1) := by decide +kernel
theorem dX2_putLabelHere_17 : decode cX2_putLabelHere 17 = .ok (.aload_n 0, 1) := by decide +kernel
theorem dX2_putLabelHere_18 : decode cX2_putLabelHere 18 = .ok (.getfield 57, 3) := by decide +kernel
theorem dX2_putLabelHere_21 : decode cX2_putLabelHere 21 = .ok (.iastore, 1) := by decide +kernel
theorem dX2_putLabelHere_22 : decode cX2_putLabelHere 22 = .ok (.return_, 1) := by decide +kernel
theorem dX2_joinLabel_0 : decode cX2_joinLabel 0 = .ok (.iload_n 1, 1) := by decide +kernel
theorem dX2_joinLabel_1 : decode cX2_joinLabel 1 = .ok (.ifCond .lt 20, 3) := by decide +kernel
theorem dX2_joinLabel_4 : decode cX2_joinLabel 4 = .ok (.iload_n 1, 1) := by decide +kernel
theorem dX2_joinLabel_5 : decode cX2_joinLabel 5 = .ok (.aload_n 0, 1) := by decide +kernel
theorem dX2_joinLabel_6 : decode cX2_joinLabel 6 = .ok (.getfield 63, 3) := by decide +kernel
theorem dX2_joinLabel_9 : decode cX2_joinLabel 9 = .ok (.if_icmp .ge 12, 3) := by decide +kernel
theorem dX2_joinLabel_12 : decode cX2_joinLabel 12 = .ok (.aload_n 0, 1) := by decide +kernel
theorem dX2_joinLabel_13 : decode cX2_joinLabel 13 = .ok (.getfield 43, 3) := by decide +kernel
theorem dX2_joinLabel_16 : decode cX2_joinLabel 16 = .ok (.iload_n 1, 1) := by decide +kernel
theorem dX2_joinLabel_17 : decode cX2_joinLabel 17 = .ok (.iconst (-1), 1) := by decide +kernel
theorem dX2_joinLabel_18 : decode cX2_joinLabel 18 = .ok (.iload_n 2, 1) := by decide +kernel
theorem dX2_joinLabel_19 : decode cX2_joinLabel 19 = .ok (.isub, 1) := by decide +kernel
theorem dX2_joinLabel_20 : decode cX2_joinLabel 20 = .ok (.iastore, 1) := by decide +kernel
theorem dX2_joinLabel_21 : decode cX2_joinLabel 21 = .ok (.return_, 1) := by decide +kernel
theorem dX2_item_0 : decode cX2_item 0 = .ok (.aload_n 0, 1) := by decide +kernel
theorem dX2_item_1 : decode cX2_item 1 = .ok (.getfield 53, 3) := by decide +kernel
theorem dX2_item_4 : decode cX2_item 4 = .ok (.sipush 7000, 3) := by decide +kernel
theorem dX2_item_7 : decode cX2_item 7 = .ok (.if_icmp .ge 43, 3) := by decide +kernel
theorem dX2_item_10 : decode cX2_item 10 = .ok (.aload_n 0, 1) := by decide +kernel
theorem dX2_item_11 : decode cX2_item 11 = .ok (.getfield 11, 3) := by decide +kernel
theorem dX2_item_14 : decode cX2_item 14 = .ok (.aload_n 0, 1) := by decide +kernel
theorem dX2_item_15 : decode cX2_item 15 = .ok (.getfield 53, 3) := by decide +kernel
theorem dX2_item_18 : decode cX2_item 18 = .ok (.iload_n 1, 1) := by decide +kernel
theorem dX2_item_19 : decode cX2_item 19 = .ok (.iastore, 1) := by decide +kernel
theorem dX2_item_20 : decode cX2_item 20 = .ok (.aload_n 0, 1) := by decide +kernel
theorem dX2_item_21 : decode cX2_item 21 = .ok (.getfield 15, 3) := by decide +kernel
theorem dX2_item_24 : decode cX2_item 24 = .ok (.aload_n 0, 1) := by decide +kernel
theorem dX2_item_25 : decode cX2_item 25 = .ok (.getfield 53, 3) := by decide +kernel
theorem dX2_item_28 : decode cX2_item 28 = .ok (.iload_n 2, 1) := by decide +kernel
theorem dX2_item_29 : decode cX2_item 29 = .ok (.iastore, 1) := by decide +kernel
theorem dX2_item_30 : decode cX2_item 30 = .ok (.aload_n 0, 1) := by decide +kernel
theorem dX2_item_31 : decode cX2_item 31 = .ok (.getfield 18, 3) := by decide +kernel
theorem dX2_item_34 : decode cX2_item 34 = .ok (.aload_n 0, 1) := by decide +kernel
theorem dX2_item_35 : decode cX2_item 35 = .ok (.getfield 53, 3) := by decide +kernel
theorem dX2_item_38 : decode cX2_item 38 = .ok (.iload_n 3, 1) := by decide +kernel
theorem dX2_item_39 : decode cX2_item 39 = .ok (.iastore, 1) := by decide +kernel
theorem dX2_item_40 : decode cX2_item 40 = .ok (.aload_n 0, 1) := by decide +kernel
theorem dX2_item_41 : decode cX2_item 41 = .ok (.dup, 1) := by decide +kernel
theorem dX2_item_42 : decode cX2_item 42 = .ok (.getfield 53, 3) := by decide +kernel
theorem dX2_item_45 : decode cX2_item 45 = .ok (.iconst 1, 1) := by decide +kernel
theorem dX2_item_46 : decode cX2_item 46 = .ok (.iadd, 1) := by decide +kernel
theorem dX2_item_47 : decode cX2_item 47 = .ok (.putfield 53, 3) := by decide +kernel
theorem dX2_item_50 : decode cX2_item 50 = .ok (.return_, 1) := by decide +kernel
theorem dX2_joinSides_0 : decode cX2_joinSides 0 = .ok (.iload 4, 2) := by decide +kernel
theorem dX2_joinSides_2 : decode cX2_joinSides 2 = .ok (.ifCond .eq 39, 3) := by decide +kernel
theorem dX2_joinSides_5 : decode cX2_joinSides 5 = .ok (.aload_n 0, 1) := by decide +kernel
theorem dX2_joinSides_6 : decode cX2_joinSides 6 = .ok (.getfield 53, 3) := by decide +kernel
theorem dX2_joinSides_9 : decode cX2_joinSides 9 = .ok (.ifCond .le 32, 3) := by decide +kernel
theorem dX2_joinSides_12 : decode cX2_joinSides 12 = .ok (.aload_n 0, 1) := by decide +kernel
theorem dX2_joinSides_13 : decode cX2_joinSides 13 = .ok (.getfield 18, 3) := by decide +kernel
theorem dX2_joinSides_16 : decode cX2_joinSides 16 = .ok (.aload_n 0, 1) := by decide +kernel
theorem dX2_joinSides_17 : decode cX2_joinSides 17 = .ok (.getfield 53, 3) := by decide +kernel
theorem dX2_joinSides_20 : decode cX2_joinSides 20 = .ok (.iconst 1, 1) := by decide +kernel
theorem dX2_joinSides_21 : decode cX2_joinSides 21 = .ok (.isub, 1) := by decide +kernel
theorem dX2_joinSides_22 : decode cX2_joinSides 22 = .ok (.iaload, 1) := by decide +kernel
theorem dX2_joinSides_23 : decode cX2_joinSides 23 = .ok (.istore 5, 2) := by decide +kernel
theorem dX2_joinSides_25 : decode cX2_joinSides 25 = .ok (.aload_n 0, 1) := by decide +kernel
theorem dX2_joinSides_26 : decode cX2_joinSides 26 = .ok (.iload_n 3, 1) := by decide +kernel
theorem dX2_joinSides_27 : decode cX2_joinSides 27 = .ok (.putfield 53, 3) := by decide +kernel
theorem dX2_joinSides_30 : decode cX2_joinSides 30 = .ok (.aload_n 0, 1) := by decide +kernel
theorem dX2_joinSides_31 : decode cX2_joinSides 31 = .ok (.iconst 3, 1) := by decide +kernel
theorem dX2_joinSides_32 : decode cX2_joinSides 32 = .ok (.iload_n 1, 1) := by decide +kernel
theorem dX2_joinSides_33 : decode cX2_joinSides 33 = .ok (.iload 5, 2) := by decide +kernel
theorem dX2_joinSides_35 : decode cX2_joinSides 35 = .ok (.invokevirtual 66, 3) := by decide +kernel
theorem dX2_joinSides_38 : decode cX2_joinSides 38 = .ok (.goto 10, 3) := by decide +kernel
theorem dX2_joinSides_41 : decode cX2_joinSides 41 = .ok (.aload_n 0, 1) := by decide +kernel
theorem dX2_joinSides_42 : decode cX2_joinSides 42 = .ok (.iconst 4, 1) := by decide +kernel
theorem dX2_joinSides_43 : decode cX2_joinSides 43 = .ok (.iload_n 1, 1) := by decide +kernel
theorem dX2_joinSides_44 : decode cX2_joinSides 44 = .ok (.iload_n 2, 1) := by decide +kernel
theorem dX2_joinSides_45 : decode cX2_joinSides 45 = .ok (.invokevirtual 66, 3) := by decide +kernel
theorem dX2_joinSides_48 : decode cX2_joinSides 48 = .ok (.return_, 1) := by decide +kernel
theorem dX2_hideNumber_0 : decode cX2_hideNumber 0 = .ok (.aload_n 0, 1) := by decide +kernel
theorem dX2_hideNumber_1 : decode cX2_hideNumber 1 = .ok (.getfield 53, 3) := by decide +kernel
theorem dX2_hideNumber_4 : decode cX2_hideNumber 4 = .ok (.ifCond .le 15, 3) := by decide +kernel
theorem dX2_hideNumber_7 : decode cX2_hideNumber 7 = .ok (.aload_n 0, 1) := by decide +kernel
theorem dX2_hideNumber_8 : decode cX2_hideNumber 8 = .ok (.getfield 15, 3) := by decide +kernel
theorem dX2_hideNumber_11 : decode cX2_hideNumber 11 = .ok (.aload_n 0, 1) := by decide +kernel
theorem dX2_hideNumber_12 : decode cX2_hideNumber 12 = .ok (.getfield 53, 3) := by decide +kernel
theorem dX2_hideNumber_15 : decode cX2_hideNumber 15 = .ok (.iconst 1, 1) := by decide +kernel
theorem dX2_hideNumber_16 : decode cX2_hideNumber 16 = .ok (.isub, 1) := by decide +kernel
theorem dX2_hideNumber_17 : decode cX2_hideNumber 17 = .ok (.iconst 0, 1) := by decide +kernel
theorem dX2_hideNumber_18 : decode cX2_hideNumber 18 = .ok (.iastore, 1) := by decide +kernel
theorem dX2_hideNumber_19 : decode cX2_hideNumber 19 = .ok (.return_, 1) := by decide +kernel
theorem dX2_askNothing_0 : decode cX2_askNothing 0 = .ok (.aload_n 0, 1) := by decide +kernel
theorem dX2_askNothing_1 : decode cX2_askNothing 1 = .ok (.iconst 0, 1) := by decide +kernel
theorem dX2_askNothing_2 : decode cX2_askNothing 2 = .ok (.putfield 70, 3) := by decide +kernel
theorem dX2_askNothing_5 : decode cX2_askNothing 5 = .ok (.return_, 1) := by decide +kernel
theorem dX2_ask_0 : decode cX2_ask 0 = .ok (.iconst 0, 1) := by decide +kernel
theorem dX2_ask_1 : decode cX2_ask 1 = .ok (.istore_n 2, 1) := by decide +kernel
theorem dX2_ask_2 : decode cX2_ask 2 = .ok (.iload_n 2, 1) := by decide +kernel
theorem dX2_ask_3 : decode cX2_ask 3 = .ok (.aload_n 0, 1) := by decide +kernel
theorem dX2_ask_4 : decode cX2_ask 4 = .ok (.getfield 70, 3) := by decide +kernel
theorem dX2_ask_7 : decode cX2_ask 7 = .ok (.if_icmp .ge 20, 3) := by decide +kernel
theorem dX2_ask_10 : decode cX2_ask 10 = .ok (.aload_n 0, 1) := by decide +kernel
theorem dX2_ask_11 : decode cX2_ask 11 = .ok (.getfield 46, 3) := by decide +kernel
theorem dX2_ask_14 : decode cX2_ask 14 = .ok (.iload_n 2, 1) := by decide +kernel
theorem dX2_ask_15 : decode cX2_ask 15 = .ok (.iaload, 1) := by decide +kernel
theorem dX2_ask_16 : decode cX2_ask 16 = .ok (.iload_n 1, 1) := by decide +kernel
theorem dX2_ask_17 : decode cX2_ask 17 = .ok (.if_icmp .ne 4, 3) := by decide +kernel
theorem dX2_ask_20 : decode cX2_ask 20 = .ok (.return_, 1) := by decide +kernel
theorem dX2_ask_21 : decode cX2_ask 21 = .ok (.iinc 2 1, 3) := by decide +kernel
theorem dX2_ask_24 : decode cX2_ask 24 = .ok (.goto (-22), 3) := by decide +kernel
theorem dX2_ask_27 : decode cX2_ask 27 = .ok (.iload_n 1, 1) := by decide +kernel
theorem dX2_ask_28 : decode cX2_ask 28 = .ok (.ifCond .eq 35, 3) := by decide +kernel
theorem dX2_ask_31 : decode cX2_ask 31 = .ok (.aload_n 0, 1) := by decide +kernel
theorem dX2_ask_32 : decode cX2_ask 32 = .ok (.getfield 70, 3) := by decide +kernel
theorem dX2_ask_35 : decode cX2_ask 35 = .ok (.aload_n 0, 1) := by decide +kernel
theorem dX2_ask_36 : decode cX2_ask 36 = .ok (.getfield 46, 3) := by decide +kernel
theorem dX2_ask_39 : decode cX2_ask 39 = .ok (.arraylength, 1) := by decide +kernel
theorem dX2_ask_40 : decode cX2_ask 40 = .ok (.if_icmp .ge 23, 3) := by decide +kernel
theorem dX2_ask_43 : decode cX2_ask 43 = .ok (.aload_n 0, 1) := by decide +kernel
theorem dX2_ask_44 : decode cX2_ask 44 = .ok (.getfield 46, 3) := by decide +kernel
theorem dX2_ask_47 : decode cX2_ask 47 = .ok (.aload_n 0, 1) := by decide +kernel
theorem dX2_ask_48 : decode cX2_ask 48 = .ok (.getfield 70, 3) := by decide +kernel
theorem dX2_ask_51 : decode cX2_ask 51 = .ok (.iload_n 1, 1) := by decide +kernel
theorem dX2_ask_52 : decode cX2_ask 52 = .ok (.iastore, 1) := by decide +kernel
theorem dX2_ask_53 : decode cX2_ask 53 = .ok (.aload_n 0, 1) := by decide +kernel
theorem dX2_ask_54 : decode cX2_ask 54 = .ok (.dup, 1) := by decide +kernel
theorem dX2_ask_55 : decode cX2_ask 55 = .ok (.getfield 70, 3) := by decide +kernel
theorem dX2_ask_58 : decode cX2_ask 58 = .ok (.iconst 1, 1) := by decide +kernel
theorem dX2_ask_59 : decode cX2_ask 59 = .ok (.iadd, 1) := by decide +kernel
theorem dX2_ask_60 : decode cX2_ask 60 = .ok (.putfield 70, 3) := by decide +kernel
theorem dX2_ask_63 : decode cX2_ask 63 = .ok (.return_, 1) := by decide +kernel
theorem dX2_access_0 : decode cX2_access 0 = .ok (.iload_n 1, 1) := by decide +kernel
theorem dX2_access_1 : decode cX2_access 1 = .ok (.ifCond .ne 7, 3) := by decide +kernel
theorem dX2_access_4 : decode cX2_access 4 = .ok (.iconst 0, 1) := by decide +kernel
theorem dX2_access_5 : decode cX2_access 5 = .ok (.goto 5, 3) := by decide +kernel
theorem dX2_access_8 : decode cX2_access 8 = .ok (.bipush 14, 2) := by decide +kernel
theorem dX2_access_10 : decode cX2_access 10 = .ok (.istore 5, 2) := by decide +kernel
theorem dX2_access_12 : decode cX2_access 12 = .ok (.iload_n 1, 1) := by decide +kernel
theorem dX2_access_13 : decode cX2_access 13 = .ok (.iconst 4, 1) := by decide +kernel
theorem dX2_access_14 : decode cX2_access 14 = .ok (.if_icmp .lt 14, 3) := by decide +kernel
theorem dX2_access_17 : decode cX2_access 17 = .ok (.aload_n 0, 1) := by decide +kernel
theorem dX2_access_18 : decode cX2_access 18 = .ok (.bipush 8, 2) := by decide +kernel
theorem dX2_access_20 : decode cX2_access 20 = .ok (.iload_n 2, 1) := by decide +kernel
theorem dX2_access_21 : decode cX2_access 21 = .ok (.iload_n 3, 1) := by decide +kernel
theorem dX2_access_22 : decode cX2_access 22 = .ok (.invokevirtual 66, 3) := by decide +kernel
theorem dX2_access_25 : decode cX2_access 25 = .ok (.goto 56, 3) := by decide +kernel
theorem dX2_access_28 : decode cX2_access 28 = .ok (.iload 4, 2) := by decide +kernel
theorem dX2_access_30 : decode cX2_access 30 = .ok (.ifCond .lt 42, 3) := by decide +kernel
theorem dX2_access_33 : decode cX2_access 33 = .ok (.iload 4, 2) := by decide +kernel
theorem dX2_access_35 : decode cX2_access 35 = .ok (.aload_n 0, 1) := by decide +kernel
theorem dX2_access_36 : decode cX2_access 36 = .ok (.getfield 53, 3) := by decide +kernel
theorem dX2_access_39 : decode cX2_access 39 = .ok (.if_icmp .ge 33, 3) := by decide +kernel
theorem dX2_access_42 : decode cX2_access 42 = .ok (.aload_n 0, 1) := by decide +kernel
theorem dX2_access_43 : decode cX2_access 43 = .ok (.getfield 18, 3) := by decide +kernel
theorem dX2_access_46 : decode cX2_access 46 = .ok (.iload 4, 2) := by decide +kernel
theorem dX2_access_48 : decode cX2_access 48 = .ok (.iaload, 1) := by decide +kernel
theorem dX2_access_49 : decode cX2_access 49 = .ok (.iload 5, 2) := by decide +kernel
theorem dX2_access_51 : decode cX2_access 51 = .ok (.iadd, 1) := by decide +kernel
theorem dX2_access_52 : decode cX2_access 52 = .ok (.istore 6, 2) := by decide +kernel
theorem dX2_access_54 : decode cX2_access 54 = .ok (.aload_n 0, 1) := by decide +kernel
theorem dX2_access_55 : decode cX2_access 55 = .ok (.iload 4, 2) := by decide +kernel
theorem dX2_access_57 : decode cX2_access 57 = .ok (.putfield 53, 3) := by decide +kernel
theorem dX2_access_60 : decode cX2_access 60 = .ok (.aload_n 0, 1) := by decide +kernel
theorem dX2_access_61 : decode cX2_access 61 = .ok (.bipush 6, 2) := by decide +kernel
theorem dX2_access_63 : decode cX2_access 63 = .ok (.iload_n 2, 1) := by decide +kernel
theorem dX2_access_64 : decode cX2_access 64 = .ok (.iload 6, 2) := by decide +kernel
theorem dX2_access_66 : decode cX2_access 66 = .ok (.invokevirtual 66, 3) := by decide +kernel
theorem dX2_access_69 : decode cX2_access 69 = .ok (.goto 12, 3) := by decide +kernel
theorem dX2_access_72 : decode cX2_access 72 = .ok (.aload_n 0, 1) := by decide +kernel
theorem dX2_access_73 : decode cX2_access 73 = .ok (.bipush 7, 2) := by decide +kernel
theorem dX2_access_75 : decode cX2_access 75 = .ok (.iload_n 2, 1) := by decide +kernel
theorem dX2_access_76 : decode cX2_access 76 = .ok (.iload 5, 2) := by decide +kernel
theorem dX2_access_78 : decode cX2_access 78 = .ok (.invokevirtual 66, 3) := by decide +kernel
theorem dX2_access_81 : decode cX2_access 81 = .ok (.return_, 1) := by decide +kernel
theorem dX2_test_0 : decode cX2_test 0 = .ok (.aload_n 0, 1) := by decide +kernel
theorem dX2_test_1 : decode cX2_test 1 = .ok (.getfield 57, 3) := by decide +kernel
theorem dX2_test_4 : decode cX2_test 4 = .ok (.sipush 3000, 3) := by decide +kernel
theorem dX2_test_7 : decode cX2_test 7 = .ok (.if_icmp .lt 4, 3) := by decide +kernel
theorem dX2_test_10 : decode cX2_test 10 = .ok (.return_, 1) := by decide +kernel
theorem dX2_test_11 : decode cX2_test 11 = .ok (.aload_n 0, 1) := by decide +kernel
theorem dX2_test_12 : decode cX2_test 12 = .ok (.getfield 57, 3) := by decide +kernel
theorem dX2_test_15 : decode cX2_test 15 = .ok (.istore 7, 2) := by decide +kernel
theorem dX2_test_17 : decode cX2_test 17 = .ok (.aload_n 0, 1) := by decide +kernel
theorem dX2_test_18 : decode cX2_test 18 = .ok (.getfield 21, 3) := by decide +kernel
theorem dX2_test_21 : decode cX2_test 21 = .ok (.iload 7, 2) := by decide +kernel
theorem dX2_test_23 : decode cX2_test 23 = .ok (.iload_n 1, 1) := by decide +kernel
theorem dX2_test_24 : decode cX2_test 24 = .ok (.iastore, 1) := by decide +kernel
theorem dX2_test_25 : decode cX2_test 25 = .ok (.aload_n 0, 1) := by decide +kernel
theorem dX2_test_26 : decode cX2_test 26 = .ok (.getfield 24, 3) := by decide +kernel
theorem dX2_test_29 : decode cX2_test 29 = .ok (.iload 7, 2) := by decide +kernel
theorem dX2_test_31 : decode cX2_test 31 = .ok (.iload_n 2, 1) := by decide +kernel
theorem dX2_test_32 : decode cX2_test 32 = .ok (.iastore, 1) := by decide +kernel
theorem dX2_test_33 : decode cX2_test 33 = .ok (.aload_n 0, 1) := by decide +kernel
theorem dX2_test_34 : decode cX2_test 34 = .ok (.getfield 27, 3) := by decide +kernel
theorem dX2_test_37 : decode cX2_test 37 = .ok (.iload 7, 2) := by decide +kernel
theorem dX2_test_39 : decode cX2_test 39 = .ok (.iload_n 3, 1) := by decide +kernel
theorem dX2_test_40 : decode cX2_test 40 = .ok (.iastore, 1) := by decide +kernel
theorem dX2_test_41 : decode cX2_test 41 = .ok (.aload_n 0, 1) := by decide +kernel
theorem dX2_test_42 : decode cX2_test 42 = .ok (.getfield 30, 3) := by decide +kernel
theorem dX2_test_45 : decode cX2_test 45 = .ok (.iload 7, 2) := by decide +kernel
theorem dX2_test_47 : decode cX2_test 47 = .ok (.iload 4, 2) := by decide +kernel
theorem dX2_test_49 : decode cX2_test 49 = .ok (.iastore, 1) := by decide +kernel
theorem dX2_test_50 : decode cX2_test 50 = .ok (.aload_n 0, 1) := by decide +kernel
theorem dX2_test_51 : decode cX2_test 51 = .ok (.getfield 33, 3) := by decide +kernel
theorem dX2_test_54 : decode cX2_test 54 = .ok (.iload 7, 2) := by decide +kernel
theorem dX2_test_56 : decode cX2_test 56 = .ok (.iload 5, 2) := by decide +kernel
theorem dX2_test_58 : decode cX2_test 58 = .ok (.iastore, 1) := by decide +kernel
theorem dX2_test_59 : decode cX2_test 59 = .ok (.aload_n 0, 1) := by decide +kernel
theorem dX2_test_60 : decode cX2_test 60 = .ok (.getfield 36, 3) := by decide +kernel
theorem dX2_test_63 : decode cX2_test 63 = .ok (.iload 7, 2) := by decide +kernel
theorem dX2_test_65 : decode cX2_test 65 = .ok (.iload 6, 2) := by decide +kernel
theorem dX2_test_67 : decode cX2_test 67 = .ok (.iastore, 1) := by decide +kernel
theorem dX2_test_68 : decode cX2_test 68 = .ok (.aload_n 0, 1) := by decide +kernel
theorem dX2_test_69 : decode cX2_test 69 = .ok (.dup, 1) := by decide +kernel
theorem dX2_test_70 : decode cX2_test 70 = .ok (.getfield 57, 3) := by decide +kernel
theorem dX2_test_73 : decode cX2_test 73 = .ok (.iconst 1, 1) := by decide +kernel
theorem dX2_test_74 : decode cX2_test 74 = .ok (.iadd, 1) := by decide +kernel
theorem dX2_test_75 : decode cX2_test 75 = .ok (.putfield 57, 3) := by decide +kernel
theorem dX2_test_78 : decode cX2_test 78 = .ok (.return_, 1) := by decide +kernel
theorem dX2_testNumber_0 : decode cX2_testNumber 0 = .ok (.aload_n 0, 1) := by decide +kernel
theorem dX2_testNumber_1 : decode cX2_testNumber 1 = .ok (.getfield 53, 3) := by decide +kernel
theorem dX2_testNumber_4 : decode cX2_testNumber 4 = .ok (.istore 6, 2) := by decide +kernel
theorem dX2_testNumber_6 : decode cX2_testNumber 6 = .ok (.aload_n 0, 1) := by decide +kernel
theorem dX2_testNumber_7 : decode cX2_testNumber 7 = .ok (.iconst 0, 1) := by decide +kernel
theorem dX2_testNumber_8 : decode cX2_testNumber 8 = .ok (.iconst 1, 1) := by decide +kernel
theorem dX2_testNumber_9 : decode cX2_testNumber 9 = .ok (.iload_n 3, 1) := by decide +kernel
theorem dX2_testNumber_10 : decode cX2_testNumber 10 = .ok (.invokevirtual 66, 3) := by decide +kernel
theorem dX2_testNumber_13 : decode cX2_testNumber 13 = .ok (.aload_n 0, 1) := by decide +kernel
theorem dX2_testNumber_14 : decode cX2_testNumber 14 = .ok (.iload_n 1, 1) := by decide +kernel
theorem dX2_testNumber_15 : decode cX2_testNumber 15 = .ok (.iload 6, 2) := by decide +kernel
theorem dX2_testNumber_17 : decode cX2_testNumber 17 = .ok (.aload_n 0, 1) := by decide +kernel
theorem dX2_testNumber_18 : decode cX2_testNumber 18 = .ok (.getfield 53, 3) := by decide +kernel
theorem dX2_testNumber_21 : decode cX2_testNumber 21 = .ok (.iload_n 2, 1) := by decide +kernel
theorem dX2_testNumber_22 : decode cX2_testNumber 22 = .ok (.iload 4, 2) := by decide +kernel
theorem dX2_testNumber_24 : decode cX2_testNumber 24 = .ok (.iload 5, 2) := by decide +kernel
theorem dX2_testNumber_26 : decode cX2_testNumber 26 = .ok (.invokevirtual 73, 3) := by decide +kernel
theorem dX2_testNumber_29 : decode cX2_testNumber 29 = .ok (.return_, 1) := by decide +kernel
theorem dX2_testRead_0 : decode cX2_testRead 0 = .ok (.aload_n 0, 1) := by decide +kernel
theorem dX2_testRead_1 : decode cX2_testRead 1 = .ok (.getfield 53, 3) := by decide +kernel
theorem dX2_testRead_4 : decode cX2_testRead 4 = .ok (.istore 6, 2) := by decide +kernel
theorem dX2_testRead_6 : decode cX2_testRead 6 = .ok (.aload_n 0, 1) := by decide +kernel
theorem dX2_testRead_7 : decode cX2_testRead 7 = .ok (.bipush 6, 2) := by decide +kernel
theorem dX2_testRead_9 : decode cX2_testRead 9 = .ok (.iload_n 2, 1) := by decide +kernel
theorem dX2_testRead_10 : decode cX2_testRead 10 = .ok (.iload_n 1, 1) := by decide +kernel
theorem dX2_testRead_11 : decode cX2_testRead 11 = .ok (.invokevirtual 66, 3) := by decide +kernel
theorem dX2_testRead_14 : decode cX2_testRead 14 = .ok (.aload_n 0, 1) := by decide +kernel
theorem dX2_testRead_15 : decode cX2_testRead 15 = .ok (.iconst 0, 1) := by decide +kernel
theorem dX2_testRead_16 : decode cX2_testRead 16 = .ok (.iconst 1, 1) := by decide +kernel
theorem dX2_testRead_17 : decode cX2_testRead 17 = .ok (.iload_n 3, 1) := by decide +kernel
theorem dX2_testRead_18 : decode cX2_testRead 18 = .ok (.invokevirtual 66, 3) := by decide +kernel
theorem dX2_testRead_21 : decode cX2_testRead 21 = .ok (.aload_n 0, 1) := by decide +kernel
theorem dX2_testRead_22 : decode cX2_testRead 22 = .ok (.iload 6, 2) := by decide +kernel
theorem dX2_testRead_24 : decode cX2_testRead 24 = .ok (.iload 6, 2) := by decide +kernel
theorem dX2_testRead_26 : decode cX2_testRead 26 = .ok (.iconst 1, 1) := by decide +kernel
theorem dX2_testRead_27 : decode cX2_testRead 27 = .ok (.iadd, 1) := by decide +kernel
theorem dX2_testRead_28 : decode cX2_testRead 28 = .ok (.iload 6, 2) := by decide +kernel
theorem dX2_testRead_30 : decode cX2_testRead 30 = .ok (.iconst 2, 1) := by decide +kernel
theorem dX2_testRead_31 : decode cX2_testRead 31 = .ok (.iadd, 1) := by decide +kernel
theorem dX2_testRead_32 : decode cX2_testRead 32 = .ok (.iconst 1, 1) := by decide +kernel
theorem dX2_testRead_33 : decode cX2_testRead 33 = .ok (.iload 4, 2) := by decide +kernel
theorem dX2_testRead_35 : decode cX2_testRead 35 = .ok (.iload 5, 2) := by decide +kernel
theorem dX2_testRead_37 : decode cX2_testRead 37 = .ok (.invokevirtual 73, 3) := by decide +kernel
theorem dX2_testRead_40 : decode cX2_testRead 40 = .ok (.return_, 1) := by decide +kernel
theorem dX2_testType_0 : decode cX2_testType 0 = .ok (.aload_n 0, 1) := by decide +kernel
theorem dX2_testType_1 : decode cX2_testType 1 = .ok (.bipush 12, 2) := by decide +kernel
theorem dX2_testType_3 : decode cX2_testType 3 = .ok (.iconst 2, 1) := by decide +kernel
theorem dX2_testType_4 : decode cX2_testType 4 = .ok (.iload_n 1, 1) := by decide +kernel
theorem dX2_testType_5 : decode cX2_testType 5 = .ok (.iload_n 2, 1) := by decide +kernel
theorem dX2_testType_6 : decode cX2_testType 6 = .ok (.iload_n 3, 1) := by decide +kernel
theorem dX2_testType_7 : decode cX2_testType 7 = .ok (.invokevirtual 77, 3) := by decide +kernel
theorem dX2_testType_10 : decode cX2_testType 10 = .ok (.return_, 1) := by decide +kernel
theorem dX2_testByte_0 : decode cX2_testByte 0 = .ok (.aload_n 0, 1) := by decide +kernel
theorem dX2_testByte_1 : decode cX2_testByte 1 = .ok (.iload_n 1, 1) := by decide +kernel
theorem dX2_testByte_2 : decode cX2_testByte 2 = .ok (.iconst 1, 1) := by decide +kernel
theorem dX2_testByte_3 : decode cX2_testByte 3 = .ok (.iload_n 2, 1) := by decide +kernel
theorem dX2_testByte_4 : decode cX2_testByte 4 = .ok (.iload_n 3, 1) := by decide +kernel
theorem dX2_testByte_5 : decode cX2_testByte 5 = .ok (.iload 4, 2) := by decide +kernel
theorem dX2_testByte_7 : decode cX2_testByte 7 = .ok (.invokevirtual 77, 3) := by decide +kernel
theorem dX2_testByte_10 : decode cX2_testByte 10 = .ok (.return_, 1) := by decide +kernel
theorem dX2_testFirstPart_0 : decode cX2_testFirstPart 0 = .ok (.aload_n 0, 1) := by decide +kernel
theorem dX2_testFirstPart_1 : decode cX2_testFirstPart 1 = .ok (.getfield 53, 3) := by decide +kernel
theorem dX2_testFirstPart_4 : decode cX2_testFirstPart 4 = .ok (.istore_n 3, 1) := by decide +kernel
theorem dX2_testFirstPart_5 : decode cX2_testFirstPart 5 = .ok (.aload_n 0, 1) := by decide +kernel
theorem dX2_testFirstPart_6 : decode cX2_testFirstPart 6 = .ok (.bipush 6, 2) := by decide +kernel
theorem dX2_testFirstPart_8 : decode cX2_testFirstPart 8 = .ok (.iconst 2, 1) := by decide +kernel
theorem dX2_testFirstPart_9 : decode cX2_testFirstPart 9 = .ok (.bipush 20, 2) := by decide +kernel
theorem dX2_testFirstPart_11 : decode cX2_testFirstPart 11 = .ok (.invokevirtual 66, 3) := by decide +kernel
theorem dX2_testFirstPart_14 : decode cX2_testFirstPart 14 = .ok (.aload_n 0, 1) := by decide +kernel
theorem dX2_testFirstPart_15 : decode cX2_testFirstPart 15 = .ok (.iconst 3, 1) := by decide +kernel
theorem dX2_testFirstPart_16 : decode cX2_testFirstPart 16 = .ok (.iconst 5, 1) := by decide +kernel
theorem dX2_testFirstPart_17 : decode cX2_testFirstPart 17 = .ok (.sipush 8191, 3) := by decide +kernel
theorem dX2_testFirstPart_20 : decode cX2_testFirstPart 20 = .ok (.invokevirtual 66, 3) := by decide +kernel
theorem dX2_testFirstPart_23 : decode cX2_testFirstPart 23 = .ok (.aload_n 0, 1) := by decide +kernel
theorem dX2_testFirstPart_24 : decode cX2_testFirstPart 24 = .ok (.iload_n 3, 1) := by decide +kernel
theorem dX2_testFirstPart_25 : decode cX2_testFirstPart 25 = .ok (.iconst 1, 1) := by decide +kernel
theorem dX2_testFirstPart_26 : decode cX2_testFirstPart 26 = .ok (.iconst 0, 1) := by decide +kernel
theorem dX2_testFirstPart_27 : decode cX2_testFirstPart 27 = .ok (.iload_n 1, 1) := by decide +kernel
theorem dX2_testFirstPart_28 : decode cX2_testFirstPart 28 = .ok (.iload_n 2, 1) := by decide +kernel
theorem dX2_testFirstPart_29 : decode cX2_testFirstPart 29 = .ok (.invokevirtual 81, 3) := by decide +kernel
theorem dX2_testFirstPart_32 : decode cX2_testFirstPart 32 = .ok (.return_, 1) := by decide +kernel
theorem dX2_testLength_0 : decode cX2_testLength 0 = .ok (.aload_n 0, 1) := by decide +kernel
theorem dX2_testLength_1 : decode cX2_testLength 1 = .ok (.getfield 53, 3) := by decide +kernel
theorem dX2_testLength_4 : decode cX2_testLength 4 = .ok (.istore 5, 2) := by decide +kernel
theorem dX2_testLength_6 : decode cX2_testLength 6 = .ok (.aload_n 0, 1) := by decide +kernel
theorem dX2_testLength_7 : decode cX2_testLength 7 = .ok (.iconst 1, 1) := by decide +kernel
theorem dX2_testLength_8 : decode cX2_testLength 8 = .ok (.iconst 0, 1) := by decide +kernel
theorem dX2_testLength_9 : decode cX2_testLength 9 = .ok (.iconst 0, 1) := by decide +kernel
theorem dX2_testLength_10 : decode cX2_testLength 10 = .ok (.invokevirtual 66, 3) := by decide +kernel
theorem dX2_testLength_13 : decode cX2_testLength 13 = .ok (.aload_n 0, 1) := by decide +kernel
theorem dX2_testLength_14 : decode cX2_testLength 14 = .ok (.iload 5, 2) := by decide +kernel
theorem dX2_testLength_16 : decode cX2_testLength 16 = .ok (.iload_n 1, 1) := by decide +kernel
theorem dX2_testLength_17 : decode cX2_testLength 17 = .ok (.iload_n 2, 1) := by decide +kernel
theorem dX2_testLength_18 : decode cX2_testLength 18 = .ok (.iload_n 3, 1) := by decide +kernel
theorem dX2_testLength_19 : decode cX2_testLength 19 = .ok (.iload 4, 2) := by decide +kernel
theorem dX2_testLength_21 : decode cX2_testLength 21 = .ok (.invokevirtual 81, 3) := by decide +kernel
theorem dX2_testLength_24 : decode cX2_testLength 24 = .ok (.return_, 1) := by decide +kernel
theorem dX2_numberOf_0 : decode cX2_numberOf 0 = .ok (.iload_n 0, 1) := by decide +kernel
theorem dX2_numberOf_1 : decode cX2_numberOf 1 = .ok (.tableswitch 52 1 5 #[35, 39, 42, 46, 49], 35) := by decide +kernel
theorem dX2_numberOf_36 : decode cX2_numberOf 36 = .ok (.sipush 2048, 3) := by decide +kernel
theorem dX2_numberOf_39 : decode cX2_numberOf 39 = .ok (.ireturn, 1) := by decide +kernel
theorem dX2_numberOf_40 : decode cX2_numberOf 40 = .ok (.ldc 84, 2) := by decide +kernel
theorem dX2_numberOf_42 : decode cX2_numberOf 42 = .ok (.ireturn, 1) := by decide +kernel
theorem dX2_numberOf_43 : decode cX2_numberOf 43 = .ok (.sipush 2054, 3) := by decide +kernel
theorem dX2_numberOf_46 : decode cX2_numberOf 46 = .ok (.ireturn, 1) := by decide +kernel
theorem dX2_numberOf_47 : decode cX2_numberOf 47 = .ok (.bipush 6, 2) := by decide +kernel
theorem dX2_numberOf_49 : decode cX2_numberOf 49 = .ok (.ireturn, 1) := by decide +kernel
theorem dX2_numberOf_50 : decode cX2_numberOf 50 = .ok (.bipush 17, 2) := by decide +kernel
theorem dX2_numberOf_52 : decode cX2_numberOf 52 = .ok (.ireturn, 1) := by decide +kernel
theorem dX2_numberOf_53 : decode cX2_numberOf 53 = .ok (.iconst 1, 1) := by decide +kernel
theorem dX2_numberOf_54 : decode cX2_numberOf 54 = .ok (.ireturn, 1) := by decide +kernel
theorem dX2_testProtocol_0 : decode cX2_testProtocol 0 = .ok (.iload_n 1, 1) := by decide +kernel
theorem dX2_testProtocol_1 : decode cX2_testProtocol 1 = .ok (.invokestatic 85, 3) := by decide +kernel
theorem dX2_testProtocol_4 : decode cX2_testProtocol 4 = .ok (.istore 4, 2) := by decide +kernel
theorem dX2_testProtocol_6 : decode cX2_testProtocol 6 = .ok (.iload_n 1, 1) := by decide +kernel
theorem dX2_testProtocol_7 : decode cX2_testProtocol 7 = .ok (.iconst 4, 1) := by decide +kernel
theorem dX2_testProtocol_8 : decode cX2_testProtocol 8 = .ok (.if_icmp .ge 12, 3) := by decide +kernel
theorem dX2_testProtocol_11 : decode cX2_testProtocol 11 = .ok (.aload_n 0, 1) := by decide +kernel
theorem dX2_testProtocol_12 : decode cX2_testProtocol 12 = .ok (.iload 4, 2) := by decide +kernel
theorem dX2_testProtocol_14 : decode cX2_testProtocol 14 = .ok (.iload_n 2, 1) := by decide +kernel
theorem dX2_testProtocol_15 : decode cX2_testProtocol 15 = .ok (.iload_n 3, 1) := by decide +kernel
theorem dX2_testProtocol_16 : decode cX2_testProtocol 16 = .ok (.invokevirtual 89, 3) := by decide +kernel
theorem dX2_testProtocol_19 : decode cX2_testProtocol 19 = .ok (.return_, 1) := by decide +kernel
theorem dX2_testProtocol_20 : decode cX2_testProtocol 20 = .ok (.iload_n 1, 1) := by decide +kernel
theorem dX2_testProtocol_21 : decode cX2_testProtocol 21 = .ok (.bipush 6, 2) := by decide +kernel
theorem dX2_testProtocol_23 : decode cX2_testProtocol 23 = .ok (.if_icmp .ne 7, 3) := by decide +kernel
theorem dX2_testProtocol_26 : decode cX2_testProtocol 26 = .ok (.iload_n 3, 1) := by decide +kernel
theorem dX2_testProtocol_27 : decode cX2_testProtocol 27 = .ok (.goto 7, 3) := by decide +kernel
theorem dX2_testProtocol_30 : decode cX2_testProtocol 30 = .ok (.aload_n 0, 1) := by decide +kernel
theorem dX2_testProtocol_31 : decode cX2_testProtocol 31 = .ok (.invokevirtual 92, 3) := by decide +kernel
theorem dX2_testProtocol_34 : decode cX2_testProtocol 34 = .ok (.istore 5, 2) := by decide +kernel
theorem dX2_testProtocol_36 : decode cX2_testProtocol 36 = .ok (.aload_n 0, 1) := by decide +kernel
theorem dX2_testProtocol_37 : decode cX2_testProtocol 37 = .ok (.sipush 2048, 3) := by decide +kernel
theorem dX2_testProtocol_40 : decode cX2_testProtocol 40 = .ok (.iconst (-1), 1) := by decide +kernel
theorem dX2_testProtocol_41 : decode cX2_testProtocol 41 = .ok (.iload 5, 2) := by decide +kernel
theorem dX2_testProtocol_43 : decode cX2_testProtocol 43 = .ok (.invokevirtual 89, 3) := by decide +kernel
theorem dX2_testProtocol_46 : decode cX2_testProtocol 46 = .ok (.aload_n 0, 1) := by decide +kernel
theorem dX2_testProtocol_47 : decode cX2_testProtocol 47 = .ok (.bipush 23, 2) := by decide +kernel
theorem dX2_testProtocol_49 : decode cX2_testProtocol 49 = .ok (.iload 4, 2) := by decide +kernel
theorem dX2_testProtocol_51 : decode cX2_testProtocol 51 = .ok (.iload_n 2, 1) := by decide +kernel
theorem dX2_testProtocol_52 : decode cX2_testProtocol 52 = .ok (.iload 5, 2) := by decide +kernel
theorem dX2_testProtocol_54 : decode cX2_testProtocol 54 = .ok (.invokevirtual 96, 3) := by decide +kernel
theorem dX2_testProtocol_57 : decode cX2_testProtocol 57 = .ok (.iload_n 1, 1) := by decide +kernel
theorem dX2_testProtocol_58 : decode cX2_testProtocol 58 = .ok (.bipush 6, 2) := by decide +kernel
theorem dX2_testProtocol_60 : decode cX2_testProtocol 60 = .ok (.if_icmp .eq 27, 3) := by decide +kernel
theorem dX2_testProtocol_63 : decode cX2_testProtocol 63 = .ok (.aload_n 0, 1) := by decide +kernel
theorem dX2_testProtocol_64 : decode cX2_testProtocol 64 = .ok (.iload 5, 2) := by decide +kernel
theorem dX2_testProtocol_66 : decode cX2_testProtocol 66 = .ok (.invokevirtual 100, 3) := by decide +kernel
theorem dX2_testProtocol_69 : decode cX2_testProtocol 69 = .ok (.aload_n 0, 1) := by decide +kernel
theorem dX2_testProtocol_70 : decode cX2_testProtocol 70 = .ok (.ldc 84, 2) := by decide +kernel
theorem dX2_testProtocol_72 : decode cX2_testProtocol 72 = .ok (.iconst (-1), 1) := by decide +kernel
theorem dX2_testProtocol_73 : decode cX2_testProtocol 73 = .ok (.iload_n 3, 1) := by decide +kernel
theorem dX2_testProtocol_74 : decode cX2_testProtocol 74 = .ok (.invokevirtual 89, 3) := by decide +kernel
theorem dX2_testProtocol_77 : decode cX2_testProtocol 77 = .ok (.aload_n 0, 1) := by decide +kernel
theorem dX2_testProtocol_78 : decode cX2_testProtocol 78 = .ok (.bipush 20, 2) := by decide +kernel
theorem dX2_testProtocol_80 : decode cX2_testProtocol 80 = .ok (.iload 4, 2) := by decide +kernel
theorem dX2_testProtocol_82 : decode cX2_testProtocol 82 = .ok (.iload_n 2, 1) := by decide +kernel
theorem dX2_testProtocol_83 : decode cX2_testProtocol 83 = .ok (.iload_n 3, 1) := by decide +kernel
theorem dX2_testProtocol_84 : decode cX2_testProtocol 84 = .ok (.invokevirtual 96, 3) := by decide +kernel
theorem dX2_testProtocol_87 : decode cX2_testProtocol 87 = .ok (.return_, 1) := by decide +kernel
theorem dX2_testGuards_0 : decode cX2_testGuards 0 = .ok (.iconst 0, 1) := by decide +kernel
theorem dX2_testGuards_1 : decode cX2_testGuards 1 = .ok (.istore_n 2, 1) := by decide +kernel
theorem dX2_testGuards_2 : decode cX2_testGuards 2 = .ok (.iload_n 2, 1) := by decide +kernel
theorem dX2_testGuards_3 : decode cX2_testGuards 3 = .ok (.aload_n 0, 1) := by decide +kernel
theorem dX2_testGuards_4 : decode cX2_testGuards 4 = .ok (.getfield 70, 3) := by decide +kernel
theorem dX2_testGuards_7 : decode cX2_testGuards 7 = .ok (.if_icmp .ge 63, 3) := by decide +kernel
theorem dX2_testGuards_10 : decode cX2_testGuards 10 = .ok (.aload_n 0, 1) := by decide +kernel
theorem dX2_testGuards_11 : decode cX2_testGuards 11 = .ok (.getfield 46, 3) := by decide +kernel
theorem dX2_testGuards_14 : decode cX2_testGuards 14 = .ok (.iload_n 2, 1) := by decide +kernel
theorem dX2_testGuards_15 : decode cX2_testGuards 15 = .ok (.iaload, 1) := by decide +kernel
theorem dX2_testGuards_16 : decode cX2_testGuards 16 = .ok (.istore_n 3, 1) := by decide +kernel
theorem dX2_testGuards_17 : decode cX2_testGuards 17 = .ok (.iload_n 3, 1) := by decide +kernel
theorem dX2_testGuards_18 : decode cX2_testGuards 18 = .ok (.invokestatic 85, 3) := by decide +kernel
theorem dX2_testGuards_21 : decode cX2_testGuards 21 = .ok (.istore 4, 2) := by decide +kernel
theorem dX2_testGuards_23 : decode cX2_testGuards 23 = .ok (.iload_n 3, 1) := by decide +kernel
theorem dX2_testGuards_24 : decode cX2_testGuards 24 = .ok (.iconst 4, 1) := by decide +kernel
theorem dX2_testGuards_25 : decode cX2_testGuards 25 = .ok (.if_icmp .ge 14, 3) := by decide +kernel
theorem dX2_testGuards_28 : decode cX2_testGuards 28 = .ok (.aload_n 0, 1) := by decide +kernel
theorem dX2_testGuards_29 : decode cX2_testGuards 29 = .ok (.iload 4, 2) := by decide +kernel
theorem dX2_testGuards_31 : decode cX2_testGuards 31 = .ok (.iconst (-1), 1) := by decide +kernel
theorem dX2_testGuards_32 : decode cX2_testGuards 32 = .ok (.iload_n 1, 1) := by decide +kernel
theorem dX2_testGuards_33 : decode cX2_testGuards 33 = .ok (.invokevirtual 89, 3) := by decide +kernel
theorem dX2_testGuards_36 : decode cX2_testGuards 36 = .ok (.goto 28, 3) := by decide +kernel
theorem dX2_testGuards_39 : decode cX2_testGuards 39 = .ok (.aload_n 0, 1) := by decide +kernel
theorem dX2_testGuards_40 : decode cX2_testGuards 40 = .ok (.sipush 2048, 3) := by decide +kernel
theorem dX2_testGuards_43 : decode cX2_testGuards 43 = .ok (.iconst (-1), 1) := by decide +kernel
theorem dX2_testGuards_44 : decode cX2_testGuards 44 = .ok (.iload_n 1, 1) := by decide +kernel
theorem dX2_testGuards_45 : decode cX2_testGuards 45 = .ok (.invokevirtual 89, 3) := by decide +kernel
theorem dX2_testGuards_48 : decode cX2_testGuards 48 = .ok (.aload_n 0, 1) := by decide +kernel
theorem dX2_testGuards_49 : decode cX2_testGuards 49 = .ok (.bipush 23, 2) := by decide +kernel
theorem dX2_testGuards_51 : decode cX2_testGuards 51 = .ok (.iload 4, 2) := by decide +kernel
theorem dX2_testGuards_53 : decode cX2_testGuards 53 = .ok (.iconst (-1), 1) := by decide +kernel
theorem dX2_testGuards_54 : decode cX2_testGuards 54 = .ok (.iload_n 1, 1) := by decide +kernel
theorem dX2_testGuards_55 : decode cX2_testGuards 55 = .ok (.invokevirtual 96, 3) := by decide +kernel
theorem dX2_testGuards_58 : decode cX2_testGuards 58 = .ok (.aload_n 0, 1) := by decide +kernel
theorem dX2_testGuards_59 : decode cX2_testGuards 59 = .ok (.iconst (-1), 1) := by decide +kernel
theorem dX2_testGuards_60 : decode cX2_testGuards 60 = .ok (.iload_n 1, 1) := by decide +kernel
theorem dX2_testGuards_61 : decode cX2_testGuards 61 = .ok (.invokevirtual 104, 3) := by decide +kernel
theorem dX2_testGuards_64 : decode cX2_testGuards 64 = .ok (.iinc 2 1, 3) := by decide +kernel
theorem dX2_testGuards_67 : decode cX2_testGuards 67 = .ok (.goto (-65), 3) := by decide +kernel
theorem dX2_testGuards_70 : decode cX2_testGuards 70 = .ok (.return_, 1) := by decide +kernel
theorem dX2_testAddress_0 : decode cX2_testAddress 0 = .ok (.aload_n 0, 1) := by decide +kernel
theorem dX2_testAddress_1 : decode cX2_testAddress 1 = .ok (.sipush 2048, 3) := by decide +kernel
theorem dX2_testAddress_4 : decode cX2_testAddress 4 = .ok (.iconst (-1), 1) := by decide +kernel
theorem dX2_testAddress_5 : decode cX2_testAddress 5 = .ok (.iload 6, 2) := by decide +kernel
theorem dX2_testAddress_7 : decode cX2_testAddress 7 = .ok (.invokevirtual 89, 3) := by decide +kernel
theorem dX2_testAddress_10 : decode cX2_testAddress 10 = .ok (.iload_n 1, 1) := by decide +kernel
theorem dX2_testAddress_11 : decode cX2_testAddress 11 = .ok (.ifCond .ne 10, 3) := by decide +kernel
theorem dX2_testAddress_14 : decode cX2_testAddress 14 = .ok (.aload_n 0, 1) := by decide +kernel
theorem dX2_testAddress_15 : decode cX2_testAddress 15 = .ok (.invokevirtual 92, 3) := by decide +kernel
theorem dX2_testAddress_18 : decode cX2_testAddress 18 = .ok (.goto 5, 3) := by decide +kernel
theorem dX2_testAddress_21 : decode cX2_testAddress 21 = .ok (.iload 6, 2) := by decide +kernel
theorem dX2_testAddress_23 : decode cX2_testAddress 23 = .ok (.istore 7, 2) := by decide +kernel
theorem dX2_testAddress_25 : decode cX2_testAddress 25 = .ok (.iload_n 1, 1) := by decide +kernel
theorem dX2_testAddress_26 : decode cX2_testAddress 26 = .ok (.iconst 2, 1) := by decide +kernel
theorem dX2_testAddress_27 : decode cX2_testAddress 27 = .ok (.if_icmp .eq 17, 3) := by decide +kernel
theorem dX2_testAddress_30 : decode cX2_testAddress 30 = .ok (.aload_n 0, 1) := by decide +kernel
theorem dX2_testAddress_31 : decode cX2_testAddress 31 = .ok (.bipush 26, 2) := by decide +kernel
theorem dX2_testAddress_33 : decode cX2_testAddress 33 = .ok (.iload_n 2, 1) := by decide +kernel
theorem dX2_testAddress_34 : decode cX2_testAddress 34 = .ok (.iload_n 3, 1) := by decide +kernel
theorem dX2_testAddress_35 : decode cX2_testAddress 35 = .ok (.iload 4, 2) := by decide +kernel
theorem dX2_testAddress_37 : decode cX2_testAddress 37 = .ok (.iload 5, 2) := by decide +kernel
theorem dX2_testAddress_39 : decode cX2_testAddress 39 = .ok (.iload 7, 2) := by decide +kernel
theorem dX2_testAddress_41 : decode cX2_testAddress 41 = .ok (.invokevirtual 108, 3) := by decide +kernel
theorem dX2_testAddress_44 : decode cX2_testAddress 44 = .ok (.iload_n 1, 1) := by decide +kernel
theorem dX2_testAddress_45 : decode cX2_testAddress 45 = .ok (.ifCond .ne 9, 3) := by decide +kernel
theorem dX2_testAddress_48 : decode cX2_testAddress 48 = .ok (.aload_n 0, 1) := by decide +kernel
theorem dX2_testAddress_49 : decode cX2_testAddress 49 = .ok (.iload 7, 2) := by decide +kernel
theorem dX2_testAddress_51 : decode cX2_testAddress 51 = .ok (.invokevirtual 100, 3) := by decide +kernel
theorem dX2_testAddress_54 : decode cX2_testAddress 54 = .ok (.iload_n 1, 1) := by decide +kernel
theorem dX2_testAddress_55 : decode cX2_testAddress 55 = .ok (.iconst 1, 1) := by decide +kernel
theorem dX2_testAddress_56 : decode cX2_testAddress 56 = .ok (.if_icmp .eq 17, 3) := by decide +kernel
theorem dX2_testAddress_59 : decode cX2_testAddress 59 = .ok (.aload_n 0, 1) := by decide +kernel
theorem dX2_testAddress_60 : decode cX2_testAddress 60 = .ok (.bipush 30, 2) := by decide +kernel
theorem dX2_testAddress_62 : decode cX2_testAddress 62 = .ok (.iload_n 2, 1) := by decide +kernel
theorem dX2_testAddress_63 : decode cX2_testAddress 63 = .ok (.iload_n 3, 1) := by decide +kernel
theorem dX2_testAddress_64 : decode cX2_testAddress 64 = .ok (.iload 4, 2) := by decide +kernel
theorem dX2_testAddress_66 : decode cX2_testAddress 66 = .ok (.iload 5, 2) := by decide +kernel
theorem dX2_testAddress_68 : decode cX2_testAddress 68 = .ok (.iload 6, 2) := by decide +kernel
theorem dX2_testAddress_70 : decode cX2_testAddress 70 = .ok (.invokevirtual 108, 3) := by decide +kernel
theorem dX2_testAddress_73 : decode cX2_testAddress 73 = .ok (.return_, 1) := by decide +kernel
theorem dX2_testAddressAt_0 : decode cX2_testAddressAt 0 = .ok (.aload_n 0, 1) := by decide +kernel
theorem dX2_testAddressAt_1 : decode cX2_testAddressAt 1 = .ok (.getfield 53, 3) := by decide +kernel
theorem dX2_testAddressAt_4 : decode cX2_testAddressAt 4 = .ok (.istore 7, 2) := by decide +kernel
theorem dX2_testAddressAt_6 : decode cX2_testAddressAt 6 = .ok (.aload_n 0, 1) := by decide +kernel
theorem dX2_testAddressAt_7 : decode cX2_testAddressAt 7 = .ok (.bipush 6, 2) := by decide +kernel
theorem dX2_testAddressAt_9 : decode cX2_testAddressAt 9 = .ok (.iconst 4, 1) := by decide +kernel
theorem dX2_testAddressAt_10 : decode cX2_testAddressAt 10 = .ok (.iload_n 1, 1) := by decide +kernel
theorem dX2_testAddressAt_11 : decode cX2_testAddressAt 11 = .ok (.invokevirtual 66, 3) := by decide +kernel
theorem dX2_testAddressAt_14 : decode cX2_testAddressAt 14 = .ok (.iload_n 3, 1) := by decide +kernel
theorem dX2_testAddressAt_15 : decode cX2_testAddressAt 15 = .ok (.ifCond .eq 11, 3) := by decide +kernel
theorem dX2_testAddressAt_18 : decode cX2_testAddressAt 18 = .ok (.aload_n 0, 1) := by decide +kernel
theorem dX2_testAddressAt_19 : decode cX2_testAddressAt 19 = .ok (.iconst 3, 1) := by decide +kernel
theorem dX2_testAddressAt_20 : decode cX2_testAddressAt 20 = .ok (.iconst 5, 1) := by decide +kernel
theorem dX2_testAddressAt_21 : decode cX2_testAddressAt 21 = .ok (.iload 4, 2) := by decide +kernel
theorem dX2_testAddressAt_23 : decode cX2_testAddressAt 23 = .ok (.invokevirtual 66, 3) := by decide +kernel
theorem dX2_testAddressAt_26 : decode cX2_testAddressAt 26 = .ok (.aload_n 0, 1) := by decide +kernel
theorem dX2_testAddressAt_27 : decode cX2_testAddressAt 27 = .ok (.iload 7, 2) := by decide +kernel
theorem dX2_testAddressAt_29 : decode cX2_testAddressAt 29 = .ok (.iconst 1, 1) := by decide +kernel
theorem dX2_testAddressAt_30 : decode cX2_testAddressAt 30 = .ok (.iload_n 2, 1) := by decide +kernel
theorem dX2_testAddressAt_31 : decode cX2_testAddressAt 31 = .ok (.iload 5, 2) := by decide +kernel
theorem dX2_testAddressAt_33 : decode cX2_testAddressAt 33 = .ok (.iload 6, 2) := by decide +kernel
theorem dX2_testAddressAt_35 : decode cX2_testAddressAt 35 = .ok (.invokevirtual 81, 3) := by decide +kernel
theorem dX2_testAddressAt_38 : decode cX2_testAddressAt 38 = .ok (.return_, 1) := by decide +kernel
theorem dX2_testPorts_0 : decode cX2_testPorts 0 = .ok (.aload_n 0, 1) := by decide +kernel
theorem dX2_testPorts_1 : decode cX2_testPorts 1 = .ok (.invokevirtual 92, 3) := by decide +kernel
theorem dX2_testPorts_4 : decode cX2_testPorts 4 = .ok (.istore 6, 2) := by decide +kernel
theorem dX2_testPorts_6 : decode cX2_testPorts 6 = .ok (.aload_n 0, 1) := by decide +kernel
theorem dX2_testPorts_7 : decode cX2_testPorts 7 = .ok (.invokevirtual 92, 3) := by decide +kernel
theorem dX2_testPorts_10 : decode cX2_testPorts 10 = .ok (.istore 7, 2) := by decide +kernel
theorem dX2_testPorts_12 : decode cX2_testPorts 12 = .ok (.aload_n 0, 1) := by decide +kernel
theorem dX2_testPorts_13 : decode cX2_testPorts 13 = .ok (.sipush 2048, 3) := by decide +kernel
theorem dX2_testPorts_16 : decode cX2_testPorts 16 = .ok (.iconst (-1), 1) := by decide +kernel
theorem dX2_testPorts_17 : decode cX2_testPorts 17 = .ok (.iload 6, 2) := by decide +kernel
theorem dX2_testPorts_19 : decode cX2_testPorts 19 = .ok (.invokevirtual 89, 3) := by decide +kernel
theorem dX2_testPorts_22 : decode cX2_testPorts 22 = .ok (.aload_n 0, 1) := by decide +kernel
theorem dX2_testPorts_23 : decode cX2_testPorts 23 = .ok (.bipush 23, 2) := by decide +kernel
theorem dX2_testPorts_25 : decode cX2_testPorts 25 = .ok (.bipush 6, 2) := by decide +kernel
theorem dX2_testPorts_27 : decode cX2_testPorts 27 = .ok (.iload 7, 2) := by decide +kernel
theorem dX2_testPorts_29 : decode cX2_testPorts 29 = .ok (.iconst (-1), 1) := by decide +kernel
theorem dX2_testPorts_30 : decode cX2_testPorts 30 = .ok (.invokevirtual 96, 3) := by decide +kernel
theorem dX2_testPorts_33 : decode cX2_testPorts 33 = .ok (.aload_n 0, 1) := by decide +kernel
theorem dX2_testPorts_34 : decode cX2_testPorts 34 = .ok (.bipush 23, 2) := by decide +kernel
theorem dX2_testPorts_36 : decode cX2_testPorts 36 = .ok (.bipush 17, 2) := by decide +kernel
theorem dX2_testPorts_38 : decode cX2_testPorts 38 = .ok (.iconst (-1), 1) := by decide +kernel
theorem dX2_testPorts_39 : decode cX2_testPorts 39 = .ok (.iload 6, 2) := by decide +kernel
theorem dX2_testPorts_41 : decode cX2_testPorts 41 = .ok (.invokevirtual 96, 3) := by decide +kernel
theorem dX2_testPorts_44 : decode cX2_testPorts 44 = .ok (.aload_n 0, 1) := by decide +kernel
theorem dX2_testPorts_45 : decode cX2_testPorts 45 = .ok (.iload 7, 2) := by decide +kernel
theorem dX2_testPorts_47 : decode cX2_testPorts 47 = .ok (.invokevirtual 100, 3) := by decide +kernel
theorem dX2_testPorts_50 : decode cX2_testPorts 50 = .ok (.aload_n 0, 1) := by decide +kernel
theorem dX2_testPorts_51 : decode cX2_testPorts 51 = .ok (.iconst (-1), 1) := by decide +kernel
theorem dX2_testPorts_52 : decode cX2_testPorts 52 = .ok (.iload 6, 2) := by decide +kernel
theorem dX2_testPorts_54 : decode cX2_testPorts 54 = .ok (.invokevirtual 104, 3) := by decide +kernel
theorem dX2_testPorts_57 : decode cX2_testPorts 57 = .ok (.aload_n 0, 1) := by decide +kernel
theorem dX2_testPorts_58 : decode cX2_testPorts 58 = .ok (.iconst 0, 1) := by decide +kernel
theorem dX2_testPorts_59 : decode cX2_testPorts 59 = .ok (.iload_n 1, 1) := by decide +kernel
theorem dX2_testPorts_60 : decode cX2_testPorts 60 = .ok (.iload_n 2, 1) := by decide +kernel
theorem dX2_testPorts_61 : decode cX2_testPorts 61 = .ok (.iload_n 3, 1) := by decide +kernel
theorem dX2_testPorts_62 : decode cX2_testPorts 62 = .ok (.iload 4, 2) := by decide +kernel
theorem dX2_testPorts_64 : decode cX2_testPorts 64 = .ok (.iload 6, 2) := by decide +kernel
theorem dX2_testPorts_66 : decode cX2_testPorts 66 = .ok (.invokevirtual 112, 3) := by decide +kernel
theorem dX2_testPorts_69 : decode cX2_testPorts 69 = .ok (.aload_n 0, 1) := by decide +kernel
theorem dX2_testPorts_70 : decode cX2_testPorts 70 = .ok (.iload 6, 2) := by decide +kernel
theorem dX2_testPorts_72 : decode cX2_testPorts 72 = .ok (.invokevirtual 100, 3) := by decide +kernel
theorem dX2_testPorts_75 : decode cX2_testPorts 75 = .ok (.aload_n 0, 1) := by decide +kernel
theorem dX2_testPorts_76 : decode cX2_testPorts 76 = .ok (.invokevirtual 92, 3) := by decide +kernel
theorem dX2_testPorts_79 : decode cX2_testPorts 79 = .ok (.istore 8, 2) := by decide +kernel
theorem dX2_testPorts_81 : decode cX2_testPorts 81 = .ok (.aload_n 0, 1) := by decide +kernel
theorem dX2_testPorts_82 : decode cX2_testPorts 82 = .ok (.ldc 84, 2) := by decide +kernel
theorem dX2_testPorts_84 : decode cX2_testPorts 84 = .ok (.iconst (-1), 1) := by decide +kernel
theorem dX2_testPorts_85 : decode cX2_testPorts 85 = .ok (.iload 5, 2) := by decide +kernel
theorem dX2_testPorts_87 : decode cX2_testPorts 87 = .ok (.invokevirtual 89, 3) := by decide +kernel
theorem dX2_testPorts_90 : decode cX2_testPorts 90 = .ok (.aload_n 0, 1) := by decide +kernel
theorem dX2_testPorts_91 : decode cX2_testPorts 91 = .ok (.bipush 20, 2) := by decide +kernel
theorem dX2_testPorts_93 : decode cX2_testPorts 93 = .ok (.bipush 6, 2) := by decide +kernel
theorem dX2_testPorts_95 : decode cX2_testPorts 95 = .ok (.iload 8, 2) := by decide +kernel
theorem dX2_testPorts_97 : decode cX2_testPorts 97 = .ok (.iconst (-1), 1) := by decide +kernel
theorem dX2_testPorts_98 : decode cX2_testPorts 98 = .ok (.invokevirtual 96, 3) := by decide +kernel
theorem dX2_testPorts_101 : decode cX2_testPorts 101 = .ok (.aload_n 0, 1) := by decide +kernel
theorem dX2_testPorts_102 : decode cX2_testPorts 102 = .ok (.bipush 20, 2) := by decide +kernel
theorem dX2_testPorts_104 : decode cX2_testPorts 104 = .ok (.bipush 17, 2) := by decide +kernel
theorem dX2_testPorts_106 : decode cX2_testPorts 106 = .ok (.iconst (-1), 1) := by decide +kernel
theorem dX2_testPorts_107 : decode cX2_testPorts 107 = .ok (.iload 5, 2) := by decide +kernel
theorem dX2_testPorts_109 : decode cX2_testPorts 109 = .ok (.invokevirtual 96, 3) := by decide +kernel
theorem dX2_testPorts_112 : decode cX2_testPorts 112 = .ok (.aload_n 0, 1) := by decide +kernel
theorem dX2_testPorts_113 : decode cX2_testPorts 113 = .ok (.iload 8, 2) := by decide +kernel
theorem dX2_testPorts_115 : decode cX2_testPorts 115 = .ok (.invokevirtual 100, 3) := by decide +kernel
theorem dX2_testPorts_118 : decode cX2_testPorts 118 = .ok (.aload_n 0, 1) := by decide +kernel
theorem dX2_testPorts_119 : decode cX2_testPorts 119 = .ok (.iconst 1, 1) := by decide +kernel
theorem dX2_testPorts_120 : decode cX2_testPorts 120 = .ok (.iload_n 1, 1) := by decide +kernel
theorem dX2_testPorts_121 : decode cX2_testPorts 121 = .ok (.iload_n 2, 1) := by decide +kernel
theorem dX2_testPorts_122 : decode cX2_testPorts 122 = .ok (.iload_n 3, 1) := by decide +kernel
theorem dX2_testPorts_123 : decode cX2_testPorts 123 = .ok (.iload 4, 2) := by decide +kernel
theorem dX2_testPorts_125 : decode cX2_testPorts 125 = .ok (.iload 5, 2) := by decide +kernel
theorem dX2_testPorts_127 : decode cX2_testPorts 127 = .ok (.invokevirtual 112, 3) := by decide +kernel
theorem dX2_testPorts_130 : decode cX2_testPorts 130 = .ok (.return_, 1) := by decide +kernel
theorem dX2_testSides_0 : decode cX2_testSides 0 = .ok (.iload_n 2, 1) := by decide +kernel
theorem dX2_testSides_1 : decode cX2_testSides 1 = .ok (.ifCond .ne 10, 3) := by decide +kernel
theorem dX2_testSides_4 : decode cX2_testSides 4 = .ok (.aload_n 0, 1) := by decide +kernel
theorem dX2_testSides_5 : decode cX2_testSides 5 = .ok (.invokevirtual 92, 3) := by decide +kernel
theorem dX2_testSides_8 : decode cX2_testSides 8 = .ok (.goto 5, 3) := by decide +kernel
theorem dX2_testSides_11 : decode cX2_testSides 11 = .ok (.iload 6, 2) := by decide +kernel
theorem dX2_testSides_13 : decode cX2_testSides 13 = .ok (.istore 7, 2) := by decide +kernel
theorem dX2_testSides_15 : decode cX2_testSides 15 = .ok (.iload_n 2, 1) := by decide +kernel
theorem dX2_testSides_16 : decode cX2_testSides 16 = .ok (.iconst 2, 1) := by decide +kernel
theorem dX2_testSides_17 : decode cX2_testSides 17 = .ok (.if_icmp .eq 25, 3) := by decide +kernel
theorem dX2_testSides_20 : decode cX2_testSides 20 = .ok (.aload_n 0, 1) := by decide +kernel
theorem dX2_testSides_21 : decode cX2_testSides 21 = .ok (.iload_n 1, 1) := by decide +kernel
theorem dX2_testSides_22 : decode cX2_testSides 22 = .ok (.ifCond .eq 8, 3) := by decide +kernel
theorem dX2_testSides_25 : decode cX2_testSides 25 = .ok (.bipush 54, 2) := by decide +kernel
theorem dX2_testSides_27 : decode cX2_testSides 27 = .ok (.goto 5, 3) := by decide +kernel
theorem dX2_testSides_30 : decode cX2_testSides 30 = .ok (.bipush 14, 2) := by decide +kernel
theorem dX2_testSides_32 : decode cX2_testSides 32 = .ok (.iload_n 3, 1) := by decide +kernel
theorem dX2_testSides_33 : decode cX2_testSides 33 = .ok (.iload 4, 2) := by decide +kernel
theorem dX2_testSides_35 : decode cX2_testSides 35 = .ok (.iload 5, 2) := by decide +kernel
theorem dX2_testSides_37 : decode cX2_testSides 37 = .ok (.iload 7, 2) := by decide +kernel
theorem dX2_testSides_39 : decode cX2_testSides 39 = .ok (.invokevirtual 116, 3) := by decide +kernel
theorem dX2_testSides_42 : decode cX2_testSides 42 = .ok (.iload_n 2, 1) := by decide +kernel
theorem dX2_testSides_43 : decode cX2_testSides 43 = .ok (.ifCond .ne 9, 3) := by decide +kernel
theorem dX2_testSides_46 : decode cX2_testSides 46 = .ok (.aload_n 0, 1) := by decide +kernel
theorem dX2_testSides_47 : decode cX2_testSides 47 = .ok (.iload 7, 2) := by decide +kernel
theorem dX2_testSides_49 : decode cX2_testSides 49 = .ok (.invokevirtual 100, 3) := by decide +kernel
theorem dX2_testSides_52 : decode cX2_testSides 52 = .ok (.iload_n 2, 1) := by decide +kernel
theorem dX2_testSides_53 : decode cX2_testSides 53 = .ok (.iconst 1, 1) := by decide +kernel
theorem dX2_testSides_54 : decode cX2_testSides 54 = .ok (.if_icmp .eq 25, 3) := by decide +kernel
theorem dX2_testSides_57 : decode cX2_testSides 57 = .ok (.aload_n 0, 1) := by decide +kernel
theorem dX2_testSides_58 : decode cX2_testSides 58 = .ok (.iload_n 1, 1) := by decide +kernel
theorem dX2_testSides_59 : decode cX2_testSides 59 = .ok (.ifCond .eq 8, 3) := by decide +kernel
theorem dX2_testSides_62 : decode cX2_testSides 62 = .ok (.bipush 56, 2) := by decide +kernel
theorem dX2_testSides_64 : decode cX2_testSides 64 = .ok (.goto 5, 3) := by decide +kernel
theorem dX2_testSides_67 : decode cX2_testSides 67 = .ok (.bipush 16, 2) := by decide +kernel
theorem dX2_testSides_69 : decode cX2_testSides 69 = .ok (.iload_n 3, 1) := by decide +kernel
theorem dX2_testSides_70 : decode cX2_testSides 70 = .ok (.iload 4, 2) := by decide +kernel
theorem dX2_testSides_72 : decode cX2_testSides 72 = .ok (.iload 5, 2) := by decide +kernel
theorem dX2_testSides_74 : decode cX2_testSides 74 = .ok (.iload 6, 2) := by decide +kernel
theorem dX2_testSides_76 : decode cX2_testSides 76 = .ok (.invokevirtual 116, 3) := by decide +kernel
theorem dX2_testSides_79 : decode cX2_testSides 79 = .ok (.return_, 1) := by decide +kernel
theorem dX2_testPort_0 : decode cX2_testPort 0 = .ok (.aload_n 0, 1) := by decide +kernel
theorem dX2_testPort_1 : decode cX2_testPort 1 = .ok (.getfield 53, 3) := by decide +kernel
theorem dX2_testPort_4 : decode cX2_testPort 4 = .ok (.istore 6, 2) := by decide +kernel
theorem dX2_testPort_6 : decode cX2_testPort 6 = .ok (.aload_n 0, 1) := by decide +kernel
theorem dX2_testPort_7 : decode cX2_testPort 7 = .ok (.iload_n 1, 1) := by decide +kernel
theorem dX2_testPort_8 : decode cX2_testPort 8 = .ok (.invokevirtual 119, 3) := by decide +kernel
theorem dX2_testPort_11 : decode cX2_testPort 11 = .ok (.iload_n 3, 1) := by decide +kernel
theorem dX2_testPort_12 : decode cX2_testPort 12 = .ok (.ifCond .ge 16, 3) := by decide +kernel
theorem dX2_testPort_15 : decode cX2_testPort 15 = .ok (.aload_n 0, 1) := by decide +kernel
theorem dX2_testPort_16 : decode cX2_testPort 16 = .ok (.iload 6, 2) := by decide +kernel
theorem dX2_testPort_18 : decode cX2_testPort 18 = .ok (.iconst 1, 1) := by decide +kernel
theorem dX2_testPort_19 : decode cX2_testPort 19 = .ok (.iload_n 2, 1) := by decide +kernel
theorem dX2_testPort_20 : decode cX2_testPort 20 = .ok (.iload 4, 2) := by decide +kernel
theorem dX2_testPort_22 : decode cX2_testPort 22 = .ok (.iload 5, 2) := by decide +kernel
theorem dX2_testPort_24 : decode cX2_testPort 24 = .ok (.invokevirtual 81, 3) := by decide +kernel
theorem dX2_testPort_27 : decode cX2_testPort 27 = .ok (.return_, 1) := by decide +kernel
theorem dX2_testPort_28 : decode cX2_testPort 28 = .ok (.aload_n 0, 1) := by decide +kernel
theorem dX2_testPort_29 : decode cX2_testPort 29 = .ok (.iload 6, 2) := by decide +kernel
theorem dX2_testPort_31 : decode cX2_testPort 31 = .ok (.iconst 3, 1) := by decide +kernel
theorem dX2_testPort_32 : decode cX2_testPort 32 = .ok (.iload_n 2, 1) := by decide +kernel
theorem dX2_testPort_33 : decode cX2_testPort 33 = .ok (.iconst (-1), 1) := by decide +kernel
theorem dX2_testPort_34 : decode cX2_testPort 34 = .ok (.iload 5, 2) := by decide +kernel
theorem dX2_testPort_36 : decode cX2_testPort 36 = .ok (.invokevirtual 81, 3) := by decide +kernel
theorem dX2_testPort_39 : decode cX2_testPort 39 = .ok (.aload_n 0, 1) := by decide +kernel
theorem dX2_testPort_40 : decode cX2_testPort 40 = .ok (.getfield 53, 3) := by decide +kernel
theorem dX2_testPort_43 : decode cX2_testPort 43 = .ok (.istore 6, 2) := by decide +kernel
theorem dX2_testPort_45 : decode cX2_testPort 45 = .ok (.aload_n 0, 1) := by decide +kernel
theorem dX2_testPort_46 : decode cX2_testPort 46 = .ok (.iload_n 1, 1) := by decide +kernel
theorem dX2_testPort_47 : decode cX2_testPort 47 = .ok (.invokevirtual 119, 3) := by decide +kernel
theorem dX2_testPort_50 : decode cX2_testPort 50 = .ok (.aload_n 0, 1) := by decide +kernel
theorem dX2_testPort_51 : decode cX2_testPort 51 = .ok (.iload 6, 2) := by decide +kernel
theorem dX2_testPort_53 : decode cX2_testPort 53 = .ok (.bipush 11, 2) := by decide +kernel
theorem dX2_testPort_55 : decode cX2_testPort 55 = .ok (.iload_n 3, 1) := by decide +kernel
theorem dX2_testPort_56 : decode cX2_testPort 56 = .ok (.iload 4, 2) := by decide +kernel
theorem dX2_testPort_58 : decode cX2_testPort 58 = .ok (.iload 5, 2) := by decide +kernel
theorem dX2_testPort_60 : decode cX2_testPort 60 = .ok (.invokevirtual 81, 3) := by decide +kernel
theorem dX2_testPort_63 : decode cX2_testPort 63 = .ok (.return_, 1) := by decide +kernel
theorem dX2_portItems_0 : decode cX2_portItems 0 = .ok (.iload_n 1, 1) := by decide +kernel
theorem dX2_portItems_1 : decode cX2_portItems 1 = .ok (.bipush 54, 2) := by decide +kernel
theorem dX2_portItems_3 : decode cX2_portItems 3 = .ok (.if_icmp .lt 12, 3) := by decide +kernel
theorem dX2_portItems_6 : decode cX2_portItems 6 = .ok (.aload_n 0, 1) := by decide +kernel
theorem dX2_portItems_7 : decode cX2_portItems 7 = .ok (.bipush 6, 2) := by decide +kernel
theorem dX2_portItems_9 : decode cX2_portItems 9 = .ok (.iconst 2, 1) := by decide +kernel
theorem dX2_portItems_10 : decode cX2_portItems 10 = .ok (.iload_n 1, 1) := by decide +kernel
theorem dX2_portItems_11 : decode cX2_portItems 11 = .ok (.invokevirtual 66, 3) := by decide +kernel
theorem dX2_portItems_14 : decode cX2_portItems 14 = .ok (.return_, 1) := by decide +kernel
theorem dX2_portItems_15 : decode cX2_portItems 15 = .ok (.aload_n 0, 1) := by decide +kernel
theorem dX2_portItems_16 : decode cX2_portItems 16 = .ok (.bipush 6, 2) := by decide +kernel
theorem dX2_portItems_18 : decode cX2_portItems 18 = .ok (.iconst 1, 1) := by decide +kernel
theorem dX2_portItems_19 : decode cX2_portItems 19 = .ok (.bipush 14, 2) := by decide +kernel
theorem dX2_portItems_21 : decode cX2_portItems 21 = .ok (.invokevirtual 66, 3) := by decide +kernel
theorem dX2_portItems_24 : decode cX2_portItems 24 = .ok (.aload_n 0, 1) := by decide +kernel
theorem dX2_portItems_25 : decode cX2_portItems 25 = .ok (.iconst 3, 1) := by decide +kernel
theorem dX2_portItems_26 : decode cX2_portItems 26 = .ok (.iconst 5, 1) := by decide +kernel
theorem dX2_portItems_27 : decode cX2_portItems 27 = .ok (.bipush 15, 2) := by decide +kernel
theorem dX2_portItems_29 : decode cX2_portItems 29 = .ok (.invokevirtual 66, 3) := by decide +kernel
theorem dX2_portItems_32 : decode cX2_portItems 32 = .ok (.aload_n 0, 1) := by decide +kernel
theorem dX2_portItems_33 : decode cX2_portItems 33 = .ok (.iconst 3, 1) := by decide +kernel
theorem dX2_portItems_34 : decode cX2_portItems 34 = .ok (.bipush 6, 2) := by decide +kernel
theorem dX2_portItems_36 : decode cX2_portItems 36 = .ok (.iconst 2, 1) := by decide +kernel
theorem dX2_portItems_37 : decode cX2_portItems 37 = .ok (.invokevirtual 66, 3) := by decide +kernel
theorem dX2_portItems_40 : decode cX2_portItems 40 = .ok (.aload_n 0, 1) := by decide +kernel
theorem dX2_portItems_41 : decode cX2_portItems 41 = .ok (.bipush 7, 2) := by decide +kernel
theorem dX2_portItems_43 : decode cX2_portItems 43 = .ok (.iconst 2, 1) := by decide +kernel
theorem dX2_portItems_44 : decode cX2_portItems 44 = .ok (.iload_n 1, 1) := by decide +kernel
theorem dX2_portItems_45 : decode cX2_portItems 45 = .ok (.invokevirtual 66, 3) := by decide +kernel
theorem dX2_portItems_48 : decode cX2_portItems 48 = .ok (.return_, 1) := by decide +kernel
theorem dX2_finish_0 : decode cX2_finish 0 = .ok (.aload_n 0, 1) := by decide +kernel
theorem dX2_finish_1 : decode cX2_finish 1 = .ok (.invokevirtual 122, 3) := by decide +kernel
theorem dX2_finish_4 : decode cX2_finish 4 = .ok (.iconst 0, 1) := by decide +kernel
theorem dX2_finish_5 : decode cX2_finish 5 = .ok (.istore_n 1, 1) := by decide +kernel
theorem dX2_finish_6 : decode cX2_finish 6 = .ok (.iload_n 1, 1) := by decide +kernel
theorem dX2_finish_7 : decode cX2_finish 7 = .ok (.aload_n 0, 1) := by decide +kernel
theorem dX2_finish_8 : decode cX2_finish 8 = .ok (.getfield 57, 3) := by decide +kernel
theorem dX2_finish_11 : decode cX2_finish 11 = .ok (.if_icmp .ge 41, 3) := by decide +kernel
theorem dX2_finish_14 : decode cX2_finish 14 = .ok (.aload_n 0, 1) := by decide +kernel
theorem dX2_finish_15 : decode cX2_finish 15 = .ok (.iload_n 1, 1) := by decide +kernel
theorem dX2_finish_16 : decode cX2_finish 16 = .ok (.invokevirtual 125, 3) := by decide +kernel
theorem dX2_finish_19 : decode cX2_finish 19 = .ok (.ifCond .eq 27, 3) := by decide +kernel
theorem dX2_finish_22 : decode cX2_finish 22 = .ok (.aload_n 0, 1) := by decide +kernel
theorem dX2_finish_23 : decode cX2_finish 23 = .ok (.getfield 33, 3) := by decide +kernel
theorem dX2_finish_26 : decode cX2_finish 26 = .ok (.iload_n 1, 1) := by decide +kernel
theorem dX2_finish_27 : decode cX2_finish 27 = .ok (.aload_n 0, 1) := by decide +kernel
theorem dX2_finish_28 : decode cX2_finish 28 = .ok (.iload_n 1, 1) := by decide +kernel
theorem dX2_finish_29 : decode cX2_finish 29 = .ok (.iconst 1, 1) := by decide +kernel
theorem dX2_finish_30 : decode cX2_finish 30 = .ok (.invokevirtual 129, 3) := by decide +kernel
theorem dX2_finish_33 : decode cX2_finish 33 = .ok (.iastore, 1) := by decide +kernel
theorem dX2_finish_34 : decode cX2_finish 34 = .ok (.aload_n 0, 1) := by decide +kernel
theorem dX2_finish_35 : decode cX2_finish 35 = .ok (.getfield 36, 3) := by decide +kernel
theorem dX2_finish_38 : decode cX2_finish 38 = .ok (.iload_n 1, 1) := by decide +kernel
theorem dX2_finish_39 : decode cX2_finish 39 = .ok (.aload_n 0, 1) := by decide +kernel
theorem dX2_finish_40 : decode cX2_finish 40 = .ok (.iload_n 1, 1) := by decide +kernel
theorem dX2_finish_41 : decode cX2_finish 41 = .ok (.iconst 0, 1) := by decide +kernel
theorem dX2_finish_42 : decode cX2_finish 42 = .ok (.invokevirtual 129, 3) := by decide +kernel
theorem dX2_finish_45 : decode cX2_finish 45 = .ok (.iastore, 1) := by decide +kernel
theorem dX2_finish_46 : decode cX2_finish 46 = .ok (.iinc 1 1, 3) := by decide +kernel
theorem dX2_finish_49 : decode cX2_finish 49 = .ok (.goto (-43), 3) := by decide +kernel
theorem dX2_finish_52 : decode cX2_finish 52 = .ok (.aload_n 0, 1) := by decide +kernel
theorem dX2_finish_53 : decode cX2_finish 53 = .ok (.invokevirtual 133, 3) := by decide +kernel
theorem dX2_finish_56 : decode cX2_finish 56 = .ok (.return_, 1) := by decide +kernel
theorem dX2_placeWays_0 : decode cX2_placeWays 0 = .ok (.aload_n 0, 1) := by decide +kernel
theorem dX2_placeWays_1 : decode cX2_placeWays 1 = .ok (.getfield 43, 3) := by decide +kernel
theorem dX2_placeWays_4 : decode cX2_placeWays 4 = .ok (.iconst 0, 1) := by decide +kernel
theorem dX2_placeWays_5 : decode cX2_placeWays 5 = .ok (.aload_n 0, 1) := by decide +kernel
theorem dX2_placeWays_6 : decode cX2_placeWays 6 = .ok (.getfield 57, 3) := by decide +kernel
theorem dX2_placeWays_9 : decode cX2_placeWays 9 = .ok (.iastore, 1) := by decide +kernel
theorem dX2_placeWays_10 : decode cX2_placeWays 10 = .ok (.aload_n 0, 1) := by decide +kernel
theorem dX2_placeWays_11 : decode cX2_placeWays 11 = .ok (.getfield 43, 3) := by decide +kernel
theorem dX2_placeWays_14 : decode cX2_placeWays 14 = .ok (.iconst 1, 1) := by decide +kernel
theorem dX2_placeWays_15 : decode cX2_placeWays 15 = .ok (.aload_n 0, 1) := by decide +kernel
theorem dX2_placeWays_16 : decode cX2_placeWays 16 = .ok (.getfield 57, 3) := by decide +kernel
theorem dX2_placeWays_19 : decode cX2_placeWays 19 = .ok (.iconst 1, 1) := by decide +kernel
theorem dX2_placeWays_20 : decode cX2_placeWays 20 = .ok (.iadd, 1) := by decide +kernel
theorem dX2_placeWays_21 : decode cX2_placeWays 21 = .ok (.iastore, 1) := by decide +kernel
theorem dX2_placeWays_22 : decode cX2_placeWays 22 = .ok (.iconst 2, 1) := by decide +kernel
theorem dX2_placeWays_23 : decode cX2_placeWays 23 = .ok (.istore_n 1, 1) := by decide +kernel
theorem dX2_placeWays_24 : decode cX2_placeWays 24 = .ok (.iload_n 1, 1) := by decide +kernel
theorem dX2_placeWays_25 : decode cX2_placeWays 25 = .ok (.aload_n 0, 1) := by decide +kernel
theorem dX2_placeWays_26 : decode cX2_placeWays 26 = .ok (.getfield 63, 3) := by decide +kernel
theorem dX2_placeWays_29 : decode cX2_placeWays 29 = .ok (.if_icmp .ge 39, 3) := by decide +kernel
theorem dX2_placeWays_32 : decode cX2_placeWays 32 = .ok (.iconst (-1), 1) := by decide +kernel
theorem dX2_placeWays_33 : decode cX2_placeWays 33 = .ok (.aload_n 0, 1) := by decide +kernel
theorem dX2_placeWays_34 : decode cX2_placeWays 34 = .ok (.getfield 43, 3) := by decide +kernel
theorem dX2_placeWays_37 : decode cX2_placeWays 37 = .ok (.iload_n 1, 1) := by decide +kernel
theorem dX2_placeWays_38 : decode cX2_placeWays 38 = .ok (.iaload, 1) := by decide +kernel
theorem dX2_placeWays_39 : decode cX2_placeWays 39 = .ok (.isub, 1) := by decide +kernel
theorem dX2_placeWays_40 : decode cX2_placeWays 40 = .ok (.istore_n 2, 1) := by decide +kernel
theorem dX2_placeWays_41 : decode cX2_placeWays 41 = .ok (.iload_n 2, 1) := by decide +kernel
theorem dX2_placeWays_42 : decode cX2_placeWays 42 = .ok (.ifCond .lt 20, 3) := by decide +kernel
theorem dX2_placeWays_45 : decode cX2_placeWays 45 = .ok (.iload_n 2, 1) := by decide +kernel
theorem dX2_placeWays_46 : decode cX2_placeWays 46 = .ok (.iload_n 1, 1) := by decide +kernel
theorem dX2_placeWays_47 : decode cX2_placeWays 47 = .ok (.if_icmp .ge 15, 3) := by decide +kernel
theorem dX2_placeWays_50 : decode cX2_placeWays 50 = .ok (.aload_n 0, 1) := by decide +kernel
theorem dX2_placeWays_51 : decode cX2_placeWays 51 = .ok (.getfield 43, 3) := by decide +kernel
theorem dX2_placeWays_54 : decode cX2_placeWays 54 = .ok (.iload_n 1, 1) := by decide +kernel
theorem dX2_placeWays_55 : decode cX2_placeWays 55 = .ok (.aload_n 0, 1) := by decide +kernel
theorem dX2_placeWays_56 : decode cX2_placeWays 56 = .ok (.getfield 43, 3) := by decide +kernel
theorem dX2_placeWays_59 : decode cX2_placeWays 59 = .ok (.iload_n 2, 1) := by decide +kernel
theorem dX2_placeWays_60 : decode cX2_placeWays 60 = .ok (.iaload, 1) := by decide +kernel
theorem dX2_placeWays_61 : decode cX2_placeWays 61 = .ok (.iastore, 1) := by decide +kernel
theorem dX2_placeWays_62 : decode cX2_placeWays 62 = .ok (.iinc 1 1, 3) := by decide +kernel
theorem dX2_placeWays_65 : decode cX2_placeWays 65 = .ok (.goto (-41), 3) := by decide +kernel
theorem dX2_placeWays_68 : decode cX2_placeWays 68 = .ok (.iconst 0, 1) := by decide +kernel
theorem dX2_placeWays_69 : decode cX2_placeWays 69 = .ok (.istore_n 1, 1) := by decide +kernel
theorem dX2_placeWays_70 : decode cX2_placeWays 70 = .ok (.iload_n 1, 1) := by decide +kernel
theorem dX2_placeWays_71 : decode cX2_placeWays 71 = .ok (.aload_n 0, 1) := by decide +kernel
theorem dX2_placeWays_72 : decode cX2_placeWays 72 = .ok (.getfield 57, 3) := by decide +kernel
theorem dX2_placeWays_75 : decode cX2_placeWays 75 = .ok (.if_icmp .ge 43, 3) := by decide +kernel
theorem dX2_placeWays_78 : decode cX2_placeWays 78 = .ok (.aload_n 0, 1) := by decide +kernel
theorem dX2_placeWays_79 : decode cX2_placeWays 79 = .ok (.getfield 33, 3) := by decide +kernel
theorem dX2_placeWays_82 : decode cX2_placeWays 82 = .ok (.iload_n 1, 1) := by decide +kernel
theorem dX2_placeWays_83 : decode cX2_placeWays 83 = .ok (.aload_n 0, 1) := by decide +kernel
theorem dX2_placeWays_84 : decode cX2_placeWays 84 = .ok (.aload_n 0, 1) := by decide +kernel
theorem dX2_placeWays_85 : decode cX2_placeWays 85 = .ok (.getfield 33, 3) := by decide +kernel
theorem dX2_placeWays_88 : decode cX2_placeWays 88 = .ok (.iload_n 1, 1) := by decide +kernel
theorem dX2_placeWays_89 : decode cX2_placeWays 89 = .ok (.iaload, 1) := by decide +kernel
theorem dX2_placeWays_90 : decode cX2_placeWays 90 = .ok (.iload_n 1, 1) := by decide +kernel
theorem dX2_placeWays_91 : decode cX2_placeWays 91 = .ok (.invokevirtual 136, 3) := by decide +kernel
theorem dX2_placeWays_94 : decode cX2_placeWays 94 = .ok (.iastore, 1) := by decide +kernel
theorem dX2_placeWays_95 : decode cX2_placeWays 95 = .ok (.aload_n 0, 1) := by decide +kernel
theorem dX2_placeWays_96 : decode cX2_placeWays 96 = .ok (.getfield 36, 3) := by decide +kernel
theorem dX2_placeWays_99 : decode cX2_placeWays 99 = .ok (.iload_n 1, 1) := by decide +kernel
theorem dX2_placeWays_100 : decode cX2_placeWays 100 = .ok (.aload_n 0, 1) := by decide +kernel
theorem dX2_placeWays_101 : decode cX2_placeWays 101 = .ok (.aload_n 0, 1) := by decide +kernel
theorem dX2_placeWays_102 : decode cX2_placeWays 102 = .ok (.getfield 36, 3) := by decide +kernel
theorem dX2_placeWays_105 : decode cX2_placeWays 105 = .ok (.iload_n 1, 1) := by decide +kernel
theorem dX2_placeWays_106 : decode cX2_placeWays 106 = .ok (.iaload, 1) := by decide +kernel
theorem dX2_placeWays_107 : decode cX2_placeWays 107 = .ok (.iload_n 1, 1) := by decide +kernel
theorem dX2_placeWays_108 : decode cX2_placeWays 108 = .ok (.invokevirtual 136, 3) := by decide +kernel
theorem dX2_placeWays_111 : decode cX2_placeWays 111 = .ok (.iastore, 1) := by decide +kernel
theorem dX2_placeWays_112 : decode cX2_placeWays 112 = .ok (.iinc 1 1, 3) := by decide +kernel
theorem dX2_placeWays_115 : decode cX2_placeWays 115 = .ok (.goto (-45), 3) := by decide +kernel
theorem dX2_placeWays_118 : decode cX2_placeWays 118 = .ok (.return_, 1) := by decide +kernel
theorem dX2_placeOf_0 : decode cX2_placeOf 0 = .ok (.iload_n 1, 1) := by decide +kernel
theorem dX2_placeOf_1 : decode cX2_placeOf 1 = .ok (.ifCond .lt 11, 3) := by decide +kernel
theorem dX2_placeOf_4 : decode cX2_placeOf 4 = .ok (.iload_n 1, 1) := by decide +kernel
theorem dX2_placeOf_5 : decode cX2_placeOf 5 = .ok (.aload_n 0, 1) := by decide +kernel
theorem dX2_placeOf_6 : decode cX2_placeOf 6 = .ok (.getfield 63, 3) := by decide +kernel
theorem dX2_placeOf_9 : decode cX2_placeOf 9 = .ok (.if_icmp .lt 9, 3) := by decide +kernel
theorem dX2_placeOf_12 : decode cX2_placeOf 12 = .ok (.iload_n 2, 1) := by decide +kernel
theorem dX2_placeOf_13 : decode cX2_placeOf 13 = .ok (.iconst 1, 1) := by decide +kernel
theorem dX2_placeOf_14 : decode cX2_placeOf 14 = .ok (.iadd, 1) := by decide +kernel
theorem dX2_placeOf_15 : decode cX2_placeOf 15 = .ok (.goto 9, 3) := by decide +kernel
theorem dX2_placeOf_18 : decode cX2_placeOf 18 = .ok (.aload_n 0, 1) := by decide +kernel
theorem dX2_placeOf_19 : decode cX2_placeOf 19 = .ok (.getfield 43, 3) := by decide +kernel
theorem dX2_placeOf_22 : decode cX2_placeOf 22 = .ok (.iload_n 1, 1) := by decide +kernel
theorem dX2_placeOf_23 : decode cX2_placeOf 23 = .ok (.iaload, 1) := by decide +kernel
theorem dX2_placeOf_24 : decode cX2_placeOf 24 = .ok (.ireturn, 1) := by decide +kernel
theorem dX2_shortened_0 : decode cX2_shortened 0 = .ok (.iload_n 2, 1) := by decide +kernel
theorem dX2_shortened_1 : decode cX2_shortened 1 = .ok (.ifCond .eq 12, 3) := by decide +kernel
theorem dX2_shortened_4 : decode cX2_shortened 4 = .ok (.aload_n 0, 1) := by decide +kernel
theorem dX2_shortened_5 : decode cX2_shortened 5 = .ok (.getfield 33, 3) := by decide +kernel
theorem dX2_shortened_8 : decode cX2_shortened 8 = .ok (.iload_n 1, 1) := by decide +kernel
theorem dX2_shortened_9 : decode cX2_shortened 9 = .ok (.iaload, 1) := by decide +kernel
theorem dX2_shortened_10 : decode cX2_shortened 10 = .ok (.goto 9, 3) := by decide +kernel
theorem dX2_shortened_13 : decode cX2_shortened 13 = .ok (.aload_n 0, 1) := by decide +kernel
theorem dX2_shortened_14 : decode cX2_shortened 14 = .ok (.getfield 36, 3) := by decide +kernel
theorem dX2_shortened_17 : decode cX2_shortened 17 = .ok (.iload_n 1, 1) := by decide +kernel
theorem dX2_shortened_18 : decode cX2_shortened 18 = .ok (.iaload, 1) := by decide +kernel
theorem dX2_shortened_19 : decode cX2_shortened 19 = .ok (.istore_n 3, 1) := by decide +kernel
theorem dX2_shortened_20 : decode cX2_shortened 20 = .ok (.iconst 0, 1) := by decide +kernel
theorem dX2_shortened_21 : decode cX2_shortened 21 = .ok (.istore 4, 2) := by decide +kernel
theorem dX2_shortened_23 : decode cX2_shortened 23 = .ok (.iload 4, 2) := by decide +kernel
theorem dX2_shortened_25 : decode cX2_shortened 25 = .ok (.aload_n 0, 1) := by decide +kernel
theorem dX2_shortened_26 : decode cX2_shortened 26 = .ok (.getfield 57, 3) := by decide +kernel
theorem dX2_shortened_29 : decode cX2_shortened 29 = .ok (.if_icmp .ge 104, 3) := by decide +kernel
theorem dX2_shortened_32 : decode cX2_shortened 32 = .ok (.iload_n 3, 1) := by decide +kernel
theorem dX2_shortened_33 : decode cX2_shortened 33 = .ok (.aload_n 0, 1) := by decide +kernel
theorem dX2_shortened_34 : decode cX2_shortened 34 = .ok (.getfield 57, 3) := by decide +kernel
theorem dX2_shortened_37 : decode cX2_shortened 37 = .ok (.if_icmp .ge 96, 3) := by decide +kernel
theorem dX2_shortened_40 : decode cX2_shortened 40 = .ok (.aload_n 0, 1) := by decide +kernel
theorem dX2_shortened_41 : decode cX2_shortened 41 = .ok (.iload_n 3, 1) := by decide +kernel
theorem dX2_shortened_42 : decode cX2_shortened 42 = .ok (.invokevirtual 125, 3) := by decide +kernel
theorem dX2_shortened_45 : decode cX2_shortened 45 = .ok (.ifCond .eq 12, 3) := by decide +kernel
theorem dX2_shortened_48 : decode cX2_shortened 48 = .ok (.aload_n 0, 1) := by decide +kernel
theorem dX2_shortened_49 : decode cX2_shortened 49 = .ok (.iload_n 1, 1) := by decide +kernel
theorem dX2_shortened_50 : decode cX2_shortened 50 = .ok (.iload_n 3, 1) := by decide +kernel
theorem dX2_shortened_51 : decode cX2_shortened 51 = .ok (.invokevirtual 140, 3) := by decide +kernel
theorem dX2_shortened_54 : decode cX2_shortened 54 = .ok (.ifCond .ne 5, 3) := by decide +kernel
theorem dX2_shortened_57 : decode cX2_shortened 57 = .ok (.iload_n 3, 1) := by decide +kernel
theorem dX2_shortened_58 : decode cX2_shortened 58 = .ok (.ireturn, 1) := by decide +kernel
theorem dX2_shortened_59 : decode cX2_shortened 59 = .ok (.aload_n 0, 1) := by decide +kernel
theorem dX2_shortened_60 : decode cX2_shortened 60 = .ok (.getfield 18, 3) := by decide +kernel
theorem dX2_shortened_63 : decode cX2_shortened 63 = .ok (.aload_n 0, 1) := by decide +kernel
theorem dX2_shortened_64 : decode cX2_shortened 64 = .ok (.getfield 24, 3) := by decide +kernel
theorem dX2_shortened_67 : decode cX2_shortened 67 = .ok (.iload_n 1, 1) := by decide +kernel
theorem dX2_shortened_68 : decode cX2_shortened 68 = .ok (.iaload, 1) := by decide +kernel
theorem dX2_shortened_69 : decode cX2_shortened 69 = .ok (.iaload, 1) := by decide +kernel
theorem dX2_shortened_70 : decode cX2_shortened 70 = .ok (.aload_n 0, 1) := by decide +kernel
theorem dX2_shortened_71 : decode cX2_shortened 71 = .ok (.getfield 18, 3) := by decide +kernel
theorem dX2_shortened_74 : decode cX2_shortened 74 = .ok (.aload_n 0, 1) := by decide +kernel
theorem dX2_shortened_75 : decode cX2_shortened 75 = .ok (.getfield 24, 3) := by decide +kernel
theorem dX2_shortened_78 : decode cX2_shortened 78 = .ok (.iload_n 3, 1) := by decide +kernel
theorem dX2_shortened_79 : decode cX2_shortened 79 = .ok (.iaload, 1) := by decide +kernel
theorem dX2_shortened_80 : decode cX2_shortened 80 = .ok (.iaload, 1) := by decide +kernel
theorem dX2_shortened_81 : decode cX2_shortened 81 = .ok (.if_icmp .ne 7, 3) := by decide +kernel
theorem dX2_shortened_84 : decode cX2_shortened 84 = .ok (.iconst 1, 1) := by decide +kernel
theorem dX2_shortened_85 : decode cX2_shortened 85 = .ok (.goto 4, 3) := by decide +kernel
theorem dX2_shortened_88 : decode cX2_shortened 88 = .ok (.iconst 0, 1) := by decide +kernel
theorem dX2_shortened_89 : decode cX2_shortened 89 = .ok (.istore 5, 2) := by decide +kernel
theorem dX2_shortened_91 : decode cX2_shortened 91 = .ok (.iload_n 2, 1) := by decide +kernel
theorem dX2_shortened_92 : decode cX2_shortened 92 = .ok (.ifCond .ne 10, 3) := by decide +kernel
theorem dX2_shortened_95 : decode cX2_shortened 95 = .ok (.iload 5, 2) := by decide +kernel
theorem dX2_shortened_97 : decode cX2_shortened 97 = .ok (.ifCond .ne 5, 3) := by decide +kernel
theorem dX2_shortened_100 : decode cX2_shortened 100 = .ok (.iload_n 3, 1) := by decide +kernel
theorem dX2_shortened_101 : decode cX2_shortened 101 = .ok (.ireturn, 1) := by decide +kernel
theorem dX2_shortened_102 : decode cX2_shortened 102 = .ok (.iload_n 2, 1) := by decide +kernel
theorem dX2_shortened_103 : decode cX2_shortened 103 = .ok (.ifCond .eq 17, 3) := by decide +kernel
theorem dX2_shortened_106 : decode cX2_shortened 106 = .ok (.iload 5, 2) := by decide +kernel
theorem dX2_shortened_108 : decode cX2_shortened 108 = .ok (.ifCond .eq 12, 3) := by decide +kernel
theorem dX2_shortened_111 : decode cX2_shortened 111 = .ok (.aload_n 0, 1) := by decide +kernel
theorem dX2_shortened_112 : decode cX2_shortened 112 = .ok (.getfield 33, 3) := by decide +kernel
theorem dX2_shortened_115 : decode cX2_shortened 115 = .ok (.iload_n 3, 1) := by decide +kernel
theorem dX2_shortened_116 : decode cX2_shortened 116 = .ok (.iaload, 1) := by decide +kernel
theorem dX2_shortened_117 : decode cX2_shortened 117 = .ok (.goto 9, 3) := by decide +kernel
theorem dX2_shortened_120 : decode cX2_shortened 120 = .ok (.aload_n 0, 1) := by decide +kernel
theorem dX2_shortened_121 : decode cX2_shortened 121 = .ok (.getfield 36, 3) := by decide +kernel
theorem dX2_shortened_124 : decode cX2_shortened 124 = .ok (.iload_n 3, 1) := by decide +kernel
theorem dX2_shortened_125 : decode cX2_shortened 125 = .ok (.iaload, 1) := by decide +kernel
theorem dX2_shortened_126 : decode cX2_shortened 126 = .ok (.istore_n 3, 1) := by decide +kernel
theorem dX2_shortened_127 : decode cX2_shortened 127 = .ok (.iinc 4 1, 3) := by decide +kernel
theorem dX2_shortened_130 : decode cX2_shortened 130 = .ok (.goto (-107), 3) := by decide +kernel
theorem dX2_shortened_133 : decode cX2_shortened 133 = .ok (.iload_n 3, 1) := by decide +kernel
theorem dX2_shortened_134 : decode cX2_shortened 134 = .ok (.ireturn, 1) := by decide +kernel
theorem dX2_told_0 : decode cX2_told 0 = .ok (.aload_n 0, 1) := by decide +kernel
theorem dX2_told_1 : decode cX2_told 1 = .ok (.getfield 21, 3) := by decide +kernel
theorem dX2_told_4 : decode cX2_told 4 = .ok (.iload_n 1, 1) := by decide +kernel
theorem dX2_told_5 : decode cX2_told 5 = .ok (.iaload, 1) := by decide +kernel
theorem dX2_told_6 : decode cX2_told 6 = .ok (.istore_n 2, 1) := by decide +kernel
theorem dX2_told_7 : decode cX2_told 7 = .ok (.aload_n 0, 1) := by decide +kernel
theorem dX2_told_8 : decode cX2_told 8 = .ok (.getfield 24, 3) := by decide +kernel
theorem dX2_told_11 : decode cX2_told 11 = .ok (.iload_n 1, 1) := by decide +kernel
theorem dX2_told_12 : decode cX2_told 12 = .ok (.iaload, 1) := by decide +kernel
theorem dX2_told_13 : decode cX2_told 13 = .ok (.istore_n 3, 1) := by decide +kernel
theorem dX2_told_14 : decode cX2_told 14 = .ok (.aload_n 0, 1) := by decide +kernel
theorem dX2_told_15 : decode cX2_told 15 = .ok (.getfield 30, 3) := by decide +kernel
theorem dX2_told_18 : decode cX2_told 18 = .ok (.iload_n 1, 1) := by decide +kernel
theorem dX2_told_19 : decode cX2_told 19 = .ok (.iaload, 1) := by decide +kernel
theorem dX2_told_20 : decode cX2_told 20 = .ok (.iconst 1, 1) := by decide +kernel
theorem dX2_told_21 : decode cX2_told 21 = .ok (.if_icmp .ne 28, 3) := by decide +kernel
theorem dX2_told_24 : decode cX2_told 24 = .ok (.aload_n 0, 1) := by decide +kernel
theorem dX2_told_25 : decode cX2_told 25 = .ok (.getfield 27, 3) := by decide +kernel
theorem dX2_told_28 : decode cX2_told 28 = .ok (.iload_n 1, 1) := by decide +kernel
theorem dX2_told_29 : decode cX2_told 29 = .ok (.iaload, 1) := by decide +kernel
theorem dX2_told_30 : decode cX2_told 30 = .ok (.iload_n 3, 1) := by decide +kernel
theorem dX2_told_31 : decode cX2_told 31 = .ok (.isub, 1) := by decide +kernel
theorem dX2_told_32 : decode cX2_told 32 = .ok (.iconst 1, 1) := by decide +kernel
theorem dX2_told_33 : decode cX2_told 33 = .ok (.if_icmp .ne 16, 3) := by decide +kernel
theorem dX2_told_36 : decode cX2_told 36 = .ok (.aload_n 0, 1) := by decide +kernel
theorem dX2_told_37 : decode cX2_told 37 = .ok (.getfield 11, 3) := by decide +kernel
theorem dX2_told_40 : decode cX2_told 40 = .ok (.iload_n 3, 1) := by decide +kernel
theorem dX2_told_41 : decode cX2_told 41 = .ok (.iaload, 1) := by decide +kernel
theorem dX2_told_42 : decode cX2_told 42 = .ok (.ifCond .ne 7, 3) := by decide +kernel
theorem dX2_told_45 : decode cX2_told 45 = .ok (.iconst 1, 1) := by decide +kernel
theorem dX2_told_46 : decode cX2_told 46 = .ok (.goto 4, 3) := by decide +kernel
theorem dX2_told_49 : decode cX2_told 49 = .ok (.iconst 0, 1) := by decide +kernel
theorem dX2_told_50 : decode cX2_told 50 = .ok (.istore 4, 2) := by decide +kernel
theorem dX2_told_52 : decode cX2_told 52 = .ok (.iload_n 3, 1) := by decide +kernel
theorem dX2_told_53 : decode cX2_told 53 = .ok (.iload_n 2, 1) := by decide +kernel
theorem dX2_told_54 : decode cX2_told 54 = .ok (.isub, 1) := by decide +kernel
theorem dX2_told_55 : decode cX2_told 55 = .ok (.iconst 1, 1) := by decide +kernel
theorem dX2_told_56 : decode cX2_told 56 = .ok (.if_icmp .ne 25, 3) := by decide +kernel
theorem dX2_told_59 : decode cX2_told 59 = .ok (.iload 4, 2) := by decide +kernel
theorem dX2_told_61 : decode cX2_told 61 = .ok (.ifCond .eq 18, 3) := by decide +kernel
theorem dX2_told_64 : decode cX2_told 64 = .ok (.aload_n 0, 1) := by decide +kernel
theorem dX2_told_65 : decode cX2_told 65 = .ok (.getfield 11, 3) := by decide +kernel
theorem dX2_told_68 : decode cX2_told 68 = .ok (.iload_n 2, 1) := by decide +kernel
theorem dX2_told_69 : decode cX2_told 69 = .ok (.iaload, 1) := by decide +kernel
theorem dX2_told_70 : decode cX2_told 70 = .ok (.bipush 6, 2) := by decide +kernel
theorem dX2_told_72 : decode cX2_told 72 = .ok (.if_icmp .ne 7, 3) := by decide +kernel
theorem dX2_told_75 : decode cX2_told 75 = .ok (.iconst 1, 1) := by decide +kernel
theorem dX2_told_76 : decode cX2_told 76 = .ok (.goto 4, 3) := by decide +kernel
theorem dX2_told_79 : decode cX2_told 79 = .ok (.iconst 0, 1) := by decide +kernel
theorem dX2_told_80 : decode cX2_told 80 = .ok (.ireturn, 1) := by decide +kernel
theorem dX2_told_81 : decode cX2_told 81 = .ok (.iload 4, 2) := by decide +kernel
theorem dX2_told_83 : decode cX2_told 83 = .ok (.ifCond .eq 36, 3) := by decide +kernel
theorem dX2_told_86 : decode cX2_told 86 = .ok (.iload_n 3, 1) := by decide +kernel
theorem dX2_told_87 : decode cX2_told 87 = .ok (.iload_n 2, 1) := by decide +kernel
theorem dX2_told_88 : decode cX2_told 88 = .ok (.isub, 1) := by decide +kernel
theorem dX2_told_89 : decode cX2_told 89 = .ok (.iconst 2, 1) := by decide +kernel
theorem dX2_told_90 : decode cX2_told 90 = .ok (.if_icmp .ne 29, 3) := by decide +kernel
theorem dX2_told_93 : decode cX2_told 93 = .ok (.aload_n 0, 1) := by decide +kernel
theorem dX2_told_94 : decode cX2_told 94 = .ok (.getfield 11, 3) := by decide +kernel
theorem dX2_told_97 : decode cX2_told 97 = .ok (.iload_n 2, 1) := by decide +kernel
theorem dX2_told_98 : decode cX2_told 98 = .ok (.iaload, 1) := by decide +kernel
theorem dX2_told_99 : decode cX2_told 99 = .ok (.ifCond .ne 20, 3) := by decide +kernel
theorem dX2_told_102 : decode cX2_told 102 = .ok (.aload_n 0, 1) := by decide +kernel
theorem dX2_told_103 : decode cX2_told 103 = .ok (.getfield 11, 3) := by decide +kernel
theorem dX2_told_106 : decode cX2_told 106 = .ok (.iload_n 2, 1) := by decide +kernel
theorem dX2_told_107 : decode cX2_told 107 = .ok (.iconst 1, 1) := by decide +kernel
theorem dX2_told_108 : decode cX2_told 108 = .ok (.iadd, 1) := by decide +kernel
theorem dX2_told_109 : decode cX2_told 109 = .ok (.iaload, 1) := by decide +kernel
theorem dX2_told_110 : decode cX2_told 110 = .ok (.bipush 7, 2) := by decide +kernel
theorem dX2_told_112 : decode cX2_told 112 = .ok (.if_icmp .ne 7, 3) := by decide +kernel
theorem dX2_told_115 : decode cX2_told 115 = .ok (.iconst 1, 1) := by decide +kernel
theorem dX2_told_116 : decode cX2_told 116 = .ok (.goto 4, 3) := by decide +kernel
theorem dX2_told_119 : decode cX2_told 119 = .ok (.iconst 0, 1) := by decide +kernel
theorem dX2_told_120 : decode cX2_told 120 = .ok (.ireturn, 1) := by decide +kernel
theorem dX2_readsAlike_0 : decode cX2_readsAlike 0 = .ok (.aload_n 0, 1) := by decide +kernel
theorem dX2_readsAlike_1 : decode cX2_readsAlike 1 = .ok (.iload_n 1, 1) := by decide +kernel
theorem dX2_readsAlike_2 : decode cX2_readsAlike 2 = .ok (.invokevirtual 144, 3) := by decide +kernel
theorem dX2_readsAlike_5 : decode cX2_readsAlike 5 = .ok (.aload_n 0, 1) := by decide +kernel
theorem dX2_readsAlike_6 : decode cX2_readsAlike 6 = .ok (.iload_n 2, 1) := by decide +kernel
theorem dX2_readsAlike_7 : decode cX2_readsAlike 7 = .ok (.invokevirtual 144, 3) := by decide +kernel
theorem dX2_readsAlike_10 : decode cX2_readsAlike 10 = .ok (.if_icmp .ne 36, 3) := by decide +kernel
theorem dX2_readsAlike_13 : decode cX2_readsAlike 13 = .ok (.aload_n 0, 1) := by decide +kernel
theorem dX2_readsAlike_14 : decode cX2_readsAlike 14 = .ok (.getfield 15, 3) := by decide +kernel
theorem dX2_readsAlike_17 : decode cX2_readsAlike 17 = .ok (.aload_n 0, 1) := by decide +kernel
theorem dX2_readsAlike_18 : decode cX2_readsAlike 18 = .ok (.getfield 24, 3) := by decide +kernel
theorem dX2_readsAlike_21 : decode cX2_readsAlike 21 = .ok (.iload_n 1, 1) := by decide +kernel
theorem dX2_readsAlike_22 : decode cX2_readsAlike 22 = .ok (.iaload, 1) := by decide +kernel
theorem dX2_readsAlike_23 : decode cX2_readsAlike 23 = .ok (.iconst 1, 1) := by decide +kernel
theorem dX2_readsAlike_24 : decode cX2_readsAlike 24 = .ok (.isub, 1) := by decide +kernel
theorem dX2_readsAlike_25 : decode cX2_readsAlike 25 = .ok (.iaload, 1) := by decide +kernel
theorem dX2_readsAlike_26 : decode cX2_readsAlike 26 = .ok (.aload_n 0, 1) := by decide +kernel
theorem dX2_readsAlike_27 : decode cX2_readsAlike 27 = .ok (.getfield 15, 3) := by decide +kernel
theorem dX2_readsAlike_30 : decode cX2_readsAlike 30 = .ok (.aload_n 0, 1) := by decide +kernel
theorem dX2_readsAlike_31 : decode cX2_readsAlike 31 = .ok (.getfield 24, 3) := by decide +kernel
theorem dX2_readsAlike_34 : decode cX2_readsAlike 34 = .ok (.iload_n 2, 1) := by decide +kernel
theorem dX2_readsAlike_35 : decode cX2_readsAlike 35 = .ok (.iaload, 1) := by decide +kernel
theorem dX2_readsAlike_36 : decode cX2_readsAlike 36 = .ok (.iconst 1, 1) := by decide +kernel
theorem dX2_readsAlike_37 : decode cX2_readsAlike 37 = .ok (.isub, 1) := by decide +kernel
theorem dX2_readsAlike_38 : decode cX2_readsAlike 38 = .ok (.iaload, 1) := by decide +kernel
theorem dX2_readsAlike_39 : decode cX2_readsAlike 39 = .ok (.if_icmp .ne 7, 3) := by decide +kernel
theorem dX2_readsAlike_42 : decode cX2_readsAlike 42 = .ok (.iconst 1, 1) := by decide +kernel
theorem dX2_readsAlike_43 : decode cX2_readsAlike 43 = .ok (.goto 4, 3) := by decide +kernel
theorem dX2_readsAlike_46 : decode cX2_readsAlike 46 = .ok (.iconst 0, 1) := by decide +kernel
theorem dX2_readsAlike_47 : decode cX2_readsAlike 47 = .ok (.ireturn, 1) := by decide +kernel
theorem dX2_placeRead_0 : decode cX2_placeRead 0 = .ok (.aload_n 0, 1) := by decide +kernel
theorem dX2_placeRead_1 : decode cX2_placeRead 1 = .ok (.getfield 24, 3) := by decide +kernel
theorem dX2_placeRead_4 : decode cX2_placeRead 4 = .ok (.iload_n 1, 1) := by decide +kernel
theorem dX2_placeRead_5 : decode cX2_placeRead 5 = .ok (.iaload, 1) := by decide +kernel
theorem dX2_placeRead_6 : decode cX2_placeRead 6 = .ok (.iconst 1, 1) := by decide +kernel
theorem dX2_placeRead_7 : decode cX2_placeRead 7 = .ok (.isub, 1) := by decide +kernel
theorem dX2_placeRead_8 : decode cX2_placeRead 8 = .ok (.istore_n 2, 1) := by decide +kernel
theorem dX2_placeRead_9 : decode cX2_placeRead 9 = .ok (.iload_n 2, 1) := by decide +kernel
theorem dX2_placeRead_10 : decode cX2_placeRead 10 = .ok (.aload_n 0, 1) := by decide +kernel
theorem dX2_placeRead_11 : decode cX2_placeRead 11 = .ok (.getfield 21, 3) := by decide +kernel
theorem dX2_placeRead_14 : decode cX2_placeRead 14 = .ok (.iload_n 1, 1) := by decide +kernel
theorem dX2_placeRead_15 : decode cX2_placeRead 15 = .ok (.iaload, 1) := by decide +kernel
theorem dX2_placeRead_16 : decode cX2_placeRead 16 = .ok (.if_icmp .ne 12, 3) := by decide +kernel
theorem dX2_placeRead_19 : decode cX2_placeRead 19 = .ok (.aload_n 0, 1) := by decide +kernel
theorem dX2_placeRead_20 : decode cX2_placeRead 20 = .ok (.getfield 18, 3) := by decide +kernel
theorem dX2_placeRead_23 : decode cX2_placeRead 23 = .ok (.iload_n 2, 1) := by decide +kernel
theorem dX2_placeRead_24 : decode cX2_placeRead 24 = .ok (.iaload, 1) := by decide +kernel
theorem dX2_placeRead_25 : decode cX2_placeRead 25 = .ok (.goto 21, 3) := by decide +kernel
theorem dX2_placeRead_28 : decode cX2_placeRead 28 = .ok (.aload_n 0, 1) := by decide +kernel
theorem dX2_placeRead_29 : decode cX2_placeRead 29 = .ok (.getfield 18, 3) := by decide +kernel
theorem dX2_placeRead_32 : decode cX2_placeRead 32 = .ok (.iload_n 2, 1) := by decide +kernel
theorem dX2_placeRead_33 : decode cX2_placeRead 33 = .ok (.iaload, 1) := by decide +kernel
theorem dX2_placeRead_34 : decode cX2_placeRead 34 = .ok (.aload_n 0, 1) := by decide +kernel
theorem dX2_placeRead_35 : decode cX2_placeRead 35 = .ok (.getfield 18, 3) := by decide +kernel
theorem dX2_placeRead_38 : decode cX2_placeRead 38 = .ok (.aload_n 0, 1) := by decide +kernel
theorem dX2_placeRead_39 : decode cX2_placeRead 39 = .ok (.getfield 21, 3) := by decide +kernel
theorem dX2_placeRead_42 : decode cX2_placeRead 42 = .ok (.iload_n 1, 1) := by decide +kernel
theorem dX2_placeRead_43 : decode cX2_placeRead 43 = .ok (.iaload, 1) := by decide +kernel
theorem dX2_placeRead_44 : decode cX2_placeRead 44 = .ok (.iaload, 1) := by decide +kernel
theorem dX2_placeRead_45 : decode cX2_placeRead 45 = .ok (.iadd, 1) := by decide +kernel
theorem dX2_placeRead_46 : decode cX2_placeRead 46 = .ok (.ireturn, 1) := by decide +kernel
theorem dX2_leaveOut_0 : decode cX2_leaveOut 0 = .ok (.iconst 0, 1) := by decide +kernel
theorem dX2_leaveOut_1 : decode cX2_leaveOut 1 = .ok (.istore_n 1, 1) := by decide +kernel
theorem dX2_leaveOut_2 : decode cX2_leaveOut 2 = .ok (.iload_n 1, 1) := by decide +kernel
theorem dX2_leaveOut_3 : decode cX2_leaveOut 3 = .ok (.aload_n 0, 1) := by decide +kernel
theorem dX2_leaveOut_4 : decode cX2_leaveOut 4 = .ok (.getfield 57, 3) := by decide +kernel
theorem dX2_leaveOut_7 : decode cX2_leaveOut 7 = .ok (.if_icmp .ge 24, 3) := by decide +kernel
theorem dX2_leaveOut_10 : decode cX2_leaveOut 10 = .ok (.aload_n 0, 1) := by decide +kernel
theorem dX2_leaveOut_11 : decode cX2_leaveOut 11 = .ok (.getfield 39, 3) := by decide +kernel
theorem dX2_leaveOut_14 : decode cX2_leaveOut 14 = .ok (.iload_n 1, 1) := by decide +kernel
theorem dX2_leaveOut_15 : decode cX2_leaveOut 15 = .ok (.iload_n 1, 1) := by decide +kernel
theorem dX2_leaveOut_16 : decode cX2_leaveOut 16 = .ok (.ifCond .ne 7, 3) := by decide +kernel
theorem dX2_leaveOut_19 : decode cX2_leaveOut 19 = .ok (.iconst 1, 1) := by decide +kernel
theorem dX2_leaveOut_20 : decode cX2_leaveOut 20 = .ok (.goto 4, 3) := by decide +kernel
theorem dX2_leaveOut_23 : decode cX2_leaveOut 23 = .ok (.iconst 0, 1) := by decide +kernel
theorem dX2_leaveOut_24 : decode cX2_leaveOut 24 = .ok (.bastore, 1) := by decide +kernel
theorem dX2_leaveOut_25 : decode cX2_leaveOut 25 = .ok (.iinc 1 1, 3) := by decide +kernel
theorem dX2_leaveOut_28 : decode cX2_leaveOut 28 = .ok (.goto (-26), 3) := by decide +kernel
theorem dX2_leaveOut_31 : decode cX2_leaveOut 31 = .ok (.aload_n 0, 1) := by decide +kernel
theorem dX2_leaveOut_32 : decode cX2_leaveOut 32 = .ok (.iconst 0, 1) := by decide +kernel
theorem dX2_leaveOut_33 : decode cX2_leaveOut 33 = .ok (.putfield 60, 3) := by decide +kernel
theorem dX2_leaveOut_36 : decode cX2_leaveOut 36 = .ok (.iconst 0, 1) := by decide +kernel
theorem dX2_leaveOut_37 : decode cX2_leaveOut 37 = .ok (.istore_n 1, 1) := by decide +kernel
theorem dX2_leaveOut_38 : decode cX2_leaveOut 38 = .ok (.iload_n 1, 1) := by decide +kernel
theorem dX2_leaveOut_39 : decode cX2_leaveOut 39 = .ok (.aload_n 0, 1) := by decide +kernel
theorem dX2_leaveOut_40 : decode cX2_leaveOut 40 = .ok (.getfield 57, 3) := by decide +kernel
theorem dX2_leaveOut_43 : decode cX2_leaveOut 43 = .ok (.if_icmp .ge 81, 3) := by decide +kernel
theorem dX2_leaveOut_46 : decode cX2_leaveOut 46 = .ok (.aload_n 0, 1) := by decide +kernel
theorem dX2_leaveOut_47 : decode cX2_leaveOut 47 = .ok (.getfield 39, 3) := by decide +kernel
theorem dX2_leaveOut_50 : decode cX2_leaveOut 50 = .ok (.iload_n 1, 1) := by decide +kernel
theorem dX2_leaveOut_51 : decode cX2_leaveOut 51 = .ok (.baload, 1) := by decide +kernel
theorem dX2_leaveOut_52 : decode cX2_leaveOut 52 = .ok (.ifCond .ne 16, 3) := by decide +kernel
theorem dX2_leaveOut_55 : decode cX2_leaveOut 55 = .ok (.aload_n 0, 1) := by decide +kernel
theorem dX2_leaveOut_56 : decode cX2_leaveOut 56 = .ok (.dup, 1) := by decide +kernel
theorem dX2_leaveOut_57 : decode cX2_leaveOut 57 = .ok (.getfield 60, 3) := by decide +kernel
theorem dX2_leaveOut_60 : decode cX2_leaveOut 60 = .ok (.iconst 1, 1) := by decide +kernel
theorem dX2_leaveOut_61 : decode cX2_leaveOut 61 = .ok (.iadd, 1) := by decide +kernel
theorem dX2_leaveOut_62 : decode cX2_leaveOut 62 = .ok (.putfield 60, 3) := by decide +kernel
theorem dX2_leaveOut_65 : decode cX2_leaveOut 65 = .ok (.goto 53, 3) := by decide +kernel
theorem dX2_leaveOut_68 : decode cX2_leaveOut 68 = .ok (.aload_n 0, 1) := by decide +kernel
theorem dX2_leaveOut_69 : decode cX2_leaveOut 69 = .ok (.getfield 33, 3) := by decide +kernel
theorem dX2_leaveOut_72 : decode cX2_leaveOut 72 = .ok (.iload_n 1, 1) := by decide +kernel
theorem dX2_leaveOut_73 : decode cX2_leaveOut 73 = .ok (.iaload, 1) := by decide +kernel
theorem dX2_leaveOut_74 : decode cX2_leaveOut 74 = .ok (.aload_n 0, 1) := by decide +kernel
theorem dX2_leaveOut_75 : decode cX2_leaveOut 75 = .ok (.getfield 57, 3) := by decide +kernel
theorem dX2_leaveOut_78 : decode cX2_leaveOut 78 = .ok (.if_icmp .ge 15, 3) := by decide +kernel
theorem dX2_leaveOut_81 : decode cX2_leaveOut 81 = .ok (.aload_n 0, 1) := by decide +kernel
theorem dX2_leaveOut_82 : decode cX2_leaveOut 82 = .ok (.getfield 39, 3) := by decide +kernel
theorem dX2_leaveOut_85 : decode cX2_leaveOut 85 = .ok (.aload_n 0, 1) := by decide +kernel
theorem dX2_leaveOut_86 : decode cX2_leaveOut 86 = .ok (.getfield 33, 3) := by decide +kernel
theorem dX2_leaveOut_89 : decode cX2_leaveOut 89 = .ok (.iload_n 1, 1) := by decide +kernel
theorem dX2_leaveOut_90 : decode cX2_leaveOut 90 = .ok (.iaload, 1) := by decide +kernel
theorem dX2_leaveOut_91 : decode cX2_leaveOut 91 = .ok (.iconst 1, 1) := by decide +kernel
theorem dX2_leaveOut_92 : decode cX2_leaveOut 92 = .ok (.bastore, 1) := by decide +kernel
theorem dX2_leaveOut_93 : decode cX2_leaveOut 93 = .ok (.aload_n 0, 1) := by decide +kernel
theorem dX2_leaveOut_94 : decode cX2_leaveOut 94 = .ok (.getfield 36, 3) := by decide +kernel
theorem dX2_leaveOut_97 : decode cX2_leaveOut 97 = .ok (.iload_n 1, 1) := by decide +kernel
theorem dX2_leaveOut_98 : decode cX2_leaveOut 98 = .ok (.iaload, 1) := by decide +kernel
theorem dX2_leaveOut_99 : decode cX2_leaveOut 99 = .ok (.aload_n 0, 1) := by decide +kernel
theorem dX2_leaveOut_100 : decode cX2_leaveOut 100 = .ok (.getfield 57, 3) := by decide +kernel
theorem dX2_leaveOut_103 : decode cX2_leaveOut 103 = .ok (.if_icmp .ge 15, 3) := by decide +kernel
theorem dX2_leaveOut_106 : decode cX2_leaveOut 106 = .ok (.aload_n 0, 1) := by decide +kernel
theorem dX2_leaveOut_107 : decode cX2_leaveOut 107 = .ok (.getfield 39, 3) := by decide +kernel
theorem dX2_leaveOut_110 : decode cX2_leaveOut 110 = .ok (.aload_n 0, 1) := by decide +kernel
theorem dX2_leaveOut_111 : decode cX2_leaveOut 111 = .ok (.getfield 36, 3) := by decide +kernel
theorem dX2_leaveOut_114 : decode cX2_leaveOut 114 = .ok (.iload_n 1, 1) := by decide +kernel
theorem dX2_leaveOut_115 : decode cX2_leaveOut 115 = .ok (.iaload, 1) := by decide +kernel
theorem dX2_leaveOut_116 : decode cX2_leaveOut 116 = .ok (.iconst 1, 1) := by decide +kernel
theorem dX2_leaveOut_117 : decode cX2_leaveOut 117 = .ok (.bastore, 1) := by decide +kernel
theorem dX2_leaveOut_118 : decode cX2_leaveOut 118 = .ok (.iinc 1 1, 3) := by decide +kernel
theorem dX2_leaveOut_121 : decode cX2_leaveOut 121 = .ok (.goto (-83), 3) := by decide +kernel
theorem dX2_leaveOut_124 : decode cX2_leaveOut 124 = .ok (.return_, 1) := by decide +kernel
theorem dX2_says_0 : decode cX2_says 0 = .ok (.iconst 0, 1) := by decide +kernel
theorem dX2_says_1 : decode cX2_says 1 = .ok (.istore_n 3, 1) := by decide +kernel
theorem dX2_says_2 : decode cX2_says 2 = .ok (.iconst 0, 1) := by decide +kernel
theorem dX2_says_3 : decode cX2_says 3 = .ok (.istore 4, 2) := by decide +kernel
theorem dX2_says_5 : decode cX2_says 5 = .ok (.iload 4, 2) := by decide +kernel
theorem dX2_says_7 : decode cX2_says 7 = .ok (.aload_n 0, 1) := by decide +kernel
theorem dX2_says_8 : decode cX2_says 8 = .ok (.getfield 57, 3) := by decide +kernel
theorem dX2_says_11 : decode cX2_says 11 = .ok (.if_icmp .gt 112, 3) := by decide +kernel
theorem dX2_says_14 : decode cX2_says 14 = .ok (.iload_n 3, 1) := by decide +kernel
theorem dX2_says_15 : decode cX2_says 15 = .ok (.aload_n 0, 1) := by decide +kernel
theorem dX2_says_16 : decode cX2_says 16 = .ok (.getfield 57, 3) := by decide +kernel
theorem dX2_says_19 : decode cX2_says 19 = .ok (.if_icmp .ge 104, 3) := by decide +kernel
theorem dX2_says_22 : decode cX2_says 22 = .ok (.aload_n 0, 1) := by decide +kernel
theorem dX2_says_23 : decode cX2_says 23 = .ok (.aload_n 0, 1) := by decide +kernel
theorem dX2_says_24 : decode cX2_says 24 = .ok (.getfield 21, 3) := by decide +kernel
theorem dX2_says_27 : decode cX2_says 27 = .ok (.iload_n 3, 1) := by decide +kernel
theorem dX2_says_28 : decode cX2_says 28 = .ok (.iaload, 1) := by decide +kernel
theorem dX2_says_29 : decode cX2_says 29 = .ok (.aload_n 0, 1) := by decide +kernel
theorem dX2_says_30 : decode cX2_says 30 = .ok (.getfield 24, 3) := by decide +kernel
theorem dX2_says_33 : decode cX2_says 33 = .ok (.iload_n 3, 1) := by decide +kernel
theorem dX2_says_34 : decode cX2_says 34 = .ok (.iaload, 1) := by decide +kernel
theorem dX2_says_35 : decode cX2_says 35 = .ok (.aload_n 1, 1) := by decide +kernel
theorem dX2_says_36 : decode cX2_says 36 = .ok (.iload_n 2, 1) := by decide +kernel
theorem dX2_says_37 : decode cX2_says 37 = .ok (.invokevirtual 147, 3) := by decide +kernel
theorem dX2_says_40 : decode cX2_says 40 = .ok (.lstore 5, 2) := by decide +kernel
theorem dX2_says_42 : decode cX2_says 42 = .ok (.lload 5, 2) := by decide +kernel
theorem dX2_says_44 : decode cX2_says 44 = .ok (.lconst 0, 1) := by decide +kernel
theorem dX2_says_45 : decode cX2_says 45 = .ok (.lcmp, 1) := by decide +kernel
theorem dX2_says_46 : decode cX2_says 46 = .ok (.ifCond .ge 9, 3) := by decide +kernel
theorem dX2_says_49 : decode cX2_says 49 = .ok (.ldc2_w 151, 3) := by decide +kernel
theorem dX2_says_52 : decode cX2_says 52 = .ok (.goto 21, 3) := by decide +kernel
theorem dX2_says_55 : decode cX2_says 55 = .ok (.aload_n 0, 1) := by decide +kernel
theorem dX2_says_56 : decode cX2_says 56 = .ok (.aload_n 0, 1) := by decide +kernel
theorem dX2_says_57 : decode cX2_says 57 = .ok (.getfield 24, 3) := by decide +kernel
theorem dX2_says_60 : decode cX2_says 60 = .ok (.iload_n 3, 1) := by decide +kernel
theorem dX2_says_61 : decode cX2_says 61 = .ok (.iaload, 1) := by decide +kernel
theorem dX2_says_62 : decode cX2_says 62 = .ok (.aload_n 0, 1) := by decide +kernel
theorem dX2_says_63 : decode cX2_says 63 = .ok (.getfield 27, 3) := by decide +kernel
theorem dX2_says_66 : decode cX2_says 66 = .ok (.iload_n 3, 1) := by decide +kernel
theorem dX2_says_67 : decode cX2_says 67 = .ok (.iaload, 1) := by decide +kernel
theorem dX2_says_68 : decode cX2_says 68 = .ok (.aload_n 1, 1) := by decide +kernel
theorem dX2_says_69 : decode cX2_says 69 = .ok (.iload_n 2, 1) := by decide +kernel
theorem dX2_says_70 : decode cX2_says 70 = .ok (.invokevirtual 147, 3) := by decide +kernel
theorem dX2_says_73 : decode cX2_says 73 = .ok (.lstore 7, 2) := by decide +kernel
theorem dX2_says_75 : decode cX2_says 75 = .ok (.lload 7, 2) := by decide +kernel
theorem dX2_says_77 : decode cX2_says 77 = .ok (.lconst 0, 1) := by decide +kernel
theorem dX2_says_78 : decode cX2_says 78 = .ok (.lcmp, 1) := by decide +kernel
theorem dX2_says_79 : decode cX2_says 79 = .ok (.ifCond .ge 5, 3) := by decide +kernel
theorem dX2_says_82 : decode cX2_says 82 = .ok (.iconst 0, 1) := by decide +kernel
theorem dX2_says_83 : decode cX2_says 83 = .ok (.ireturn, 1) := by decide +kernel
theorem dX2_says_84 : decode cX2_says 84 = .ok (.aload_n 0, 1) := by decide +kernel
theorem dX2_says_85 : decode cX2_says 85 = .ok (.getfield 30, 3) := by decide +kernel
theorem dX2_says_88 : decode cX2_says 88 = .ok (.iload_n 3, 1) := by decide +kernel
theorem dX2_says_89 : decode cX2_says 89 = .ok (.iaload, 1) := by decide +kernel
theorem dX2_says_90 : decode cX2_says 90 = .ok (.iconst 0, 1) := by decide +kernel
theorem dX2_says_91 : decode cX2_says 91 = .ok (.lload 5, 2) := by decide +kernel
theorem dX2_says_93 : decode cX2_says 93 = .ok (.lload 7, 2) := by decide +kernel
theorem dX2_says_95 : decode cX2_says 95 = .ok (.invokestatic 153, 3) := by decide +kernel
theorem dX2_says_98 : decode cX2_says 98 = .ok (.ifCond .eq 12, 3) := by decide +kernel
theorem dX2_says_101 : decode cX2_says 101 = .ok (.aload_n 0, 1) := by decide +kernel
theorem dX2_says_102 : decode cX2_says 102 = .ok (.getfield 33, 3) := by decide +kernel
theorem dX2_says_105 : decode cX2_says 105 = .ok (.iload_n 3, 1) := by decide +kernel
theorem dX2_says_106 : decode cX2_says 106 = .ok (.iaload, 1) := by decide +kernel
theorem dX2_says_107 : decode cX2_says 107 = .ok (.goto 9, 3) := by decide +kernel
theorem dX2_says_110 : decode cX2_says 110 = .ok (.aload_n 0, 1) := by decide +kernel
theorem dX2_says_111 : decode cX2_says 111 = .ok (.getfield 36, 3) := by decide +kernel
theorem dX2_says_114 : decode cX2_says 114 = .ok (.iload_n 3, 1) := by decide +kernel
theorem dX2_says_115 : decode cX2_says 115 = .ok (.iaload, 1) := by decide +kernel
theorem dX2_says_116 : decode cX2_says 116 = .ok (.istore_n 3, 1) := by decide +kernel
theorem dX2_says_117 : decode cX2_says 117 = .ok (.iinc 4 1, 3) := by decide +kernel
theorem dX2_says_120 : decode cX2_says 120 = .ok (.goto (-115), 3) := by decide +kernel
theorem dX2_says_123 : decode cX2_says 123 = .ok (.iload_n 3, 1) := by decide +kernel
theorem dX2_says_124 : decode cX2_says 124 = .ok (.aload_n 0, 1) := by decide +kernel
theorem dX2_says_125 : decode cX2_says 125 = .ok (.getfield 57, 3) := by decide +kernel
theorem dX2_says_128 : decode cX2_says 128 = .ok (.if_icmp .ne 7, 3) := by decide +kernel
theorem dX2_says_131 : decode cX2_says 131 = .ok (.iconst 1, 1) := by decide +kernel
theorem dX2_says_132 : decode cX2_says 132 = .ok (.goto 4, 3) := by decide +kernel
theorem dX2_says_135 : decode cX2_says 135 = .ok (.iconst 0, 1) := by decide +kernel
theorem dX2_says_136 : decode cX2_says 136 = .ok (.ireturn, 1) := by decide +kernel
theorem dX2_value_0 : decode cX2_value 0 = .ok (.lconst 0, 1) := by decide +kernel
theorem dX2_value_1 : decode cX2_value 1 = .ok (.lstore 5, 2) := by decide +kernel
theorem dX2_value_3 : decode cX2_value 3 = .ok (.iload_n 1, 1) := by decide +kernel
theorem dX2_value_4 : decode cX2_value 4 = .ok (.istore 7, 2) := by decide +kernel
theorem dX2_value_6 : decode cX2_value 6 = .ok (.iload 7, 2) := by decide +kernel
theorem dX2_value_8 : decode cX2_value 8 = .ok (.iload_n 2, 1) := by decide +kernel
theorem dX2_value_9 : decode cX2_value 9 = .ok (.if_icmp .ge 266, 3) := by decide +kernel
theorem dX2_value_12 : decode cX2_value 12 = .ok (.lload 5, 2) := by decide +kernel
theorem dX2_value_14 : decode cX2_value 14 = .ok (.lconst 0, 1) := by decide +kernel
theorem dX2_value_15 : decode cX2_value 15 = .ok (.lcmp, 1) := by decide +kernel
theorem dX2_value_16 : decode cX2_value 16 = .ok (.ifCond .lt 259, 3) := by decide +kernel
theorem dX2_value_19 : decode cX2_value 19 = .ok (.aload_n 0, 1) := by decide +kernel
theorem dX2_value_20 : decode cX2_value 20 = .ok (.getfield 15, 3) := by decide +kernel
theorem dX2_value_23 : decode cX2_value 23 = .ok (.iload 7, 2) := by decide +kernel
theorem dX2_value_25 : decode cX2_value 25 = .ok (.iaload, 1) := by decide +kernel
theorem dX2_value_26 : decode cX2_value 26 = .ok (.istore 8, 2) := by decide +kernel
theorem dX2_value_28 : decode cX2_value 28 = .ok (.aload_n 0, 1) := by decide +kernel
theorem dX2_value_29 : decode cX2_value 29 = .ok (.getfield 11, 3) := by decide +kernel
theorem dX2_value_32 : decode cX2_value 32 = .ok (.iload 7, 2) := by decide +kernel
theorem dX2_value_34 : decode cX2_value 34 = .ok (.iaload, 1) := by decide +kernel
theorem dX2_value_35 : decode cX2_value 35 = .ok (.tableswitch 229 0 8 #[49, 66, 78, 98, 122, 149, 161, 186, 214], 49) := by decide +kernel
theorem dX2_value_84 : decode cX2_value 84 = .ok (.aload_n 0, 1) := by decide +kernel
theorem dX2_value_85 : decode cX2_value 85 = .ok (.getfield 18, 3) := by decide +kernel
theorem dX2_value_88 : decode cX2_value 88 = .ok (.iload 7, 2) := by decide +kernel
theorem dX2_value_90 : decode cX2_value 90 = .ok (.iaload, 1) := by decide +kernel
theorem dX2_value_91 : decode cX2_value 91 = .ok (.i2l, 1) := by decide +kernel
theorem dX2_value_92 : decode cX2_value 92 = .ok (.ldc2_w 157, 3) := by decide +kernel
theorem dX2_value_95 : decode cX2_value 95 = .ok (.land, 1) := by decide +kernel
theorem dX2_value_96 : decode cX2_value 96 = .ok (.lstore 5, 2) := by decide +kernel
theorem dX2_value_98 : decode cX2_value 98 = .ok (.goto 171, 3) := by decide +kernel
theorem dX2_value_101 : decode cX2_value 101 = .ok (.aload_n 3, 1) := by decide +kernel
theorem dX2_value_102 : decode cX2_value 102 = .ok (.iload 4, 2) := by decide +kernel
theorem dX2_value_104 : decode cX2_value 104 = .ok (.invokevirtual 159, 3) := by decide +kernel
theorem dX2_value_107 : decode cX2_value 107 = .ok (.i2l, 1) := by decide +kernel
theorem dX2_value_108 : decode cX2_value 108 = .ok (.lstore 5, 2) := by decide +kernel
theorem dX2_value_110 : decode cX2_value 110 = .ok (.goto 159, 3) := by decide +kernel
theorem dX2_value_113 : decode cX2_value 113 = .ok (.aload_n 0, 1) := by decide +kernel
theorem dX2_value_114 : decode cX2_value 114 = .ok (.getfield 49, 3) := by decide +kernel
theorem dX2_value_117 : decode cX2_value 117 = .ok (.aload_n 0, 1) := by decide +kernel
theorem dX2_value_118 : decode cX2_value 118 = .ok (.getfield 18, 3) := by decide +kernel
theorem dX2_value_121 : decode cX2_value 121 = .ok (.iload 7, 2) := by decide +kernel
theorem dX2_value_123 : decode cX2_value 123 = .ok (.iaload, 1) := by decide +kernel
theorem dX2_value_124 : decode cX2_value 124 = .ok (.bipush 7, 2) := by decide +kernel
theorem dX2_value_126 : decode cX2_value 126 = .ok (.iand, 1) := by decide +kernel
theorem dX2_value_127 : decode cX2_value 127 = .ok (.lload 5, 2) := by decide +kernel
theorem dX2_value_129 : decode cX2_value 129 = .ok (.lastore, 1) := by decide +kernel
theorem dX2_value_130 : decode cX2_value 130 = .ok (.goto 139, 3) := by decide +kernel
theorem dX2_value_133 : decode cX2_value 133 = .ok (.iload 8, 2) := by decide +kernel
theorem dX2_value_135 : decode cX2_value 135 = .ok (.lload 5, 2) := by decide +kernel
theorem dX2_value_137 : decode cX2_value 137 = .ok (.aload_n 0, 1) := by decide +kernel
theorem dX2_value_138 : decode cX2_value 138 = .ok (.getfield 18, 3) := by decide +kernel
theorem dX2_value_141 : decode cX2_value 141 = .ok (.iload 7, 2) := by decide +kernel
theorem dX2_value_143 : decode cX2_value 143 = .ok (.iaload, 1) := by decide +kernel
theorem dX2_value_144 : decode cX2_value 144 = .ok (.i2l, 1) := by decide +kernel
theorem dX2_value_145 : decode cX2_value 145 = .ok (.ldc2_w 157, 3) := by decide +kernel
theorem dX2_value_148 : decode cX2_value 148 = .ok (.land, 1) := by decide +kernel
theorem dX2_value_149 : decode cX2_value 149 = .ok (.invokestatic 164, 3) := by decide +kernel
theorem dX2_value_152 : decode cX2_value 152 = .ok (.lstore 5, 2) := by decide +kernel
theorem dX2_value_154 : decode cX2_value 154 = .ok (.goto 115, 3) := by decide +kernel
theorem dX2_value_157 : decode cX2_value 157 = .ok (.iload 8, 2) := by decide +kernel
theorem dX2_value_159 : decode cX2_value 159 = .ok (.aload_n 0, 1) := by decide +kernel
theorem dX2_value_160 : decode cX2_value 160 = .ok (.getfield 49, 3) := by decide +kernel
theorem dX2_value_163 : decode cX2_value 163 = .ok (.aload_n 0, 1) := by decide +kernel
theorem dX2_value_164 : decode cX2_value 164 = .ok (.getfield 18, 3) := by decide +kernel
theorem dX2_value_167 : decode cX2_value 167 = .ok (.iload 7, 2) := by decide +kernel
theorem dX2_value_169 : decode cX2_value 169 = .ok (.iaload, 1) := by decide +kernel
theorem dX2_value_170 : decode cX2_value 170 = .ok (.bipush 7, 2) := by decide +kernel
theorem dX2_value_172 : decode cX2_value 172 = .ok (.iand, 1) := by decide +kernel
theorem dX2_value_173 : decode cX2_value 173 = .ok (.laload, 1) := by decide +kernel
theorem dX2_value_174 : decode cX2_value 174 = .ok (.lload 5, 2) := by decide +kernel
theorem dX2_value_176 : decode cX2_value 176 = .ok (.invokestatic 164, 3) := by decide +kernel
theorem dX2_value_179 : decode cX2_value 179 = .ok (.lstore 5, 2) := by decide +kernel
theorem dX2_value_181 : decode cX2_value 181 = .ok (.goto 88, 3) := by decide +kernel
theorem dX2_value_184 : decode cX2_value 184 = .ok (.lload 5, 2) := by decide +kernel
theorem dX2_value_186 : decode cX2_value 186 = .ok (.lneg, 1) := by decide +kernel
theorem dX2_value_187 : decode cX2_value 187 = .ok (.ldc2_w 157, 3) := by decide +kernel
theorem dX2_value_190 : decode cX2_value 190 = .ok (.land, 1) := by decide +kernel
theorem dX2_value_191 : decode cX2_value 191 = .ok (.lstore 5, 2) := by decide +kernel
theorem dX2_value_193 : decode cX2_value 193 = .ok (.goto 76, 3) := by decide +kernel
theorem dX2_value_196 : decode cX2_value 196 = .ok (.aload_n 3, 1) := by decide +kernel
theorem dX2_value_197 : decode cX2_value 197 = .ok (.iload 4, 2) := by decide +kernel
theorem dX2_value_199 : decode cX2_value 199 = .ok (.aload_n 0, 1) := by decide +kernel
theorem dX2_value_200 : decode cX2_value 200 = .ok (.getfield 18, 3) := by decide +kernel
theorem dX2_value_203 : decode cX2_value 203 = .ok (.iload 7, 2) := by decide +kernel
theorem dX2_value_205 : decode cX2_value 205 = .ok (.iaload, 1) := by decide +kernel
theorem dX2_value_206 : decode cX2_value 206 = .ok (.i2l, 1) := by decide +kernel
theorem dX2_value_207 : decode cX2_value 207 = .ok (.ldc2_w 157, 3) := by decide +kernel
theorem dX2_value_210 : decode cX2_value 210 = .ok (.land, 1) := by decide +kernel
theorem dX2_value_211 : decode cX2_value 211 = .ok (.iload 8, 2) := by decide +kernel
theorem dX2_value_213 : decode cX2_value 213 = .ok (.invokevirtual 168, 3) := by decide +kernel
theorem dX2_value_216 : decode cX2_value 216 = .ok (.lstore 5, 2) := by decide +kernel
theorem dX2_value_218 : decode cX2_value 218 = .ok (.goto 51, 3) := by decide +kernel
theorem dX2_value_221 : decode cX2_value 221 = .ok (.aload_n 3, 1) := by decide +kernel
theorem dX2_value_222 : decode cX2_value 222 = .ok (.iload 4, 2) := by decide +kernel
theorem dX2_value_224 : decode cX2_value 224 = .ok (.lload 5, 2) := by decide +kernel
theorem dX2_value_226 : decode cX2_value 226 = .ok (.aload_n 0, 1) := by decide +kernel
theorem dX2_value_227 : decode cX2_value 227 = .ok (.getfield 18, 3) := by decide +kernel
theorem dX2_value_230 : decode cX2_value 230 = .ok (.iload 7, 2) := by decide +kernel
theorem dX2_value_232 : decode cX2_value 232 = .ok (.iaload, 1) := by decide +kernel
theorem dX2_value_233 : decode cX2_value 233 = .ok (.i2l, 1) := by decide +kernel
theorem dX2_value_234 : decode cX2_value 234 = .ok (.ladd, 1) := by decide +kernel
theorem dX2_value_235 : decode cX2_value 235 = .ok (.ldc2_w 157, 3) := by decide +kernel
theorem dX2_value_238 : decode cX2_value 238 = .ok (.land, 1) := by decide +kernel
theorem dX2_value_239 : decode cX2_value 239 = .ok (.iload 8, 2) := by decide +kernel
theorem dX2_value_241 : decode cX2_value 241 = .ok (.invokevirtual 168, 3) := by decide +kernel
theorem dX2_value_244 : decode cX2_value 244 = .ok (.lstore 5, 2) := by decide +kernel
theorem dX2_value_246 : decode cX2_value 246 = .ok (.goto 23, 3) := by decide +kernel
theorem dX2_value_249 : decode cX2_value 249 = .ok (.aload_n 3, 1) := by decide +kernel
theorem dX2_value_250 : decode cX2_value 250 = .ok (.iload 4, 2) := by decide +kernel
theorem dX2_value_252 : decode cX2_value 252 = .ok (.lload 5, 2) := by decide +kernel
theorem dX2_value_254 : decode cX2_value 254 = .ok (.iload 8, 2) := by decide +kernel
theorem dX2_value_256 : decode cX2_value 256 = .ok (.invokestatic 172, 3) := by decide +kernel
theorem dX2_value_259 : decode cX2_value 259 = .ok (.lstore 5, 2) := by decide +kernel
theorem dX2_value_261 : decode cX2_value 261 = .ok (.goto 8, 3) := by decide +kernel
theorem dX2_value_264 : decode cX2_value 264 = .ok (.ldc2_w 151, 3) := by decide +kernel
theorem dX2_value_267 : decode cX2_value 267 = .ok (.lstore 5, 2) := by decide +kernel
theorem dX2_value_269 : decode cX2_value 269 = .ok (.iinc 7 1, 3) := by decide +kernel
theorem dX2_value_272 : decode cX2_value 272 = .ok (.goto (-266), 3) := by decide +kernel
theorem dX2_value_275 : decode cX2_value 275 = .ok (.lload 5, 2) := by decide +kernel
theorem dX2_value_277 : decode cX2_value 277 = .ok (.lreturn, 1) := by decide +kernel
theorem dX2_joined_0 : decode cX2_joined 0 = .ok (.iload_n 0, 1) := by decide +kernel
theorem dX2_joined_1 : decode cX2_joined 1 = .ok (.iconst 3, 1) := by decide +kernel
theorem dX2_joined_2 : decode cX2_joined 2 = .ok (.if_icmp .eq 9, 3) := by decide +kernel
theorem dX2_joined_5 : decode cX2_joined 5 = .ok (.iload_n 0, 1) := by decide +kernel
theorem dX2_joined_6 : decode cX2_joined 6 = .ok (.bipush 9, 2) := by decide +kernel
theorem dX2_joined_8 : decode cX2_joined 8 = .ok (.if_icmp .ne 15, 3) := by decide +kernel
theorem dX2_joined_11 : decode cX2_joined 11 = .ok (.lload_n 3, 1) := by decide +kernel
theorem dX2_joined_12 : decode cX2_joined 12 = .ok (.lconst 0, 1) := by decide +kernel
theorem dX2_joined_13 : decode cX2_joined 13 = .ok (.lcmp, 1) := by decide +kernel
theorem dX2_joined_14 : decode cX2_joined 14 = .ok (.ifCond .ne 9, 3) := by decide +kernel
theorem dX2_joined_17 : decode cX2_joined 17 = .ok (.ldc2_w 151, 3) := by decide +kernel
theorem dX2_joined_20 : decode cX2_joined 20 = .ok (.goto 10, 3) := by decide +kernel
theorem dX2_joined_23 : decode cX2_joined 23 = .ok (.iload_n 0, 1) := by decide +kernel
theorem dX2_joined_24 : decode cX2_joined 24 = .ok (.iconst 0, 1) := by decide +kernel
theorem dX2_joined_25 : decode cX2_joined 25 = .ok (.lload_n 1, 1) := by decide +kernel
theorem dX2_joined_26 : decode cX2_joined 26 = .ok (.lload_n 3, 1) := by decide +kernel
theorem dX2_joined_27 : decode cX2_joined 27 = .ok (.invokestatic 176, 3) := by decide +kernel
theorem dX2_joined_30 : decode cX2_joined 30 = .ok (.lreturn, 1) := by decide +kernel
theorem dX2_readInBody_0 : decode cX2_readInBody 0 = .ok (.aload_n 0, 1) := by decide +kernel
theorem dX2_readInBody_1 : decode cX2_readInBody 1 = .ok (.iload_n 1, 1) := by decide +kernel
theorem dX2_readInBody_2 : decode cX2_readInBody 2 = .ok (.ldc2_w 180, 3) := by decide +kernel
theorem dX2_readInBody_5 : decode cX2_readInBody 5 = .ok (.iconst 1, 1) := by decide +kernel
theorem dX2_readInBody_6 : decode cX2_readInBody 6 = .ok (.invokevirtual 168, 3) := by decide +kernel
theorem dX2_readInBody_9 : decode cX2_readInBody 9 = .ok (.lstore 5, 2) := by decide +kernel
theorem dX2_readInBody_11 : decode cX2_readInBody 11 = .ok (.lload 5, 2) := by decide +kernel
theorem dX2_readInBody_13 : decode cX2_readInBody 13 = .ok (.lconst 0, 1) := by decide +kernel
theorem dX2_readInBody_14 : decode cX2_readInBody 14 = .ok (.lcmp, 1) := by decide +kernel
theorem dX2_readInBody_15 : decode cX2_readInBody 15 = .ok (.ifCond .ge 9, 3) := by decide +kernel
theorem dX2_readInBody_18 : decode cX2_readInBody 18 = .ok (.ldc2_w 151, 3) := by decide +kernel
theorem dX2_readInBody_21 : decode cX2_readInBody 21 = .ok (.goto 30, 3) := by decide +kernel
theorem dX2_readInBody_24 : decode cX2_readInBody 24 = .ok (.aload_n 0, 1) := by decide +kernel
theorem dX2_readInBody_25 : decode cX2_readInBody 25 = .ok (.iload_n 1, 1) := by decide +kernel
theorem dX2_readInBody_26 : decode cX2_readInBody 26 = .ok (.lload_n 2, 1) := by decide +kernel
theorem dX2_readInBody_27 : decode cX2_readInBody 27 = .ok (.ldc2_w 180, 3) := by decide +kernel
theorem dX2_readInBody_30 : decode cX2_readInBody 30 = .ok (.ladd, 1) := by decide +kernel
theorem dX2_readInBody_31 : decode cX2_readInBody 31 = .ok (.ldc2_w 182, 3) := by decide +kernel
theorem dX2_readInBody_34 : decode cX2_readInBody 34 = .ok (.lload 5, 2) := by decide +kernel
theorem dX2_readInBody_36 : decode cX2_readInBody 36 = .ok (.ldc2_w 184, 3) := by decide +kernel
theorem dX2_readInBody_39 : decode cX2_readInBody 39 = .ok (.land, 1) := by decide +kernel
theorem dX2_readInBody_40 : decode cX2_readInBody 40 = .ok (.lmul, 1) := by decide +kernel
theorem dX2_readInBody_41 : decode cX2_readInBody 41 = .ok (.ladd, 1) := by decide +kernel
theorem dX2_readInBody_42 : decode cX2_readInBody 42 = .ok (.ldc2_w 157, 3) := by decide +kernel
theorem dX2_readInBody_45 : decode cX2_readInBody 45 = .ok (.land, 1) := by decide +kernel
theorem dX2_readInBody_46 : decode cX2_readInBody 46 = .ok (.iload 4, 2) := by decide +kernel
theorem dX2_readInBody_48 : decode cX2_readInBody 48 = .ok (.invokevirtual 168, 3) := by decide +kernel
theorem dX2_readInBody_51 : decode cX2_readInBody 51 = .ok (.lreturn, 1) := by decide +kernel
theorem dX3_init_0 : decode cX3_init 0 = .ok (.aload_n 0, 1) := by decide +kernel
theorem dX3_init_1 : decode cX3_init 1 = .ok (.invokespecial 3, 3) := by decide +kernel
theorem dX3_init_4 : decode cX3_init 4 = .ok (.aload_n 0, 1) := by decide +kernel
theorem dX3_init_5 : decode cX3_init 5 = .ok (.iconst 0, 1) := by decide +kernel
theorem dX3_init_6 : decode cX3_init 6 = .ok (.newarray .byte, 2) := by decide +kernel
theorem dX3_init_8 : decode cX3_init 8 = .ok (.putfield 9, 3) := by decide +kernel
theorem dX3_init_11 : decode cX3_init 11 = .ok (.aload_n 0, 1) := by decide +kernel
theorem dX3_init_12 : decode cX3_init 12 = .ok (.iconst 0, 1) := by decide +kernel
theorem dX3_init_13 : decode cX3_init 13 = .ok (.newarray .long, 2) := by decide +kernel
theorem dX3_init_15 : decode cX3_init 15 = .ok (.putfield 15, 3) := by decide +kernel
theorem dX3_init_18 : decode cX3_init 18 = .ok (.aload_n 0, 1) := by decide +kernel
theorem dX3_init_19 : decode cX3_init 19 = .ok (.iconst 0, 1) := by decide +kernel
theorem dX3_init_20 : decode cX3_init 20 = .ok (.newarray .long, 2) := by decide +kernel
theorem dX3_init_22 : decode cX3_init 22 = .ok (.putfield 19, 3) := by decide +kernel
theorem dX3_init_25 : decode cX3_init 25 = .ok (.aload_n 0, 1) := by decide +kernel
theorem dX3_init_26 : decode cX3_init 26 = .ok (.iconst 0, 1) := by decide +kernel
theorem dX3_init_27 : decode cX3_init 27 = .ok (.newarray .long, 2) := by decide +kernel
theorem dX3_init_29 : decode cX3_init 29 = .ok (.putfield 22, 3) := by decide +kernel
theorem dX3_init_32 : decode cX3_init 32 = .ok (.aload_n 0, 1) := by decide +kernel
theorem dX3_init_33 : decode cX3_init 33 = .ok (.iconst 0, 1) := by decide +kernel
theorem dX3_init_34 : decode cX3_init 34 = .ok (.newarray .long, 2) := by decide +kernel
theorem dX3_init_36 : decode cX3_init 36 = .ok (.putfield 25, 3) := by decide +kernel
theorem dX3_init_39 : decode cX3_init 39 = .ok (.aload_n 0, 1) := by decide +kernel
theorem dX3_init_40 : decode cX3_init 40 = .ok (.iconst 0, 1) := by decide +kernel
theorem dX3_init_41 : decode cX3_init 41 = .ok (.newarray .long, 2) := by decide +kernel
theorem dX3_init_43 : decode cX3_init 43 = .ok (.putfield 28, 3) := by decide +kernel
theorem dX3_init_46 : decode cX3_init 46 = .ok (.aload_n 0, 1) := by decide +kernel
theorem dX3_init_47 : decode cX3_init 47 = .ok (.iconst 0, 1) := by decide +kernel
theorem dX3_init_48 : decode cX3_init 48 = .ok (.newarray .boolean, 2) := by decide +kernel
theorem dX3_init_50 : decode cX3_init 50 = .ok (.putfield 31, 3) := by decide +kernel
theorem dX3_init_53 : decode cX3_init 53 = .ok (.aload_n 0, 1) := by decide +kernel
theorem dX3_init_54 : decode cX3_init 54 = .ok (.bipush 11, 2) := by decide +kernel
theorem dX3_init_56 : decode cX3_init 56 = .ok (.anewarray 35, 3) := by decide +kernel
theorem dX3_init_59 : decode cX3_init 59 = .ok (.putfield 37, 3) := by decide +kernel
theorem dX3_init_62 : decode cX3_init 62 = .ok (.aload_n 0, 1) := by decide +kernel
theorem dX3_init_63 : decode cX3_init 63 = .ok (.new 35, 3) := by decide +kernel
theorem dX3_init_66 : decode cX3_init 66 = .ok (.dup, 1) := by decide +kernel
theorem dX3_init_67 : decode cX3_init 67 = .ok (.invokespecial 41, 3) := by decide +kernel
theorem dX3_init_70 : decode cX3_init 70 = .ok (.putfield 42, 3) := by decide +kernel
theorem dX3_init_73 : decode cX3_init 73 = .ok (.aload_n 0, 1) := by decide +kernel
theorem dX3_init_74 : decode cX3_init 74 = .ok (.new 35, 3) := by decide +kernel
theorem dX3_init_77 : decode cX3_init 77 = .ok (.dup, 1) := by decide +kernel
theorem dX3_init_78 : decode cX3_init 78 = .ok (.invokespecial 41, 3) := by decide +kernel
theorem dX3_init_81 : decode cX3_init 81 = .ok (.putfield 46, 3) := by decide +kernel
theorem dX3_init_84 : decode cX3_init 84 = .ok (.aload_n 0, 1) := by decide +kernel
theorem dX3_init_85 : decode cX3_init 85 = .ok (.new 35, 3) := by decide +kernel
theorem dX3_init_88 : decode cX3_init 88 = .ok (.dup, 1) := by decide +kernel
theorem dX3_init_89 : decode cX3_init 89 = .ok (.invokespecial 41, 3) := by decide +kernel
theorem dX3_init_92 : decode cX3_init 92 = .ok (.putfield 49, 3) := by decide +kernel
theorem dX3_init_95 : decode cX3_init 95 = .ok (.aload_n 0, 1) := by decide +kernel
theorem dX3_init_96 : decode cX3_init 96 = .ok (.iconst (-1), 1) := by decide +kernel
theorem dX3_init_97 : decode cX3_init 97 = .ok (.putfield 52, 3) := by decide +kernel
theorem dX3_init_100 : decode cX3_init 100 = .ok (.aload_n 0, 1) := by decide +kernel
theorem dX3_init_101 : decode cX3_init 101 = .ok (.aload_n 1, 1) := by decide +kernel
theorem dX3_init_102 : decode cX3_init 102 = .ok (.putfield 56, 3) := by decide +kernel
theorem dX3_init_105 : decode cX3_init 105 = .ok (.iconst 0, 1) := by decide +kernel
theorem dX3_init_106 : decode cX3_init 106 = .ok (.istore_n 2, 1) := by decide +kernel
theorem dX3_init_107 : decode cX3_init 107 = .ok (.iload_n 2, 1) := by decide +kernel
theorem dX3_init_108 : decode cX3_init 108 = .ok (.bipush 11, 2) := by decide +kernel
theorem dX3_init_110 : decode cX3_init 110 = .ok (.if_icmp .ge 22, 3) := by decide +kernel
theorem dX3_init_113 : decode cX3_init 113 = .ok (.aload_n 0, 1) := by decide +kernel
theorem dX3_init_114 : decode cX3_init 114 = .ok (.getfield 37, 3) := by decide +kernel
theorem dX3_init_117 : decode cX3_init 117 = .ok (.iload_n 2, 1) := by decide +kernel
theorem dX3_init_118 : decode cX3_init 118 = .ok (.new 35, 3) := by decide +kernel
theorem dX3_init_121 : decode cX3_init 121 = .ok (.dup, 1) := by decide +kernel
theorem dX3_init_122 : decode cX3_init 122 = .ok (.invokespecial 41, 3) := by decide +kernel
theorem dX3_init_125 : decode cX3_init 125 = .ok (.aastore, 1) := by decide +kernel
theorem dX3_init_126 : decode cX3_init 126 = .ok (.iinc 2 1, 3) := by decide +kernel
theorem dX3_init_129 : decode cX3_init 129 = .ok (.goto (-22), 3) := by decide +kernel
theorem dX3_init_132 : decode cX3_init 132 = .ok (.return_, 1) := by decide +kernel
theorem dX3_look_0 : decode cX3_look 0 = .ok (.aload_n 0, 1) := by decide +kernel
theorem dX3_look_1 : decode cX3_look 1 = .ok (.aload_n 1, 1) := by decide +kernel
theorem dX3_look_2 : decode cX3_look 2 = .ok (.putfield 56, 3) := by decide +kernel
theorem dX3_look_5 : decode cX3_look 5 = .ok (.aload_n 0, 1) := by decide +kernel
theorem dX3_look_6 : decode cX3_look 6 = .ok (.iconst (-1), 1) := by decide +kernel
theorem dX3_look_7 : decode cX3_look 7 = .ok (.putfield 52, 3) := by decide +kernel
theorem dX3_look_10 : decode cX3_look 10 = .ok (.aload_n 0, 1) := by decide +kernel
theorem dX3_look_11 : decode cX3_look 11 = .ok (.getfield 56, 3) := by decide +kernel
theorem dX3_look_14 : decode cX3_look 14 = .ok (.getfield 60, 3) := by decide +kernel
theorem dX3_look_17 : decode cX3_look 17 = .ok (.ifCond .ne 5, 3) := by decide +kernel
theorem dX3_look_20 : decode cX3_look 20 = .ok (.iconst (-1), 1) := by decide +kernel
theorem dX3_look_21 : decode cX3_look 21 = .ok (.ireturn, 1) := by decide +kernel
theorem dX3_look_22 : decode cX3_look 22 = .ok (.aload_n 0, 1) := by decide +kernel
theorem dX3_look_23 : decode cX3_look 23 = .ok (.invokevirtual 65, 3) := by decide +kernel
theorem dX3_look_26 : decode cX3_look 26 = .ok (.istore_n 2, 1) := by decide +kernel
theorem dX3_look_27 : decode cX3_look 27 = .ok (.iload_n 2, 1) := by decide +kernel
theorem dX3_look_28 : decode cX3_look 28 = .ok (.ifCond .eq 5, 3) := by decide +kernel
theorem dX3_look_31 : decode cX3_look 31 = .ok (.iload_n 2, 1) := by decide +kernel
theorem dX3_look_32 : decode cX3_look 32 = .ok (.ireturn, 1) := by decide +kernel
theorem dX3_look_33 : decode cX3_look 33 = .ok (.aload_n 0, 1) := by decide +kernel
theorem dX3_look_34 : decode cX3_look 34 = .ok (.invokevirtual 69, 3) := by decide +kernel
theorem dX3_look_37 : decode cX3_look 37 = .ok (.aload_n 0, 1) := by decide +kernel
theorem dX3_look_38 : decode cX3_look 38 = .ok (.invokevirtual 72, 3) := by decide +kernel
theorem dX3_look_41 : decode cX3_look 41 = .ok (.iconst 0, 1) := by decide +kernel
theorem dX3_look_42 : decode cX3_look 42 = .ok (.istore_n 3, 1) := by decide +kernel
theorem dX3_look_43 : decode cX3_look 43 = .ok (.iload_n 3, 1) := by decide +kernel
theorem dX3_look_44 : decode cX3_look 44 = .ok (.aload_n 0, 1) := by decide +kernel
theorem dX3_look_45 : decode cX3_look 45 = .ok (.getfield 56, 3) := by decide +kernel
theorem dX3_look_48 : decode cX3_look 48 = .ok (.getfield 60, 3) := by decide +kernel
theorem dX3_look_51 : decode cX3_look 51 = .ok (.if_icmp .ge 68, 3) := by decide +kernel
theorem dX3_look_54 : decode cX3_look 54 = .ok (.aload_n 0, 1) := by decide +kernel
theorem dX3_look_55 : decode cX3_look 55 = .ok (.iload_n 3, 1) := by decide +kernel
theorem dX3_look_56 : decode cX3_look 56 = .ok (.putfield 52, 3) := by decide +kernel
theorem dX3_look_59 : decode cX3_look 59 = .ok (.aload_n 0, 1) := by decide +kernel
theorem dX3_look_60 : decode cX3_look 60 = .ok (.getfield 31, 3) := by decide +kernel
theorem dX3_look_63 : decode cX3_look 63 = .ok (.iload_n 3, 1) := by decide +kernel
theorem dX3_look_64 : decode cX3_look 64 = .ok (.baload, 1) := by decide +kernel
theorem dX3_look_65 : decode cX3_look 65 = .ok (.ifCond .eq 48, 3) := by decide +kernel
theorem dX3_look_68 : decode cX3_look 68 = .ok (.aload_n 0, 1) := by decide +kernel
theorem dX3_look_69 : decode cX3_look 69 = .ok (.iload_n 3, 1) := by decide +kernel
theorem dX3_look_70 : decode cX3_look 70 = .ok (.invokevirtual 75, 3) := by decide +kernel
theorem dX3_look_73 : decode cX3_look 73 = .ok (.aload_n 0, 1) := by decide +kernel
theorem dX3_look_74 : decode cX3_look 74 = .ok (.aload_n 0, 1) := by decide +kernel
theorem dX3_look_75 : decode cX3_look 75 = .ok (.getfield 56, 3) := by decide +kernel
theorem dX3_look_78 : decode cX3_look 78 = .ok (.iload_n 3, 1) := by decide +kernel
theorem dX3_look_79 : decode cX3_look 79 = .ok (.invokevirtual 79, 3) := by decide +kernel
theorem dX3_look_82 : decode cX3_look 82 = .ok (.invokevirtual 83, 3) := by decide +kernel
theorem dX3_look_85 : decode cX3_look 85 = .ok (.istore 4, 2) := by decide +kernel
theorem dX3_look_87 : decode cX3_look 87 = .ok (.iload 4, 2) := by decide +kernel
theorem dX3_look_89 : decode cX3_look 89 = .ok (.ifCond .eq 11, 3) := by decide +kernel
theorem dX3_look_92 : decode cX3_look 92 = .ok (.bipush 16, 2) := by decide +kernel
theorem dX3_look_94 : decode cX3_look 94 = .ok (.iload_n 3, 1) := by decide +kernel
theorem dX3_look_95 : decode cX3_look 95 = .ok (.imul, 1) := by decide +kernel
theorem dX3_look_96 : decode cX3_look 96 = .ok (.iload 4, 2) := by decide +kernel
theorem dX3_look_98 : decode cX3_look 98 = .ok (.iadd, 1) := by decide +kernel
theorem dX3_look_99 : decode cX3_look 99 = .ok (.ireturn, 1) := by decide +kernel
theorem dX3_look_100 : decode cX3_look 100 = .ok (.aload_n 0, 1) := by decide +kernel
theorem dX3_look_101 : decode cX3_look 101 = .ok (.iload_n 3, 1) := by decide +kernel
theorem dX3_look_102 : decode cX3_look 102 = .ok (.aload_n 0, 1) := by decide +kernel
theorem dX3_look_103 : decode cX3_look 103 = .ok (.getfield 56, 3) := by decide +kernel
theorem dX3_look_106 : decode cX3_look 106 = .ok (.iload_n 3, 1) := by decide +kernel
theorem dX3_look_107 : decode cX3_look 107 = .ok (.invokevirtual 79, 3) := by decide +kernel
theorem dX3_look_110 : decode cX3_look 110 = .ok (.invokevirtual 87, 3) := by decide +kernel
theorem dX3_look_113 : decode cX3_look 113 = .ok (.iinc 3 1, 3) := by decide +kernel
theorem dX3_look_116 : decode cX3_look 116 = .ok (.goto (-73), 3) := by decide +kernel
theorem dX3_look_119 : decode cX3_look 119 = .ok (.iconst 0, 1) := by decide +kernel
theorem dX3_look_120 : decode cX3_look 120 = .ok (.ireturn, 1) := by decide +kernel
theorem dX3_tell_0 : decode cX3_tell 0 = .ok (.iload_n 1, 1) := by decide +kernel
theorem dX3_tell_1 : decode cX3_tell 1 = .ok (.ifCond .lt 34, 3) := by decide +kernel
theorem dX3_tell_4 : decode cX3_tell 4 = .ok (.iload_n 1, 1) := by decide +kernel
theorem dX3_tell_5 : decode cX3_tell 5 = .ok (.aload_n 0, 1) := by decide +kernel
theorem dX3_tell_6 : decode cX3_tell 6 = .ok (.getfield 52, 3) := by decide +kernel
theorem dX3_tell_9 : decode cX3_tell 9 = .ok (.if_icmp .gt 26, 3) := by decide +kernel
theorem dX3_tell_12 : decode cX3_tell 12 = .ok (.aload_n 0, 1) := by decide +kernel
theorem dX3_tell_13 : decode cX3_tell 13 = .ok (.getfield 31, 3) := by decide +kernel
theorem dX3_tell_16 : decode cX3_tell 16 = .ok (.iload_n 1, 1) := by decide +kernel
theorem dX3_tell_17 : decode cX3_tell 17 = .ok (.baload, 1) := by decide +kernel
theorem dX3_tell_18 : decode cX3_tell 18 = .ok (.ifCond .eq 17, 3) := by decide +kernel
theorem dX3_tell_21 : decode cX3_tell 21 = .ok (.iload_n 2, 1) := by decide +kernel
theorem dX3_tell_22 : decode cX3_tell 22 = .ok (.ifCond .lt 13, 3) := by decide +kernel
theorem dX3_tell_25 : decode cX3_tell 25 = .ok (.iload_n 2, 1) := by decide +kernel
theorem dX3_tell_26 : decode cX3_tell 26 = .ok (.bipush 11, 2) := by decide +kernel
theorem dX3_tell_28 : decode cX3_tell 28 = .ok (.if_icmp .gt 7, 3) := by decide +kernel
theorem dX3_tell_31 : decode cX3_tell 31 = .ok (.iconst 1, 1) := by decide +kernel
theorem dX3_tell_32 : decode cX3_tell 32 = .ok (.goto 4, 3) := by decide +kernel
theorem dX3_tell_35 : decode cX3_tell 35 = .ok (.iconst 0, 1) := by decide +kernel
theorem dX3_tell_36 : decode cX3_tell 36 = .ok (.istore 4, 2) := by decide +kernel
theorem dX3_tell_38 : decode cX3_tell 38 = .ok (.iload 4, 2) := by decide +kernel
theorem dX3_tell_40 : decode cX3_tell 40 = .ok (.ifCond .ne 15, 3) := by decide +kernel
theorem dX3_tell_43 : decode cX3_tell 43 = .ok (.iload_n 3, 1) := by decide +kernel
theorem dX3_tell_44 : decode cX3_tell 44 = .ok (.ifCond .ne 9, 3) := by decide +kernel
theorem dX3_tell_47 : decode cX3_tell 47 = .ok (.ldc2_w 91, 3) := by decide +kernel
theorem dX3_tell_50 : decode cX3_tell 50 = .ok (.goto 4, 3) := by decide +kernel
theorem dX3_tell_53 : decode cX3_tell 53 = .ok (.lconst 0, 1) := by decide +kernel
theorem dX3_tell_54 : decode cX3_tell 54 = .ok (.lreturn, 1) := by decide +kernel
theorem dX3_tell_55 : decode cX3_tell 55 = .ok (.iload_n 2, 1) := by decide +kernel
theorem dX3_tell_56 : decode cX3_tell 56 = .ok (.bipush 11, 2) := by decide +kernel
theorem dX3_tell_58 : decode cX3_tell 58 = .ok (.if_icmp .ne 28, 3) := by decide +kernel
theorem dX3_tell_61 : decode cX3_tell 61 = .ok (.iload_n 3, 1) := by decide +kernel
theorem dX3_tell_62 : decode cX3_tell 62 = .ok (.ifCond .lt 9, 3) := by decide +kernel
theorem dX3_tell_65 : decode cX3_tell 65 = .ok (.iload_n 3, 1) := by decide +kernel
theorem dX3_tell_66 : decode cX3_tell 66 = .ok (.bipush 64, 2) := by decide +kernel
theorem dX3_tell_68 : decode cX3_tell 68 = .ok (.if_icmp .lt 7, 3) := by decide +kernel
theorem dX3_tell_71 : decode cX3_tell 71 = .ok (.lconst 0, 1) := by decide +kernel
theorem dX3_tell_72 : decode cX3_tell 72 = .ok (.goto 13, 3) := by decide +kernel
theorem dX3_tell_75 : decode cX3_tell 75 = .ok (.aload_n 0, 1) := by decide +kernel
theorem dX3_tell_76 : decode cX3_tell 76 = .ok (.getfield 28, 3) := by decide +kernel
theorem dX3_tell_79 : decode cX3_tell 79 = .ok (.iload_n 1, 1) := by decide +kernel
theorem dX3_tell_80 : decode cX3_tell 80 = .ok (.laload, 1) := by decide +kernel
theorem dX3_tell_81 : decode cX3_tell 81 = .ok (.iload_n 3, 1) := by decide +kernel
theorem dX3_tell_82 : decode cX3_tell 82 = .ok (.lushr, 1) := by decide +kernel
theorem dX3_tell_83 : decode cX3_tell 83 = .ok (.lconst 1, 1) := by decide +kernel
theorem dX3_tell_84 : decode cX3_tell 84 = .ok (.land, 1) := by decide +kernel
theorem dX3_tell_85 : decode cX3_tell 85 = .ok (.lreturn, 1) := by decide +kernel
theorem dX3_tell_86 : decode cX3_tell 86 = .ok (.iload_n 1, 1) := by decide +kernel
theorem dX3_tell_87 : decode cX3_tell 87 = .ok (.bipush 11, 2) := by decide +kernel
theorem dX3_tell_89 : decode cX3_tell 89 = .ok (.imul, 1) := by decide +kernel
theorem dX3_tell_90 : decode cX3_tell 90 = .ok (.iload_n 2, 1) := by decide +kernel
theorem dX3_tell_91 : decode cX3_tell 91 = .ok (.iadd, 1) := by decide +kernel
theorem dX3_tell_92 : decode cX3_tell 92 = .ok (.istore 5, 2) := by decide +kernel
theorem dX3_tell_94 : decode cX3_tell 94 = .ok (.iload_n 3, 1) := by decide +kernel
theorem dX3_tell_95 : decode cX3_tell 95 = .ok (.tableswitch 74 0 4 #[33, 42, 50, 58, 66], 33) := by decide +kernel
theorem dX3_tell_128 : decode cX3_tell 128 = .ok (.aload_n 0, 1) := by decide +kernel
theorem dX3_tell_129 : decode cX3_tell 129 = .ok (.getfield 9, 3) := by decide +kernel
theorem dX3_tell_132 : decode cX3_tell 132 = .ok (.iload 5, 2) := by decide +kernel
theorem dX3_tell_134 : decode cX3_tell 134 = .ok (.baload, 1) := by decide +kernel
theorem dX3_tell_135 : decode cX3_tell 135 = .ok (.i2l, 1) := by decide +kernel
theorem dX3_tell_136 : decode cX3_tell 136 = .ok (.lreturn, 1) := by decide +kernel
theorem dX3_tell_137 : decode cX3_tell 137 = .ok (.aload_n 0, 1) := by decide +kernel
theorem dX3_tell_138 : decode cX3_tell 138 = .ok (.getfield 15, 3) := by decide +kernel
theorem dX3_tell_141 : decode cX3_tell 141 = .ok (.iload 5, 2) := by decide +kernel
theorem dX3_tell_143 : decode cX3_tell 143 = .ok (.laload, 1) := by decide +kernel
theorem dX3_tell_144 : decode cX3_tell 144 = .ok (.lreturn, 1) := by decide +kernel
theorem dX3_tell_145 : decode cX3_tell 145 = .ok (.aload_n 0, 1) := by decide +kernel
theorem dX3_tell_146 : decode cX3_tell 146 = .ok (.getfield 19, 3) := by decide +kernel
theorem dX3_tell_149 : decode cX3_tell 149 = .ok (.iload 5, 2) := by decide +kernel
theorem dX3_tell_151 : decode cX3_tell 151 = .ok (.laload, 1) := by decide +kernel
theorem dX3_tell_152 : decode cX3_tell 152 = .ok (.lreturn, 1) := by decide +kernel
theorem dX3_tell_153 : decode cX3_tell 153 = .ok (.aload_n 0, 1) := by decide +kernel
theorem dX3_tell_154 : decode cX3_tell 154 = .ok (.getfield 22, 3) := by decide +kernel
theorem dX3_tell_157 : decode cX3_tell 157 = .ok (.iload 5, 2) := by decide +kernel
theorem dX3_tell_159 : decode cX3_tell 159 = .ok (.laload, 1) := by decide +kernel
theorem dX3_tell_160 : decode cX3_tell 160 = .ok (.lreturn, 1) := by decide +kernel
theorem dX3_tell_161 : decode cX3_tell 161 = .ok (.aload_n 0, 1) := by decide +kernel
theorem dX3_tell_162 : decode cX3_tell 162 = .ok (.getfield 25, 3) := by decide +kernel
theorem dX3_tell_165 : decode cX3_tell 165 = .ok (.iload 5, 2) := by decide +kernel
theorem dX3_tell_167 : decode cX3_tell 167 = .ok (.laload, 1) := by decide +kernel
theorem dX3_tell_168 : decode cX3_tell 168 = .ok (.lreturn, 1) := by decide +kernel
theorem dX3_tell_169 : decode cX3_tell 169 = .ok (.lconst 0, 1) := by decide +kernel
theorem dX3_tell_170 : decode cX3_tell 170 = .ok (.lreturn, 1) := by decide +kernel
theorem dX3_firstUnfit_0 : decode cX3_firstUnfit 0 = .ok (.iconst 0, 1) := by decide +kernel
theorem dX3_firstUnfit_1 : decode cX3_firstUnfit 1 = .ok (.istore_n 1, 1) := by decide +kernel
theorem dX3_firstUnfit_2 : decode cX3_firstUnfit 2 = .ok (.iload_n 1, 1) := by decide +kernel
theorem dX3_firstUnfit_3 : decode cX3_firstUnfit 3 = .ok (.aload_n 0, 1) := by decide +kernel
theorem dX3_firstUnfit_4 : decode cX3_firstUnfit 4 = .ok (.getfield 56, 3) := by decide +kernel
theorem dX3_firstUnfit_7 : decode cX3_firstUnfit 7 = .ok (.getfield 60, 3) := by decide +kernel
theorem dX3_firstUnfit_10 : decode cX3_firstUnfit 10 = .ok (.if_icmp .ge 48, 3) := by decide +kernel
theorem dX3_firstUnfit_13 : decode cX3_firstUnfit 13 = .ok (.aload_n 0, 1) := by decide +kernel
theorem dX3_firstUnfit_14 : decode cX3_firstUnfit 14 = .ok (.getfield 56, 3) := by decide +kernel
theorem dX3_firstUnfit_17 : decode cX3_firstUnfit 17 = .ok (.iload_n 1, 1) := by decide +kernel
theorem dX3_firstUnfit_18 : decode cX3_firstUnfit 18 = .ok (.invokevirtual 79, 3) := by decide +kernel
theorem dX3_firstUnfit_21 : decode cX3_firstUnfit 21 = .ok (.lstore_n 2, 1) := by decide +kernel
theorem dX3_firstUnfit_22 : decode cX3_firstUnfit 22 = .ok (.lload_n 2, 1) := by decide +kernel
theorem dX3_firstUnfit_23 : decode cX3_firstUnfit 23 = .ok (.invokestatic 93, 3) := by decide +kernel
theorem dX3_firstUnfit_26 : decode cX3_firstUnfit 26 = .ok (.ifCond .ne 10, 3) := by decide +kernel
theorem dX3_firstUnfit_29 : decode cX3_firstUnfit 29 = .ok (.bipush 16, 2) := by decide +kernel
theorem dX3_firstUnfit_31 : decode cX3_firstUnfit 31 = .ok (.iload_n 1, 1) := by decide +kernel
theorem dX3_firstUnfit_32 : decode cX3_firstUnfit 32 = .ok (.imul, 1) := by decide +kernel
theorem dX3_firstUnfit_33 : decode cX3_firstUnfit 33 = .ok (.iconst 1, 1) := by decide +kernel
theorem dX3_firstUnfit_34 : decode cX3_firstUnfit 34 = .ok (.iadd, 1) := by decide +kernel
theorem dX3_firstUnfit_35 : decode cX3_firstUnfit 35 = .ok (.ireturn, 1) := by decide +kernel
theorem dX3_firstUnfit_36 : decode cX3_firstUnfit 36 = .ok (.aload_n 0, 1) := by decide +kernel
theorem dX3_firstUnfit_37 : decode cX3_firstUnfit 37 = .ok (.iload_n 1, 1) := by decide +kernel
theorem dX3_firstUnfit_38 : decode cX3_firstUnfit 38 = .ok (.lload_n 2, 1) := by decide +kernel
theorem dX3_firstUnfit_39 : decode cX3_firstUnfit 39 = .ok (.invokevirtual 97, 3) := by decide +kernel
theorem dX3_firstUnfit_42 : decode cX3_firstUnfit 42 = .ok (.ifCond .eq 10, 3) := by decide +kernel
theorem dX3_firstUnfit_45 : decode cX3_firstUnfit 45 = .ok (.bipush 16, 2) := by decide +kernel
theorem dX3_firstUnfit_47 : decode cX3_firstUnfit 47 = .ok (.iload_n 1, 1) := by decide +kernel
theorem dX3_firstUnfit_48 : decode cX3_firstUnfit 48 = .ok (.imul, 1) := by decide +kernel
theorem dX3_firstUnfit_49 : decode cX3_firstUnfit 49 = .ok (.iconst 2, 1) := by decide +kernel
theorem dX3_firstUnfit_50 : decode cX3_firstUnfit 50 = .ok (.iadd, 1) := by decide +kernel
theorem dX3_firstUnfit_51 : decode cX3_firstUnfit 51 = .ok (.ireturn, 1) := by decide +kernel
theorem dX3_firstUnfit_52 : decode cX3_firstUnfit 52 = .ok (.iinc 1 1, 3) := by decide +kernel
theorem dX3_firstUnfit_55 : decode cX3_firstUnfit 55 = .ok (.goto (-53), 3) := by decide +kernel
theorem dX3_firstUnfit_58 : decode cX3_firstUnfit 58 = .ok (.iconst 0, 1) := by decide +kernel
theorem dX3_firstUnfit_59 : decode cX3_firstUnfit 59 = .ok (.ireturn, 1) := by decide +kernel
theorem dX3_goesAstray_0 : decode cX3_goesAstray 0 = .ok (.lload_n 2, 1) := by decide +kernel
theorem dX3_goesAstray_1 : decode cX3_goesAstray 1 = .ok (.invokestatic 101, 3) := by decide +kernel
theorem dX3_goesAstray_4 : decode cX3_goesAstray 4 = .ok (.istore 4, 2) := by decide +kernel
theorem dX3_goesAstray_6 : decode cX3_goesAstray 6 = .ok (.iload 4, 2) := by decide +kernel
theorem dX3_goesAstray_8 : decode cX3_goesAstray 8 = .ok (.sipush 149, 3) := by decide +kernel
theorem dX3_goesAstray_11 : decode cX3_goesAstray 11 = .ok (.if_icmp .ne 5, 3) := by decide +kernel
theorem dX3_goesAstray_14 : decode cX3_goesAstray 14 = .ok (.iconst 0, 1) := by decide +kernel
theorem dX3_goesAstray_15 : decode cX3_goesAstray 15 = .ok (.ireturn, 1) := by decide +kernel
theorem dX3_goesAstray_16 : decode cX3_goesAstray 16 = .ok (.iload 4, 2) := by decide +kernel
theorem dX3_goesAstray_18 : decode cX3_goesAstray 18 = .ok (.invokestatic 104, 3) := by decide +kernel
theorem dX3_goesAstray_21 : decode cX3_goesAstray 21 = .ok (.ifCond .eq 14, 3) := by decide +kernel
theorem dX3_goesAstray_24 : decode cX3_goesAstray 24 = .ok (.iload_n 1, 1) := by decide +kernel
theorem dX3_goesAstray_25 : decode cX3_goesAstray 25 = .ok (.iconst 1, 1) := by decide +kernel
theorem dX3_goesAstray_26 : decode cX3_goesAstray 26 = .ok (.iadd, 1) := by decide +kernel
theorem dX3_goesAstray_27 : decode cX3_goesAstray 27 = .ok (.lload_n 2, 1) := by decide +kernel
theorem dX3_goesAstray_28 : decode cX3_goesAstray 28 = .ok (.invokestatic 108, 3) := by decide +kernel
theorem dX3_goesAstray_31 : decode cX3_goesAstray 31 = .ok (.iadd, 1) := by decide +kernel
theorem dX3_goesAstray_32 : decode cX3_goesAstray 32 = .ok (.goto 6, 3) := by decide +kernel
theorem dX3_goesAstray_35 : decode cX3_goesAstray 35 = .ok (.iload_n 1, 1) := by decide +kernel
theorem dX3_goesAstray_36 : decode cX3_goesAstray 36 = .ok (.iconst 1, 1) := by decide +kernel
theorem dX3_goesAstray_37 : decode cX3_goesAstray 37 = .ok (.iadd, 1) := by decide +kernel
theorem dX3_goesAstray_38 : decode cX3_goesAstray 38 = .ok (.istore 5, 2) := by decide +kernel
theorem dX3_goesAstray_40 : decode cX3_goesAstray 40 = .ok (.iload_n 1, 1) := by decide +kernel
theorem dX3_goesAstray_41 : decode cX3_goesAstray 41 = .ok (.aload_n 0, 1) := by decide +kernel
theorem dX3_goesAstray_42 : decode cX3_goesAstray 42 = .ok (.getfield 56, 3) := by decide +kernel
theorem dX3_goesAstray_45 : decode cX3_goesAstray 45 = .ok (.getfield 60, 3) := by decide +kernel
theorem dX3_goesAstray_48 : decode cX3_goesAstray 48 = .ok (.iconst 1, 1) := by decide +kernel
theorem dX3_goesAstray_49 : decode cX3_goesAstray 49 = .ok (.isub, 1) := by decide +kernel
theorem dX3_goesAstray_50 : decode cX3_goesAstray 50 = .ok (.if_icmp .eq 21, 3) := by decide +kernel
theorem dX3_goesAstray_53 : decode cX3_goesAstray 53 = .ok (.iload 5, 2) := by decide +kernel
theorem dX3_goesAstray_55 : decode cX3_goesAstray 55 = .ok (.iload_n 1, 1) := by decide +kernel
theorem dX3_goesAstray_56 : decode cX3_goesAstray 56 = .ok (.if_icmp .le 15, 3) := by decide +kernel
theorem dX3_goesAstray_59 : decode cX3_goesAstray 59 = .ok (.iload 5, 2) := by decide +kernel
theorem dX3_goesAstray_61 : decode cX3_goesAstray 61 = .ok (.aload_n 0, 1) := by decide +kernel
theorem dX3_goesAstray_62 : decode cX3_goesAstray 62 = .ok (.getfield 56, 3) := by decide +kernel
theorem dX3_goesAstray_65 : decode cX3_goesAstray 65 = .ok (.getfield 60, 3) := by decide +kernel
theorem dX3_goesAstray_68 : decode cX3_goesAstray 68 = .ok (.if_icmp .lt 7, 3) := by decide +kernel
theorem dX3_goesAstray_71 : decode cX3_goesAstray 71 = .ok (.iconst 1, 1) := by decide +kernel
theorem dX3_goesAstray_72 : decode cX3_goesAstray 72 = .ok (.goto 4, 3) := by decide +kernel
theorem dX3_goesAstray_75 : decode cX3_goesAstray 75 = .ok (.iconst 0, 1) := by decide +kernel
theorem dX3_goesAstray_76 : decode cX3_goesAstray 76 = .ok (.ireturn, 1) := by decide +kernel
theorem dX3_makeRoom_0 : decode cX3_makeRoom 0 = .ok (.aload_n 0, 1) := by decide +kernel
theorem dX3_makeRoom_1 : decode cX3_makeRoom 1 = .ok (.getfield 31, 3) := by decide +kernel
theorem dX3_makeRoom_4 : decode cX3_makeRoom 4 = .ok (.arraylength, 1) := by decide +kernel
theorem dX3_makeRoom_5 : decode cX3_makeRoom 5 = .ok (.aload_n 0, 1) := by decide +kernel
theorem dX3_makeRoom_6 : decode cX3_makeRoom 6 = .ok (.getfield 56, 3) := by decide +kernel
theorem dX3_makeRoom_9 : decode cX3_makeRoom 9 = .ok (.getfield 60, 3) := by decide +kernel
theorem dX3_makeRoom_12 : decode cX3_makeRoom 12 = .ok (.if_icmp .lt 4, 3) := by decide +kernel
theorem dX3_makeRoom_15 : decode cX3_makeRoom 15 = .ok (.return_, 1) := by decide +kernel
theorem dX3_makeRoom_16 : decode cX3_makeRoom 16 = .ok (.bipush 64, 2) := by decide +kernel
theorem dX3_makeRoom_18 : decode cX3_makeRoom 18 = .ok (.istore_n 1, 1) := by decide +kernel
theorem dX3_makeRoom_19 : decode cX3_makeRoom 19 = .ok (.iload_n 1, 1) := by decide +kernel
theorem dX3_makeRoom_20 : decode cX3_makeRoom 20 = .ok (.aload_n 0, 1) := by decide +kernel
theorem dX3_makeRoom_21 : decode cX3_makeRoom 21 = .ok (.getfield 56, 3) := by decide +kernel
theorem dX3_makeRoom_24 : decode cX3_makeRoom 24 = .ok (.getfield 60, 3) := by decide +kernel
theorem dX3_makeRoom_27 : decode cX3_makeRoom 27 = .ok (.if_icmp .ge 17, 3) := by decide +kernel
theorem dX3_makeRoom_30 : decode cX3_makeRoom 30 = .ok (.iload_n 1, 1) := by decide +kernel
theorem dX3_makeRoom_31 : decode cX3_makeRoom 31 = .ok (.sipush 4000, 3) := by decide +kernel
theorem dX3_makeRoom_34 : decode cX3_makeRoom 34 = .ok (.if_icmp .ge 10, 3) := by decide +kernel
theorem dX3_makeRoom_37 : decode cX3_makeRoom 37 = .ok (.iload_n 1, 1) := by decide +kernel
theorem dX3_makeRoom_38 : decode cX3_makeRoom 38 = .ok (.iconst 2, 1) := by decide +kernel
theorem dX3_makeRoom_39 : decode cX3_makeRoom 39 = .ok (.imul, 1) := by decide +kernel
theorem dX3_makeRoom_40 : decode cX3_makeRoom 40 = .ok (.istore_n 1, 1) := by decide +kernel
theorem dX3_makeRoom_41 : decode cX3_makeRoom 41 = .ok (.goto (-22), 3) := by decide +kernel
theorem dX3_makeRoom_44 : decode cX3_makeRoom 44 = .ok (.iload_n 1, 1) := by decide +kernel
theorem dX3_makeRoom_45 : decode cX3_makeRoom 45 = .ok (.sipush 4000, 3) := by decide +kernel
theorem dX3_makeRoom_48 : decode cX3_makeRoom 48 = .ok (.if_icmp .le 9, 3) := by decide +kernel
theorem dX3_makeRoom_51 : decode cX3_makeRoom 51 = .ok (.sipush 4000, 3) := by decide +kernel
theorem dX3_makeRoom_54 : decode cX3_makeRoom 54 = .ok (.goto 4, 3) := by decide +kernel
theorem dX3_makeRoom_57 : decode cX3_makeRoom 57 = .ok (.iload_n 1, 1) := by decide +kernel
theorem dX3_makeRoom_58 : decode cX3_makeRoom 58 = .ok (.istore_n 1, 1) := by decide +kernel
theorem dX3_makeRoom_59 : decode cX3_makeRoom 59 = .ok (.aload_n 0, 1) := by decide +kernel
theorem dX3_makeRoom_60 : decode cX3_makeRoom 60 = .ok (.iload_n 1, 1) := by decide +kernel
theorem dX3_makeRoom_61 : decode cX3_makeRoom 61 = .ok (.bipush 11, 2) := by decide +kernel
theorem dX3_makeRoom_63 : decode cX3_makeRoom 63 = .ok (.imul, 1) := by decide +kernel
theorem dX3_makeRoom_64 : decode cX3_makeRoom 64 = .ok (.newarray .byte, 2) := by decide +kernel
theorem dX3_makeRoom_66 : decode cX3_makeRoom 66 = .ok (.putfield 9, 3) := by decide +kernel
theorem dX3_makeRoom_69 : decode cX3_makeRoom 69 = .ok (.aload_n 0, 1) := by decide +kernel
theorem dX3_makeRoom_70 : decode cX3_makeRoom 70 = .ok (.iload_n 1, 1) := by decide +kernel
theorem dX3_makeRoom_71 : decode cX3_makeRoom 71 = .ok (.bipush 11, 2) := by decide +kernel
theorem dX3_makeRoom_73 : decode cX3_makeRoom 73 = .ok (.imul, 1) := by decide +kernel
theorem dX3_makeRoom_74 : decode cX3_makeRoom 74 = .ok (.newarray .long, 2) := by decide +kernel
theorem dX3_makeRoom_76 : decode cX3_makeRoom 76 = .ok (.putfield 15, 3) := by decide +kernel
theorem dX3_makeRoom_79 : decode cX3_makeRoom 79 = .ok (.aload_n 0, 1) := by decide +kernel
theorem dX3_makeRoom_80 : decode cX3_makeRoom 80 = .ok (.iload_n 1, 1) := by decide +kernel
theorem dX3_makeRoom_81 : decode cX3_makeRoom 81 = .ok (.bipush 11, 2) := by decide +kernel
theorem dX3_makeRoom_83 : decode cX3_makeRoom 83 = .ok (.imul, 1) := by decide +kernel
theorem dX3_makeRoom_84 : decode cX3_makeRoom 84 = .ok (.newarray .long, 2) := by decide +kernel
theorem dX3_makeRoom_86 : decode cX3_makeRoom 86 = .ok (.putfield 19, 3) := by decide +kernel
theorem dX3_makeRoom_89 : decode cX3_makeRoom 89 = .ok (.aload_n 0, 1) := by decide +kernel
theorem dX3_makeRoom_90 : decode cX3_makeRoom 90 = .ok (.iload_n 1, 1) := by decide +kernel
theorem dX3_makeRoom_91 : decode cX3_makeRoom 91 = .ok (.bipush 11, 2) := by decide +kernel
theorem dX3_makeRoom_93 : decode cX3_makeRoom 93 = .ok (.imul, 1) := by decide +kernel
theorem dX3_makeRoom_94 : decode cX3_makeRoom 94 = .ok (.newarray .long, 2) := by decide +kernel
theorem dX3_makeRoom_96 : decode cX3_makeRoom 96 = .ok (.putfield 22, 3) := by decide +kernel
theorem dX3_makeRoom_99 : decode cX3_makeRoom 99 = .ok (.aload_n 0, 1) := by decide +kernel
theorem dX3_makeRoom_100 : decode cX3_makeRoom 100 = .ok (.iload_n 1, 1) := by decide +kernel
theorem dX3_makeRoom_101 : decode cX3_makeRoom 101 = .ok (.bipush 11, 2) := by decide +kernel
theorem dX3_makeRoom_103 : decode cX3_makeRoom 103 = .ok (.imul, 1) := by decide +kernel
theorem dX3_makeRoom_104 : decode cX3_makeRoom 104 = .ok (.newarray .long, 2) := by decide +kernel
theorem dX3_makeRoom_106 : decode cX3_makeRoom 106 = .ok (.putfield 25, 3) := by decide +kernel
theorem dX3_makeRoom_109 : decode cX3_makeRoom 109 = .ok (.aload_n 0, 1) := by decide +kernel
theorem dX3_makeRoom_110 : decode cX3_makeRoom 110 = .ok (.iload_n 1, 1) := by decide +kernel
theorem dX3_makeRoom_111 : decode cX3_makeRoom 111 = .ok (.newarray .long, 2) := by decide +kernel
theorem dX3_makeRoom_113 : decode cX3_makeRoom 113 = .ok (.putfield 28, 3) := by decide +kernel
theorem dX3_makeRoom_116 : decode cX3_makeRoom 116 = .ok (.aload_n 0, 1) := by decide +kernel
theorem dX3_makeRoom_117 : decode cX3_makeRoom 117 = .ok (.iload_n 1, 1) := by decide +kernel
theorem dX3_makeRoom_118 : decode cX3_makeRoom 118 = .ok (.newarray .boolean, 2) := by decide +kernel
theorem dX3_makeRoom_120 : decode cX3_makeRoom 120 = .ok (.putfield 31, 3) := by decide +kernel
theorem dX3_makeRoom_123 : decode cX3_makeRoom 123 = .ok (.return_, 1) := by decide +kernel
theorem dX3_begin_0 : decode cX3_begin 0 = .ok (.iconst 0, 1) := by decide +kernel
theorem dX3_begin_1 : decode cX3_begin 1 = .ok (.istore_n 1, 1) := by decide +kernel
theorem dX3_begin_2 : decode cX3_begin 2 = .ok (.iload_n 1, 1) := by decide +kernel
theorem dX3_begin_3 : decode cX3_begin 3 = .ok (.aload_n 0, 1) := by decide +kernel
theorem dX3_begin_4 : decode cX3_begin 4 = .ok (.getfield 56, 3) := by decide +kernel
theorem dX3_begin_7 : decode cX3_begin 7 = .ok (.getfield 60, 3) := by decide +kernel
theorem dX3_begin_10 : decode cX3_begin 10 = .ok (.if_icmp .ge 16, 3) := by decide +kernel
theorem dX3_begin_13 : decode cX3_begin 13 = .ok (.aload_n 0, 1) := by decide +kernel
theorem dX3_begin_14 : decode cX3_begin 14 = .ok (.getfield 31, 3) := by decide +kernel
theorem dX3_begin_17 : decode cX3_begin 17 = .ok (.iload_n 1, 1) := by decide +kernel
theorem dX3_begin_18 : decode cX3_begin 18 = .ok (.iconst 0, 1) := by decide +kernel
theorem dX3_begin_19 : decode cX3_begin 19 = .ok (.bastore, 1) := by decide +kernel
theorem dX3_begin_20 : decode cX3_begin 20 = .ok (.iinc 1 1, 3) := by decide +kernel
theorem dX3_begin_23 : decode cX3_begin 23 = .ok (.goto (-21), 3) := by decide +kernel
theorem dX3_begin_26 : decode cX3_begin 26 = .ok (.iconst 0, 1) := by decide +kernel
theorem dX3_begin_27 : decode cX3_begin 27 = .ok (.istore_n 1, 1) := by decide +kernel
theorem dX3_begin_28 : decode cX3_begin 28 = .ok (.iload_n 1, 1) := by decide +kernel
theorem dX3_begin_29 : decode cX3_begin 29 = .ok (.bipush 11, 2) := by decide +kernel
theorem dX3_begin_31 : decode cX3_begin 31 = .ok (.if_icmp .ge 18, 3) := by decide +kernel
theorem dX3_begin_34 : decode cX3_begin 34 = .ok (.aload_n 0, 1) := by decide +kernel
theorem dX3_begin_35 : decode cX3_begin 35 = .ok (.getfield 37, 3) := by decide +kernel
theorem dX3_begin_38 : decode cX3_begin 38 = .ok (.iload_n 1, 1) := by decide +kernel
theorem dX3_begin_39 : decode cX3_begin 39 = .ok (.aaload, 1) := by decide +kernel
theorem dX3_begin_40 : decode cX3_begin 40 = .ok (.invokevirtual 111, 3) := by decide +kernel
theorem dX3_begin_43 : decode cX3_begin 43 = .ok (.iinc 1 1, 3) := by decide +kernel
theorem dX3_begin_46 : decode cX3_begin 46 = .ok (.goto (-18), 3) := by decide +kernel
theorem dX3_begin_49 : decode cX3_begin 49 = .ok (.aload_n 0, 1) := by decide +kernel
theorem dX3_begin_50 : decode cX3_begin 50 = .ok (.getfield 37, 3) := by decide +kernel
theorem dX3_begin_53 : decode cX3_begin 53 = .ok (.iconst 1, 1) := by decide +kernel
theorem dX3_begin_54 : decode cX3_begin 54 = .ok (.aaload, 1) := by decide +kernel
theorem dX3_begin_55 : decode cX3_begin 55 = .ok (.lconst 0, 1) := by decide +kernel
theorem dX3_begin_56 : decode cX3_begin 56 = .ok (.ldc2_w 114, 3) := by decide +kernel
theorem dX3_begin_59 : decode cX3_begin 59 = .ok (.invokevirtual 116, 3) := by decide +kernel
theorem dX3_begin_62 : decode cX3_begin 62 = .ok (.aload_n 0, 1) := by decide +kernel
theorem dX3_begin_63 : decode cX3_begin 63 = .ok (.getfield 37, 3) := by decide +kernel
theorem dX3_begin_66 : decode cX3_begin 66 = .ok (.bipush 10, 2) := by decide +kernel
theorem dX3_begin_68 : decode cX3_begin 68 = .ok (.aaload, 1) := by decide +kernel
theorem dX3_begin_69 : decode cX3_begin 69 = .ok (.lconst 0, 1) := by decide +kernel
theorem dX3_begin_70 : decode cX3_begin 70 = .ok (.invokevirtual 120, 3) := by decide +kernel
theorem dX3_begin_73 : decode cX3_begin 73 = .ok (.aload_n 0, 1) := by decide +kernel
theorem dX3_begin_74 : decode cX3_begin 74 = .ok (.getfield 37, 3) := by decide +kernel
theorem dX3_begin_77 : decode cX3_begin 77 = .ok (.bipush 10, 2) := by decide +kernel
theorem dX3_begin_79 : decode cX3_begin 79 = .ok (.aaload, 1) := by decide +kernel
theorem dX3_begin_80 : decode cX3_begin 80 = .ok (.iconst 2, 1) := by decide +kernel
theorem dX3_begin_81 : decode cX3_begin 81 = .ok (.putfield 124, 3) := by decide +kernel
theorem dX3_begin_84 : decode cX3_begin 84 = .ok (.aload_n 0, 1) := by decide +kernel
theorem dX3_begin_85 : decode cX3_begin 85 = .ok (.lconst 0, 1) := by decide +kernel
theorem dX3_begin_86 : decode cX3_begin 86 = .ok (.putfield 127, 3) := by decide +kernel
theorem dX3_begin_89 : decode cX3_begin 89 = .ok (.aload_n 0, 1) := by decide +kernel
theorem dX3_begin_90 : decode cX3_begin 90 = .ok (.iconst 0, 1) := by decide +kernel
theorem dX3_begin_91 : decode cX3_begin 91 = .ok (.invokevirtual 131, 3) := by decide +kernel
theorem dX3_begin_94 : decode cX3_begin 94 = .ok (.return_, 1) := by decide +kernel
theorem dX3_bring_0 : decode cX3_bring 0 = .ok (.iconst 0, 1) := by decide +kernel
theorem dX3_bring_1 : decode cX3_bring 1 = .ok (.istore_n 2, 1) := by decide +kernel
theorem dX3_bring_2 : decode cX3_bring 2 = .ok (.iload_n 2, 1) := by decide +kernel
theorem dX3_bring_3 : decode cX3_bring 3 = .ok (.bipush 11, 2) := by decide +kernel
theorem dX3_bring_5 : decode cX3_bring 5 = .ok (.if_icmp .ge 91, 3) := by decide +kernel
theorem dX3_bring_8 : decode cX3_bring 8 = .ok (.iload_n 1, 1) := by decide +kernel
theorem dX3_bring_9 : decode cX3_bring 9 = .ok (.bipush 11, 2) := by decide +kernel
theorem dX3_bring_11 : decode cX3_bring 11 = .ok (.imul, 1) := by decide +kernel
theorem dX3_bring_12 : decode cX3_bring 12 = .ok (.iload_n 2, 1) := by decide +kernel
theorem dX3_bring_13 : decode cX3_bring 13 = .ok (.iadd, 1) := by decide +kernel
theorem dX3_bring_14 : decode cX3_bring 14 = .ok (.istore_n 3, 1) := by decide +kernel
theorem dX3_bring_15 : decode cX3_bring 15 = .ok (.aload_n 0, 1) := by decide +kernel
theorem dX3_bring_16 : decode cX3_bring 16 = .ok (.getfield 37, 3) := by decide +kernel
theorem dX3_bring_19 : decode cX3_bring 19 = .ok (.iload_n 2, 1) := by decide +kernel
theorem dX3_bring_20 : decode cX3_bring 20 = .ok (.aaload, 1) := by decide +kernel
theorem dX3_bring_21 : decode cX3_bring 21 = .ok (.aload_n 0, 1) := by decide +kernel
theorem dX3_bring_22 : decode cX3_bring 22 = .ok (.getfield 9, 3) := by decide +kernel
theorem dX3_bring_25 : decode cX3_bring 25 = .ok (.iload_n 3, 1) := by decide +kernel
theorem dX3_bring_26 : decode cX3_bring 26 = .ok (.baload, 1) := by decide +kernel
theorem dX3_bring_27 : decode cX3_bring 27 = .ok (.putfield 124, 3) := by decide +kernel
theorem dX3_bring_30 : decode cX3_bring 30 = .ok (.aload_n 0, 1) := by decide +kernel
theorem dX3_bring_31 : decode cX3_bring 31 = .ok (.getfield 37, 3) := by decide +kernel
theorem dX3_bring_34 : decode cX3_bring 34 = .ok (.iload_n 2, 1) := by decide +kernel
theorem dX3_bring_35 : decode cX3_bring 35 = .ok (.aaload, 1) := by decide +kernel
theorem dX3_bring_36 : decode cX3_bring 36 = .ok (.aload_n 0, 1) := by decide +kernel
theorem dX3_bring_37 : decode cX3_bring 37 = .ok (.getfield 15, 3) := by decide +kernel
theorem dX3_bring_40 : decode cX3_bring 40 = .ok (.iload_n 3, 1) := by decide +kernel
theorem dX3_bring_41 : decode cX3_bring 41 = .ok (.laload, 1) := by decide +kernel
theorem dX3_bring_42 : decode cX3_bring 42 = .ok (.putfield 134, 3) := by decide +kernel
theorem dX3_bring_45 : decode cX3_bring 45 = .ok (.aload_n 0, 1) := by decide +kernel
theorem dX3_bring_46 : decode cX3_bring 46 = .ok (.getfield 37, 3) := by decide +kernel
theorem dX3_bring_49 : decode cX3_bring 49 = .ok (.iload_n 2, 1) := by decide +kernel
theorem dX3_bring_50 : decode cX3_bring 50 = .ok (.aaload, 1) := by decide +kernel
theorem dX3_bring_51 : decode cX3_bring 51 = .ok (.aload_n 0, 1) := by decide +kernel
theorem dX3_bring_52 : decode cX3_bring 52 = .ok (.getfield 19, 3) := by decide +kernel
theorem dX3_bring_55 : decode cX3_bring 55 = .ok (.iload_n 3, 1) := by decide +kernel
theorem dX3_bring_56 : decode cX3_bring 56 = .ok (.laload, 1) := by decide +kernel
theorem dX3_bring_57 : decode cX3_bring 57 = .ok (.putfield 137, 3) := by decide +kernel
theorem dX3_bring_60 : decode cX3_bring 60 = .ok (.aload_n 0, 1) := by decide +kernel
theorem dX3_bring_61 : decode cX3_bring 61 = .ok (.getfield 37, 3) := by decide +kernel
theorem dX3_bring_64 : decode cX3_bring 64 = .ok (.iload_n 2, 1) := by decide +kernel
theorem dX3_bring_65 : decode cX3_bring 65 = .ok (.aaload, 1) := by decide +kernel
theorem dX3_bring_66 : decode cX3_bring 66 = .ok (.aload_n 0, 1) := by decide +kernel
theorem dX3_bring_67 : decode cX3_bring 67 = .ok (.getfield 22, 3) := by decide +kernel
theorem dX3_bring_70 : decode cX3_bring 70 = .ok (.iload_n 3, 1) := by decide +kernel
theorem dX3_bring_71 : decode cX3_bring 71 = .ok (.laload, 1) := by decide +kernel
theorem dX3_bring_72 : decode cX3_bring 72 = .ok (.putfield 140, 3) := by decide +kernel
theorem dX3_bring_75 : decode cX3_bring 75 = .ok (.aload_n 0, 1) := by decide +kernel
theorem dX3_bring_76 : decode cX3_bring 76 = .ok (.getfield 37, 3) := by decide +kernel
theorem dX3_bring_79 : decode cX3_bring 79 = .ok (.iload_n 2, 1) := by decide +kernel
theorem dX3_bring_80 : decode cX3_bring 80 = .ok (.aaload, 1) := by decide +kernel
theorem dX3_bring_81 : decode cX3_bring 81 = .ok (.aload_n 0, 1) := by decide +kernel
theorem dX3_bring_82 : decode cX3_bring 82 = .ok (.getfield 25, 3) := by decide +kernel
theorem dX3_bring_85 : decode cX3_bring 85 = .ok (.iload_n 3, 1) := by decide +kernel
theorem dX3_bring_86 : decode cX3_bring 86 = .ok (.laload, 1) := by decide +kernel
theorem dX3_bring_87 : decode cX3_bring 87 = .ok (.putfield 143, 3) := by decide +kernel
theorem dX3_bring_90 : decode cX3_bring 90 = .ok (.iinc 2 1, 3) := by decide +kernel
theorem dX3_bring_93 : decode cX3_bring 93 = .ok (.goto (-91), 3) := by decide +kernel
theorem dX3_bring_96 : decode cX3_bring 96 = .ok (.aload_n 0, 1) := by decide +kernel
theorem dX3_bring_97 : decode cX3_bring 97 = .ok (.aload_n 0, 1) := by decide +kernel
theorem dX3_bring_98 : decode cX3_bring 98 = .ok (.getfield 28, 3) := by decide +kernel
theorem dX3_bring_101 : decode cX3_bring 101 = .ok (.iload_n 1, 1) := by decide +kernel
theorem dX3_bring_102 : decode cX3_bring 102 = .ok (.laload, 1) := by decide +kernel
theorem dX3_bring_103 : decode cX3_bring 103 = .ok (.putfield 127, 3) := by decide +kernel
theorem dX3_bring_106 : decode cX3_bring 106 = .ok (.return_, 1) := by decide +kernel
theorem dX3_arrive_0 : decode cX3_arrive 0 = .ok (.iload_n 1, 1) := by decide +kernel
theorem dX3_arrive_1 : decode cX3_arrive 1 = .ok (.ifCond .lt 14, 3) := by decide +kernel
theorem dX3_arrive_4 : decode cX3_arrive 4 = .ok (.iload_n 1, 1) := by decide +kernel
theorem dX3_arrive_5 : decode cX3_arrive 5 = .ok (.aload_n 0, 1) := by decide +kernel
theorem dX3_arrive_6 : decode cX3_arrive 6 = .ok (.getfield 56, 3) := by decide +kernel
theorem dX3_arrive_9 : decode cX3_arrive 9 = .ok (.getfield 60, 3) := by decide +kernel
theorem dX3_arrive_12 : decode cX3_arrive 12 = .ok (.if_icmp .lt 4, 3) := by decide +kernel
theorem dX3_arrive_15 : decode cX3_arrive 15 = .ok (.return_, 1) := by decide +kernel
theorem dX3_arrive_16 : decode cX3_arrive 16 = .ok (.iconst 0, 1) := by decide +kernel
theorem dX3_arrive_17 : decode cX3_arrive 17 = .ok (.istore_n 2, 1) := by decide +kernel
theorem dX3_arrive_18 : decode cX3_arrive 18 = .ok (.iload_n 2, 1) := by decide +kernel
theorem dX3_arrive_19 : decode cX3_arrive 19 = .ok (.bipush 11, 2) := by decide +kernel
theorem dX3_arrive_21 : decode cX3_arrive 21 = .ok (.if_icmp .ge 180, 3) := by decide +kernel
theorem dX3_arrive_24 : decode cX3_arrive 24 = .ok (.iload_n 1, 1) := by decide +kernel
theorem dX3_arrive_25 : decode cX3_arrive 25 = .ok (.bipush 11, 2) := by decide +kernel
theorem dX3_arrive_27 : decode cX3_arrive 27 = .ok (.imul, 1) := by decide +kernel
theorem dX3_arrive_28 : decode cX3_arrive 28 = .ok (.iload_n 2, 1) := by decide +kernel
theorem dX3_arrive_29 : decode cX3_arrive 29 = .ok (.iadd, 1) := by decide +kernel
theorem dX3_arrive_30 : decode cX3_arrive 30 = .ok (.istore_n 3, 1) := by decide +kernel
theorem dX3_arrive_31 : decode cX3_arrive 31 = .ok (.aload_n 0, 1) := by decide +kernel
theorem dX3_arrive_32 : decode cX3_arrive 32 = .ok (.getfield 37, 3) := by decide +kernel
theorem dX3_arrive_35 : decode cX3_arrive 35 = .ok (.iload_n 2, 1) := by decide +kernel
theorem dX3_arrive_36 : decode cX3_arrive 36 = .ok (.aaload, 1) := by decide +kernel
theorem dX3_arrive_37 : decode cX3_arrive 37 = .ok (.astore 4, 2) := by decide +kernel
theorem dX3_arrive_39 : decode cX3_arrive 39 = .ok (.aload_n 0, 1) := by decide +kernel
theorem dX3_arrive_40 : decode cX3_arrive 40 = .ok (.getfield 31, 3) := by decide +kernel
theorem dX3_arrive_43 : decode cX3_arrive 43 = .ok (.iload_n 1, 1) := by decide +kernel
theorem dX3_arrive_44 : decode cX3_arrive 44 = .ok (.baload, 1) := by decide +kernel
theorem dX3_arrive_45 : decode cX3_arrive 45 = .ok (.ifCond .ne 36, 3) := by decide +kernel
theorem dX3_arrive_48 : decode cX3_arrive 48 = .ok (.aload_n 0, 1) := by decide +kernel
theorem dX3_arrive_49 : decode cX3_arrive 49 = .ok (.iload_n 3, 1) := by decide +kernel
theorem dX3_arrive_50 : decode cX3_arrive 50 = .ok (.aload 4, 2) := by decide +kernel
theorem dX3_arrive_52 : decode cX3_arrive 52 = .ok (.getfield 124, 3) := by decide +kernel
theorem dX3_arrive_55 : decode cX3_arrive 55 = .ok (.aload 4, 2) := by decide +kernel
theorem dX3_arrive_57 : decode cX3_arrive 57 = .ok (.getfield 134, 3) := by decide +kernel
theorem dX3_arrive_60 : decode cX3_arrive 60 = .ok (.aload 4, 2) := by decide +kernel
theorem dX3_arrive_62 : decode cX3_arrive 62 = .ok (.getfield 137, 3) := by decide +kernel
theorem dX3_arrive_65 : decode cX3_arrive 65 = .ok (.aload 4, 2) := by decide +kernel
theorem dX3_arrive_67 : decode cX3_arrive 67 = .ok (.getfield 140, 3) := by decide +kernel
theorem dX3_arrive_70 : decode cX3_arrive 70 = .ok (.aload 4, 2) := by decide +kernel
theorem dX3_arrive_72 : decode cX3_arrive 72 = .ok (.getfield 143, 3) := by decide +kernel
theorem dX3_arrive_75 : decode cX3_arrive 75 = .ok (.invokevirtual 146, 3) := by decide +kernel
theorem dX3_arrive_78 : decode cX3_arrive 78 = .ok (.goto 117, 3) := by decide +kernel
theorem dX3_arrive_81 : decode cX3_arrive 81 = .ok (.aload_n 0, 1) := by decide +kernel
theorem dX3_arrive_82 : decode cX3_arrive 82 = .ok (.getfield 9, 3) := by decide +kernel
theorem dX3_arrive_85 : decode cX3_arrive 85 = .ok (.iload_n 3, 1) := by decide +kernel
theorem dX3_arrive_86 : decode cX3_arrive 86 = .ok (.baload, 1) := by decide +kernel
theorem dX3_arrive_87 : decode cX3_arrive 87 = .ok (.aload 4, 2) := by decide +kernel
theorem dX3_arrive_89 : decode cX3_arrive 89 = .ok (.getfield 124, 3) := by decide +kernel
theorem dX3_arrive_92 : decode cX3_arrive 92 = .ok (.if_icmp .ne 11, 3) := by decide +kernel
theorem dX3_arrive_95 : decode cX3_arrive 95 = .ok (.aload 4, 2) := by decide +kernel
theorem dX3_arrive_97 : decode cX3_arrive 97 = .ok (.getfield 124, 3) := by decide +kernel
theorem dX3_arrive_100 : decode cX3_arrive 100 = .ok (.ifCond .ne 16, 3) := by decide +kernel
theorem dX3_arrive_103 : decode cX3_arrive 103 = .ok (.aload_n 0, 1) := by decide +kernel
theorem dX3_arrive_104 : decode cX3_arrive 104 = .ok (.iload_n 3, 1) := by decide +kernel
theorem dX3_arrive_105 : decode cX3_arrive 105 = .ok (.iconst 0, 1) := by decide +kernel
theorem dX3_arrive_106 : decode cX3_arrive 106 = .ok (.lconst 0, 1) := by decide +kernel
theorem dX3_arrive_107 : decode cX3_arrive 107 = .ok (.lconst 0, 1) := by decide +kernel
theorem dX3_arrive_108 : decode cX3_arrive 108 = .ok (.lconst 0, 1) := by decide +kernel
theorem dX3_arrive_109 : decode cX3_arrive 109 = .ok (.lconst 0, 1) := by decide +kernel
theorem dX3_arrive_110 : decode cX3_arrive 110 = .ok (.invokevirtual 146, 3) := by decide +kernel
theorem dX3_arrive_113 : decode cX3_arrive 113 = .ok (.goto 82, 3) := by decide +kernel
theorem dX3_arrive_116 : decode cX3_arrive 116 = .ok (.aload_n 0, 1) := by decide +kernel
theorem dX3_arrive_117 : decode cX3_arrive 117 = .ok (.getfield 22, 3) := by decide +kernel
theorem dX3_arrive_120 : decode cX3_arrive 120 = .ok (.iload_n 3, 1) := by decide +kernel
theorem dX3_arrive_121 : decode cX3_arrive 121 = .ok (.laload, 1) := by decide +kernel
theorem dX3_arrive_122 : decode cX3_arrive 122 = .ok (.aload 4, 2) := by decide +kernel
theorem dX3_arrive_124 : decode cX3_arrive 124 = .ok (.getfield 140, 3) := by decide +kernel
theorem dX3_arrive_127 : decode cX3_arrive 127 = .ok (.land, 1) := by decide +kernel
theorem dX3_arrive_128 : decode cX3_arrive 128 = .ok (.aload_n 0, 1) := by decide +kernel
theorem dX3_arrive_129 : decode cX3_arrive 129 = .ok (.getfield 25, 3) := by decide +kernel
theorem dX3_arrive_132 : decode cX3_arrive 132 = .ok (.iload_n 3, 1) := by decide +kernel
theorem dX3_arrive_133 : decode cX3_arrive 133 = .ok (.laload, 1) := by decide +kernel
theorem dX3_arrive_134 : decode cX3_arrive 134 = .ok (.aload 4, 2) := by decide +kernel
theorem dX3_arrive_136 : decode cX3_arrive 136 = .ok (.getfield 143, 3) := by decide +kernel
theorem dX3_arrive_139 : decode cX3_arrive 139 = .ok (.lxor, 1) := by decide +kernel
theorem dX3_arrive_140 : decode cX3_arrive 140 = .ok (.ldc2_w 91, 3) := by decide +kernel
theorem dX3_arrive_143 : decode cX3_arrive 143 = .ok (.lxor, 1) := by decide +kernel
theorem dX3_arrive_144 : decode cX3_arrive 144 = .ok (.land, 1) := by decide +kernel
theorem dX3_arrive_145 : decode cX3_arrive 145 = .ok (.lstore 5, 2) := by decide +kernel
theorem dX3_arrive_147 : decode cX3_arrive 147 = .ok (.aload_n 0, 1) := by decide +kernel
theorem dX3_arrive_148 : decode cX3_arrive 148 = .ok (.iload_n 3, 1) := by decide +kernel
theorem dX3_arrive_149 : decode cX3_arrive 149 = .ok (.aload 4, 2) := by decide +kernel
theorem dX3_arrive_151 : decode cX3_arrive 151 = .ok (.getfield 124, 3) := by decide +kernel
theorem dX3_arrive_154 : decode cX3_arrive 154 = .ok (.aload_n 0, 1) := by decide +kernel
theorem dX3_arrive_155 : decode cX3_arrive 155 = .ok (.getfield 15, 3) := by decide +kernel
theorem dX3_arrive_158 : decode cX3_arrive 158 = .ok (.iload_n 3, 1) := by decide +kernel
theorem dX3_arrive_159 : decode cX3_arrive 159 = .ok (.laload, 1) := by decide +kernel
theorem dX3_arrive_160 : decode cX3_arrive 160 = .ok (.aload 4, 2) := by decide +kernel
theorem dX3_arrive_162 : decode cX3_arrive 162 = .ok (.getfield 134, 3) := by decide +kernel
theorem dX3_arrive_165 : decode cX3_arrive 165 = .ok (.invokestatic 150, 3) := by decide +kernel
theorem dX3_arrive_168 : decode cX3_arrive 168 = .ok (.aload_n 0, 1) := by decide +kernel
theorem dX3_arrive_169 : decode cX3_arrive 169 = .ok (.getfield 19, 3) := by decide +kernel
theorem dX3_arrive_172 : decode cX3_arrive 172 = .ok (.iload_n 3, 1) := by decide +kernel
theorem dX3_arrive_173 : decode cX3_arrive 173 = .ok (.laload, 1) := by decide +kernel
theorem dX3_arrive_174 : decode cX3_arrive 174 = .ok (.aload 4, 2) := by decide +kernel
theorem dX3_arrive_176 : decode cX3_arrive 176 = .ok (.getfield 137, 3) := by decide +kernel
theorem dX3_arrive_179 : decode cX3_arrive 179 = .ok (.invokestatic 154, 3) := by decide +kernel
theorem dX3_arrive_182 : decode cX3_arrive 182 = .ok (.lload 5, 2) := by decide +kernel
theorem dX3_arrive_184 : decode cX3_arrive 184 = .ok (.aload 4, 2) := by decide +kernel
theorem dX3_arrive_186 : decode cX3_arrive 186 = .ok (.getfield 143, 3) := by decide +kernel
theorem dX3_arrive_189 : decode cX3_arrive 189 = .ok (.lload 5, 2) := by decide +kernel
theorem dX3_arrive_191 : decode cX3_arrive 191 = .ok (.land, 1) := by decide +kernel
theorem dX3_arrive_192 : decode cX3_arrive 192 = .ok (.invokevirtual 146, 3) := by decide +kernel
theorem dX3_arrive_195 : decode cX3_arrive 195 = .ok (.iinc 2 1, 3) := by decide +kernel
theorem dX3_arrive_198 : decode cX3_arrive 198 = .ok (.goto (-180), 3) := by decide +kernel
theorem dX3_arrive_201 : decode cX3_arrive 201 = .ok (.aload_n 0, 1) := by decide +kernel
theorem dX3_arrive_202 : decode cX3_arrive 202 = .ok (.getfield 28, 3) := by decide +kernel
theorem dX3_arrive_205 : decode cX3_arrive 205 = .ok (.iload_n 1, 1) := by decide +kernel
theorem dX3_arrive_206 : decode cX3_arrive 206 = .ok (.aload_n 0, 1) := by decide +kernel
theorem dX3_arrive_207 : decode cX3_arrive 207 = .ok (.getfield 31, 3) := by decide +kernel
theorem dX3_arrive_210 : decode cX3_arrive 210 = .ok (.iload_n 1, 1) := by decide +kernel
theorem dX3_arrive_211 : decode cX3_arrive 211 = .ok (.baload, 1) := by decide +kernel
theorem dX3_arrive_212 : decode cX3_arrive 212 = .ok (.ifCond .eq 17, 3) := by decide +kernel
theorem dX3_arrive_215 : decode cX3_arrive 215 = .ok (.aload_n 0, 1) := by decide +kernel
theorem dX3_arrive_216 : decode cX3_arrive 216 = .ok (.getfield 28, 3) := by decide +kernel
theorem dX3_arrive_219 : decode cX3_arrive 219 = .ok (.iload_n 1, 1) := by decide +kernel
theorem dX3_arrive_220 : decode cX3_arrive 220 = .ok (.laload, 1) := by decide +kernel
theorem dX3_arrive_221 : decode cX3_arrive 221 = .ok (.aload_n 0, 1) := by decide +kernel
theorem dX3_arrive_222 : decode cX3_arrive 222 = .ok (.getfield 127, 3) := by decide +kernel
theorem dX3_arrive_225 : decode cX3_arrive 225 = .ok (.land, 1) := by decide +kernel
theorem dX3_arrive_226 : decode cX3_arrive 226 = .ok (.goto 7, 3) := by decide +kernel
theorem dX3_arrive_229 : decode cX3_arrive 229 = .ok (.aload_n 0, 1) := by decide +kernel
theorem dX3_arrive_230 : decode cX3_arrive 230 = .ok (.getfield 127, 3) := by decide +kernel
theorem dX3_arrive_233 : decode cX3_arrive 233 = .ok (.lastore, 1) := by decide +kernel
theorem dX3_arrive_234 : decode cX3_arrive 234 = .ok (.aload_n 0, 1) := by decide +kernel
theorem dX3_arrive_235 : decode cX3_arrive 235 = .ok (.getfield 31, 3) := by decide +kernel
theorem dX3_arrive_238 : decode cX3_arrive 238 = .ok (.iload_n 1, 1) := by decide +kernel
theorem dX3_arrive_239 : decode cX3_arrive 239 = .ok (.iconst 1, 1) := by decide +kernel
theorem dX3_arrive_240 : decode cX3_arrive 240 = .ok (.bastore, 1) := by decide +kernel
theorem dX3_arrive_241 : decode cX3_arrive 241 = .ok (.return_, 1) := by decide +kernel
theorem dX3_put_0 : decode cX3_put 0 = .ok (.aload_n 0, 1) := by decide +kernel
theorem dX3_put_1 : decode cX3_put 1 = .ok (.getfield 9, 3) := by decide +kernel
theorem dX3_put_4 : decode cX3_put 4 = .ok (.iload_n 1, 1) := by decide +kernel
theorem dX3_put_5 : decode cX3_put 5 = .ok (.iload_n 2, 1) := by decide +kernel
theorem dX3_put_6 : decode cX3_put 6 = .ok (.i2b, 1) := by decide +kernel
theorem dX3_put_7 : decode cX3_put 7 = .ok (.bastore, 1) := by decide +kernel
theorem dX3_put_8 : decode cX3_put 8 = .ok (.aload_n 0, 1) := by decide +kernel
theorem dX3_put_9 : decode cX3_put 9 = .ok (.getfield 15, 3) := by decide +kernel
theorem dX3_put_12 : decode cX3_put 12 = .ok (.iload_n 1, 1) := by decide +kernel
theorem dX3_put_13 : decode cX3_put 13 = .ok (.lload_n 3, 1) := by decide +kernel
theorem dX3_put_14 : decode cX3_put 14 = .ok (.lastore, 1) := by decide +kernel
theorem dX3_put_15 : decode cX3_put 15 = .ok (.aload_n 0, 1) := by decide +kernel
theorem dX3_put_16 : decode cX3_put 16 = .ok (.getfield 19, 3) := by decide +kernel
theorem dX3_put_19 : decode cX3_put 19 = .ok (.iload_n 1, 1) := by decide +kernel
theorem dX3_put_20 : decode cX3_put 20 = .ok (.lload 5, 2) := by decide +kernel
theorem dX3_put_22 : decode cX3_put 22 = .ok (.lastore, 1) := by decide +kernel
theorem dX3_put_23 : decode cX3_put 23 = .ok (.aload_n 0, 1) := by decide +kernel
theorem dX3_put_24 : decode cX3_put 24 = .ok (.getfield 22, 3) := by decide +kernel
theorem dX3_put_27 : decode cX3_put 27 = .ok (.iload_n 1, 1) := by decide +kernel
theorem dX3_put_28 : decode cX3_put 28 = .ok (.lload 7, 2) := by decide +kernel
theorem dX3_put_30 : decode cX3_put 30 = .ok (.lastore, 1) := by decide +kernel
theorem dX3_put_31 : decode cX3_put 31 = .ok (.aload_n 0, 1) := by decide +kernel
theorem dX3_put_32 : decode cX3_put 32 = .ok (.getfield 25, 3) := by decide +kernel
theorem dX3_put_35 : decode cX3_put 35 = .ok (.iload_n 1, 1) := by decide +kernel
theorem dX3_put_36 : decode cX3_put 36 = .ok (.lload 9, 2) := by decide +kernel
theorem dX3_put_38 : decode cX3_put 38 = .ok (.lastore, 1) := by decide +kernel
theorem dX3_put_39 : decode cX3_put 39 = .ok (.return_, 1) := by decide +kernel
theorem dX3_isLost_0 : decode cX3_isLost 0 = .ok (.aload_n 0, 1) := by decide +kernel
theorem dX3_isLost_1 : decode cX3_isLost 1 = .ok (.getfield 37, 3) := by decide +kernel
theorem dX3_isLost_4 : decode cX3_isLost 4 = .ok (.iload_n 1, 1) := by decide +kernel
theorem dX3_isLost_5 : decode cX3_isLost 5 = .ok (.aaload, 1) := by decide +kernel
theorem dX3_isLost_6 : decode cX3_isLost 6 = .ok (.getfield 124, 3) := by decide +kernel
theorem dX3_isLost_9 : decode cX3_isLost 9 = .ok (.ifCond .ne 7, 3) := by decide +kernel
theorem dX3_isLost_12 : decode cX3_isLost 12 = .ok (.iconst 1, 1) := by decide +kernel
theorem dX3_isLost_13 : decode cX3_isLost 13 = .ok (.goto 4, 3) := by decide +kernel
theorem dX3_isLost_16 : decode cX3_isLost 16 = .ok (.iconst 0, 1) := by decide +kernel
theorem dX3_isLost_17 : decode cX3_isLost 17 = .ok (.ireturn, 1) := by decide +kernel
theorem dX3_isPointer_0 : decode cX3_isPointer 0 = .ok (.aload_n 0, 1) := by decide +kernel
theorem dX3_isPointer_1 : decode cX3_isPointer 1 = .ok (.getfield 37, 3) := by decide +kernel
theorem dX3_isPointer_4 : decode cX3_isPointer 4 = .ok (.iload_n 1, 1) := by decide +kernel
theorem dX3_isPointer_5 : decode cX3_isPointer 5 = .ok (.aaload, 1) := by decide +kernel
theorem dX3_isPointer_6 : decode cX3_isPointer 6 = .ok (.getfield 124, 3) := by decide +kernel
theorem dX3_isPointer_9 : decode cX3_isPointer 9 = .ok (.iconst 2, 1) := by decide +kernel
theorem dX3_isPointer_10 : decode cX3_isPointer 10 = .ok (.if_icmp .ne 7, 3) := by decide +kernel
theorem dX3_isPointer_13 : decode cX3_isPointer 13 = .ok (.iconst 1, 1) := by decide +kernel
theorem dX3_isPointer_14 : decode cX3_isPointer 14 = .ok (.goto 4, 3) := by decide +kernel
theorem dX3_isPointer_17 : decode cX3_isPointer 17 = .ok (.iconst 0, 1) := by decide +kernel
theorem dX3_isPointer_18 : decode cX3_isPointer 18 = .ok (.ireturn, 1) := by decide +kernel
theorem dX3_offenceOf_0 : decode cX3_offenceOf 0 = .ok (.lload_n 1, 1) := by decide +kernel
theorem dX3_offenceOf_1 : decode cX3_offenceOf 1 = .ok (.invokestatic 101, 3) := by decide +kernel
theorem dX3_offenceOf_4 : decode cX3_offenceOf 4 = .ok (.istore_n 3, 1) := by decide +kernel
theorem dX3_offenceOf_5 : decode cX3_offenceOf 5 = .ok (.lload_n 1, 1) := by decide +kernel
theorem dX3_offenceOf_6 : decode cX3_offenceOf 6 = .ok (.invokestatic 157, 3) := by decide +kernel
theorem dX3_offenceOf_9 : decode cX3_offenceOf 9 = .ok (.istore 4, 2) := by decide +kernel
theorem dX3_offenceOf_11 : decode cX3_offenceOf 11 = .ok (.lload_n 1, 1) := by decide +kernel
theorem dX3_offenceOf_12 : decode cX3_offenceOf 12 = .ok (.invokestatic 160, 3) := by decide +kernel
theorem dX3_offenceOf_15 : decode cX3_offenceOf 15 = .ok (.istore 5, 2) := by decide +kernel
theorem dX3_offenceOf_17 : decode cX3_offenceOf 17 = .ok (.iload_n 3, 1) := by decide +kernel
theorem dX3_offenceOf_18 : decode cX3_offenceOf 18 = .ok (.invokestatic 163, 3) := by decide +kernel
theorem dX3_offenceOf_21 : decode cX3_offenceOf 21 = .ok (.ifCond .eq 13, 3) := by decide +kernel
theorem dX3_offenceOf_24 : decode cX3_offenceOf 24 = .ok (.aload_n 0, 1) := by decide +kernel
theorem dX3_offenceOf_25 : decode cX3_offenceOf 25 = .ok (.iload_n 3, 1) := by decide +kernel
theorem dX3_offenceOf_26 : decode cX3_offenceOf 26 = .ok (.iload 4, 2) := by decide +kernel
theorem dX3_offenceOf_28 : decode cX3_offenceOf 28 = .ok (.iload 5, 2) := by decide +kernel
theorem dX3_offenceOf_30 : decode cX3_offenceOf 30 = .ok (.invokevirtual 166, 3) := by decide +kernel
theorem dX3_offenceOf_33 : decode cX3_offenceOf 33 = .ok (.ireturn, 1) := by decide +kernel
theorem dX3_offenceOf_34 : decode cX3_offenceOf 34 = .ok (.iload_n 3, 1) := by decide +kernel
theorem dX3_offenceOf_35 : decode cX3_offenceOf 35 = .ok (.sipush 149, 3) := by decide +kernel
theorem dX3_offenceOf_38 : decode cX3_offenceOf 38 = .ok (.if_icmp .ne 10, 3) := by decide +kernel
theorem dX3_offenceOf_41 : decode cX3_offenceOf 41 = .ok (.aload_n 0, 1) := by decide +kernel
theorem dX3_offenceOf_42 : decode cX3_offenceOf 42 = .ok (.iconst 0, 1) := by decide +kernel
theorem dX3_offenceOf_43 : decode cX3_offenceOf 43 = .ok (.iconst 0, 1) := by decide +kernel
theorem dX3_offenceOf_44 : decode cX3_offenceOf 44 = .ok (.invokevirtual 170, 3) := by decide +kernel
theorem dX3_offenceOf_47 : decode cX3_offenceOf 47 = .ok (.ireturn, 1) := by decide +kernel
theorem dX3_offenceOf_48 : decode cX3_offenceOf 48 = .ok (.iload_n 3, 1) := by decide +kernel
theorem dX3_offenceOf_49 : decode cX3_offenceOf 49 = .ok (.invokestatic 104, 3) := by decide +kernel
theorem dX3_offenceOf_52 : decode cX3_offenceOf 52 = .ok (.ifCond .eq 33, 3) := by decide +kernel
theorem dX3_offenceOf_55 : decode cX3_offenceOf 55 = .ok (.iload_n 3, 1) := by decide +kernel
theorem dX3_offenceOf_56 : decode cX3_offenceOf 56 = .ok (.iconst 5, 1) := by decide +kernel
theorem dX3_offenceOf_57 : decode cX3_offenceOf 57 = .ok (.if_icmp .ne 7, 3) := by decide +kernel
theorem dX3_offenceOf_60 : decode cX3_offenceOf 60 = .ok (.iconst 0, 1) := by decide +kernel
theorem dX3_offenceOf_61 : decode cX3_offenceOf 61 = .ok (.goto 23, 3) := by decide +kernel
theorem dX3_offenceOf_64 : decode cX3_offenceOf 64 = .ok (.aload_n 0, 1) := by decide +kernel
theorem dX3_offenceOf_65 : decode cX3_offenceOf 65 = .ok (.iload 4, 2) := by decide +kernel
theorem dX3_offenceOf_67 : decode cX3_offenceOf 67 = .ok (.iload_n 3, 1) := by decide +kernel
theorem dX3_offenceOf_68 : decode cX3_offenceOf 68 = .ok (.invokestatic 174, 3) := by decide +kernel
theorem dX3_offenceOf_71 : decode cX3_offenceOf 71 = .ok (.ifCond .eq 8, 3) := by decide +kernel
theorem dX3_offenceOf_74 : decode cX3_offenceOf 74 = .ok (.iload 5, 2) := by decide +kernel
theorem dX3_offenceOf_76 : decode cX3_offenceOf 76 = .ok (.goto 5, 3) := by decide +kernel
theorem dX3_offenceOf_79 : decode cX3_offenceOf 79 = .ok (.iload 4, 2) := by decide +kernel
theorem dX3_offenceOf_81 : decode cX3_offenceOf 81 = .ok (.invokevirtual 170, 3) := by decide +kernel
theorem dX3_offenceOf_84 : decode cX3_offenceOf 84 = .ok (.ireturn, 1) := by decide +kernel
theorem dX3_offenceOf_85 : decode cX3_offenceOf 85 = .ok (.iload_n 3, 1) := by decide +kernel
theorem dX3_offenceOf_86 : decode cX3_offenceOf 86 = .ok (.invokestatic 177, 3) := by decide +kernel
theorem dX3_offenceOf_89 : decode cX3_offenceOf 89 = .ok (.ifCond .eq 22, 3) := by decide +kernel
theorem dX3_offenceOf_92 : decode cX3_offenceOf 92 = .ok (.iload_n 3, 1) := by decide +kernel
theorem dX3_offenceOf_93 : decode cX3_offenceOf 93 = .ok (.bipush 64, 2) := by decide +kernel
theorem dX3_offenceOf_95 : decode cX3_offenceOf 95 = .ok (.if_icmp .ge 7, 3) := by decide +kernel
theorem dX3_offenceOf_98 : decode cX3_offenceOf 98 = .ok (.iconst 0, 1) := by decide +kernel
theorem dX3_offenceOf_99 : decode cX3_offenceOf 99 = .ok (.goto 11, 3) := by decide +kernel
theorem dX3_offenceOf_102 : decode cX3_offenceOf 102 = .ok (.aload_n 0, 1) := by decide +kernel
theorem dX3_offenceOf_103 : decode cX3_offenceOf 103 = .ok (.iload 5, 2) := by decide +kernel
theorem dX3_offenceOf_105 : decode cX3_offenceOf 105 = .ok (.iload 5, 2) := by decide +kernel
theorem dX3_offenceOf_107 : decode cX3_offenceOf 107 = .ok (.invokevirtual 170, 3) := by decide +kernel
theorem dX3_offenceOf_110 : decode cX3_offenceOf 110 = .ok (.ireturn, 1) := by decide +kernel
theorem dX3_offenceOf_111 : decode cX3_offenceOf 111 = .ok (.aload_n 0, 1) := by decide +kernel
theorem dX3_offenceOf_112 : decode cX3_offenceOf 112 = .ok (.lload_n 1, 1) := by decide +kernel
theorem dX3_offenceOf_113 : decode cX3_offenceOf 113 = .ok (.iload_n 3, 1) := by decide +kernel
theorem dX3_offenceOf_114 : decode cX3_offenceOf 114 = .ok (.invokestatic 180, 3) := by decide +kernel
theorem dX3_offenceOf_117 : decode cX3_offenceOf 117 = .ok (.ifCond .eq 8, 3) := by decide +kernel
theorem dX3_offenceOf_120 : decode cX3_offenceOf 120 = .ok (.iload 5, 2) := by decide +kernel
theorem dX3_offenceOf_122 : decode cX3_offenceOf 122 = .ok (.goto 5, 3) := by decide +kernel
theorem dX3_offenceOf_125 : decode cX3_offenceOf 125 = .ok (.iload 4, 2) := by decide +kernel
theorem dX3_offenceOf_127 : decode cX3_offenceOf 127 = .ok (.invokevirtual 183, 3) := by decide +kernel
theorem dX3_offenceOf_130 : decode cX3_offenceOf 130 = .ok (.ireturn, 1) := by decide +kernel
theorem dX3_offenceOfUse_0 : decode cX3_offenceOfUse 0 = .ok (.aload_n 0, 1) := by decide +kernel
theorem dX3_offenceOfUse_1 : decode cX3_offenceOfUse 1 = .ok (.iload_n 1, 1) := by decide +kernel
theorem dX3_offenceOfUse_2 : decode cX3_offenceOfUse 2 = .ok (.invokevirtual 187, 3) := by decide +kernel
theorem dX3_offenceOfUse_5 : decode cX3_offenceOfUse 5 = .ok (.ifCond .ne 11, 3) := by decide +kernel
theorem dX3_offenceOfUse_8 : decode cX3_offenceOfUse 8 = .ok (.aload_n 0, 1) := by decide +kernel
theorem dX3_offenceOfUse_9 : decode cX3_offenceOfUse 9 = .ok (.iload_n 2, 1) := by decide +kernel
theorem dX3_offenceOfUse_10 : decode cX3_offenceOfUse 10 = .ok (.invokevirtual 187, 3) := by decide +kernel
theorem dX3_offenceOfUse_13 : decode cX3_offenceOfUse 13 = .ok (.ifCond .eq 5, 3) := by decide +kernel
theorem dX3_offenceOfUse_16 : decode cX3_offenceOfUse 16 = .ok (.iconst 4, 1) := by decide +kernel
theorem dX3_offenceOfUse_17 : decode cX3_offenceOfUse 17 = .ok (.ireturn, 1) := by decide +kernel
theorem dX3_offenceOfUse_18 : decode cX3_offenceOfUse 18 = .ok (.aload_n 0, 1) := by decide +kernel
theorem dX3_offenceOfUse_19 : decode cX3_offenceOfUse 19 = .ok (.iload_n 1, 1) := by decide +kernel
theorem dX3_offenceOfUse_20 : decode cX3_offenceOfUse 20 = .ok (.invokevirtual 190, 3) := by decide +kernel
theorem dX3_offenceOfUse_23 : decode cX3_offenceOfUse 23 = .ok (.ifCond .ne 11, 3) := by decide +kernel
theorem dX3_offenceOfUse_26 : decode cX3_offenceOfUse 26 = .ok (.aload_n 0, 1) := by decide +kernel
theorem dX3_offenceOfUse_27 : decode cX3_offenceOfUse 27 = .ok (.iload_n 2, 1) := by decide +kernel
theorem dX3_offenceOfUse_28 : decode cX3_offenceOfUse 28 = .ok (.invokevirtual 190, 3) := by decide +kernel
theorem dX3_offenceOfUse_31 : decode cX3_offenceOfUse 31 = .ok (.ifCond .eq 8, 3) := by decide +kernel
theorem dX3_offenceOfUse_34 : decode cX3_offenceOfUse 34 = .ok (.bipush 6, 2) := by decide +kernel
theorem dX3_offenceOfUse_36 : decode cX3_offenceOfUse 36 = .ok (.goto 4, 3) := by decide +kernel
theorem dX3_offenceOfUse_39 : decode cX3_offenceOfUse 39 = .ok (.iconst 0, 1) := by decide +kernel
theorem dX3_offenceOfUse_40 : decode cX3_offenceOfUse 40 = .ok (.ireturn, 1) := by decide +kernel
theorem dX3_offenceOfOp_0 : decode cX3_offenceOfOp 0 = .ok (.iload_n 1, 1) := by decide +kernel
theorem dX3_offenceOfOp_1 : decode cX3_offenceOfOp 1 = .ok (.iconst 4, 1) := by decide +kernel
theorem dX3_offenceOfOp_2 : decode cX3_offenceOfOp 2 = .ok (.ishr, 1) := by decide +kernel
theorem dX3_offenceOfOp_3 : decode cX3_offenceOfOp 3 = .ok (.istore 4, 2) := by decide +kernel
theorem dX3_offenceOfOp_5 : decode cX3_offenceOfOp 5 = .ok (.iload_n 1, 1) := by decide +kernel
theorem dX3_offenceOfOp_6 : decode cX3_offenceOfOp 6 = .ok (.invokestatic 193, 3) := by decide +kernel
theorem dX3_offenceOfOp_9 : decode cX3_offenceOfOp 9 = .ok (.istore 5, 2) := by decide +kernel
theorem dX3_offenceOfOp_11 : decode cX3_offenceOfOp 11 = .ok (.iload 4, 2) := by decide +kernel
theorem dX3_offenceOfOp_13 : decode cX3_offenceOfOp 13 = .ok (.bipush 11, 2) := by decide +kernel
theorem dX3_offenceOfOp_15 : decode cX3_offenceOfOp 15 = .ok (.if_icmp .eq 7, 3) := by decide +kernel
theorem dX3_offenceOfOp_18 : decode cX3_offenceOfOp 18 = .ok (.iconst 1, 1) := by decide +kernel
theorem dX3_offenceOfOp_19 : decode cX3_offenceOfOp 19 = .ok (.goto 4, 3) := by decide +kernel
theorem dX3_offenceOfOp_22 : decode cX3_offenceOfOp 22 = .ok (.iconst 0, 1) := by decide +kernel
theorem dX3_offenceOfOp_23 : decode cX3_offenceOfOp 23 = .ok (.istore 6, 2) := by decide +kernel
theorem dX3_offenceOfOp_25 : decode cX3_offenceOfOp 25 = .ok (.iload_n 1, 1) := by decide +kernel
theorem dX3_offenceOfOp_26 : decode cX3_offenceOfOp 26 = .ok (.invokestatic 174, 3) := by decide +kernel
theorem dX3_offenceOfOp_29 : decode cX3_offenceOfOp 29 = .ok (.istore 7, 2) := by decide +kernel
theorem dX3_offenceOfOp_31 : decode cX3_offenceOfOp 31 = .ok (.iload 6, 2) := by decide +kernel
theorem dX3_offenceOfOp_33 : decode cX3_offenceOfOp 33 = .ok (.ifCond .eq 11, 3) := by decide +kernel
theorem dX3_offenceOfOp_36 : decode cX3_offenceOfOp 36 = .ok (.aload_n 0, 1) := by decide +kernel
theorem dX3_offenceOfOp_37 : decode cX3_offenceOfOp 37 = .ok (.iload_n 2, 1) := by decide +kernel
theorem dX3_offenceOfOp_38 : decode cX3_offenceOfOp 38 = .ok (.invokevirtual 187, 3) := by decide +kernel
theorem dX3_offenceOfOp_41 : decode cX3_offenceOfOp 41 = .ok (.ifCond .ne 16, 3) := by decide +kernel
theorem dX3_offenceOfOp_44 : decode cX3_offenceOfOp 44 = .ok (.iload 7, 2) := by decide +kernel
theorem dX3_offenceOfOp_46 : decode cX3_offenceOfOp 46 = .ok (.ifCond .eq 13, 3) := by decide +kernel
theorem dX3_offenceOfOp_49 : decode cX3_offenceOfOp 49 = .ok (.aload_n 0, 1) := by decide +kernel
theorem dX3_offenceOfOp_50 : decode cX3_offenceOfOp 50 = .ok (.iload_n 3, 1) := by decide +kernel
theorem dX3_offenceOfOp_51 : decode cX3_offenceOfOp 51 = .ok (.invokevirtual 187, 3) := by decide +kernel
theorem dX3_offenceOfOp_54 : decode cX3_offenceOfOp 54 = .ok (.ifCond .eq 5, 3) := by decide +kernel
theorem dX3_offenceOfOp_57 : decode cX3_offenceOfOp 57 = .ok (.iconst 4, 1) := by decide +kernel
theorem dX3_offenceOfOp_58 : decode cX3_offenceOfOp 58 = .ok (.ireturn, 1) := by decide +kernel
theorem dX3_offenceOfOp_59 : decode cX3_offenceOfOp 59 = .ok (.iload_n 2, 1) := by decide +kernel
theorem dX3_offenceOfOp_60 : decode cX3_offenceOfOp 60 = .ok (.bipush 10, 2) := by decide +kernel
theorem dX3_offenceOfOp_62 : decode cX3_offenceOfOp 62 = .ok (.if_icmp .ne 5, 3) := by decide +kernel
theorem dX3_offenceOfOp_65 : decode cX3_offenceOfOp 65 = .ok (.iconst 5, 1) := by decide +kernel
theorem dX3_offenceOfOp_66 : decode cX3_offenceOfOp 66 = .ok (.ireturn, 1) := by decide +kernel
theorem dX3_offenceOfOp_67 : decode cX3_offenceOfOp 67 = .ok (.iload 5, 2) := by decide +kernel
theorem dX3_offenceOfOp_69 : decode cX3_offenceOfOp 69 = .ok (.ifCond .eq 18, 3) := by decide +kernel
theorem dX3_offenceOfOp_72 : decode cX3_offenceOfOp 72 = .ok (.iload 4, 2) := by decide +kernel
theorem dX3_offenceOfOp_74 : decode cX3_offenceOfOp 74 = .ok (.ifCond .eq 9, 3) := by decide +kernel
theorem dX3_offenceOfOp_77 : decode cX3_offenceOfOp 77 = .ok (.iload 4, 2) := by decide +kernel
theorem dX3_offenceOfOp_79 : decode cX3_offenceOfOp 79 = .ok (.iconst 1, 1) := by decide +kernel
theorem dX3_offenceOfOp_80 : decode cX3_offenceOfOp 80 = .ok (.if_icmp .ne 7, 3) := by decide +kernel
theorem dX3_offenceOfOp_83 : decode cX3_offenceOfOp 83 = .ok (.iconst 1, 1) := by decide +kernel
theorem dX3_offenceOfOp_84 : decode cX3_offenceOfOp 84 = .ok (.goto 4, 3) := by decide +kernel
theorem dX3_offenceOfOp_87 : decode cX3_offenceOfOp 87 = .ok (.iconst 0, 1) := by decide +kernel
theorem dX3_offenceOfOp_88 : decode cX3_offenceOfOp 88 = .ok (.istore 8, 2) := by decide +kernel
theorem dX3_offenceOfOp_90 : decode cX3_offenceOfOp 90 = .ok (.iload 5, 2) := by decide +kernel
theorem dX3_offenceOfOp_92 : decode cX3_offenceOfOp 92 = .ok (.ifCond .eq 14, 3) := by decide +kernel
theorem dX3_offenceOfOp_95 : decode cX3_offenceOfOp 95 = .ok (.iload 4, 2) := by decide +kernel
theorem dX3_offenceOfOp_97 : decode cX3_offenceOfOp 97 = .ok (.bipush 11, 2) := by decide +kernel
theorem dX3_offenceOfOp_99 : decode cX3_offenceOfOp 99 = .ok (.if_icmp .ne 7, 3) := by decide +kernel
theorem dX3_offenceOfOp_102 : decode cX3_offenceOfOp 102 = .ok (.iconst 1, 1) := by decide +kernel
theorem dX3_offenceOfOp_103 : decode cX3_offenceOfOp 103 = .ok (.goto 4, 3) := by decide +kernel
theorem dX3_offenceOfOp_106 : decode cX3_offenceOfOp 106 = .ok (.iconst 0, 1) := by decide +kernel
theorem dX3_offenceOfOp_107 : decode cX3_offenceOfOp 107 = .ok (.istore 9, 2) := by decide +kernel
theorem dX3_offenceOfOp_109 : decode cX3_offenceOfOp 109 = .ok (.iload 6, 2) := by decide +kernel
theorem dX3_offenceOfOp_111 : decode cX3_offenceOfOp 111 = .ok (.ifCond .eq 16, 3) := by decide +kernel
theorem dX3_offenceOfOp_114 : decode cX3_offenceOfOp 114 = .ok (.aload_n 0, 1) := by decide +kernel
theorem dX3_offenceOfOp_115 : decode cX3_offenceOfOp 115 = .ok (.iload_n 2, 1) := by decide +kernel
theorem dX3_offenceOfOp_116 : decode cX3_offenceOfOp 116 = .ok (.invokevirtual 190, 3) := by decide +kernel
theorem dX3_offenceOfOp_119 : decode cX3_offenceOfOp 119 = .ok (.ifCond .eq 8, 3) := by decide +kernel
theorem dX3_offenceOfOp_122 : decode cX3_offenceOfOp 122 = .ok (.iload 8, 2) := by decide +kernel
theorem dX3_offenceOfOp_124 : decode cX3_offenceOfOp 124 = .ok (.ifCond .eq 21, 3) := by decide +kernel
theorem dX3_offenceOfOp_127 : decode cX3_offenceOfOp 127 = .ok (.iload 7, 2) := by decide +kernel
theorem dX3_offenceOfOp_129 : decode cX3_offenceOfOp 129 = .ok (.ifCond .eq 20, 3) := by decide +kernel
theorem dX3_offenceOfOp_132 : decode cX3_offenceOfOp 132 = .ok (.aload_n 0, 1) := by decide +kernel
theorem dX3_offenceOfOp_133 : decode cX3_offenceOfOp 133 = .ok (.iload_n 3, 1) := by decide +kernel
theorem dX3_offenceOfOp_134 : decode cX3_offenceOfOp 134 = .ok (.invokevirtual 190, 3) := by decide +kernel
theorem dX3_offenceOfOp_137 : decode cX3_offenceOfOp 137 = .ok (.ifCond .eq 12, 3) := by decide +kernel
theorem dX3_offenceOfOp_140 : decode cX3_offenceOfOp 140 = .ok (.iload 9, 2) := by decide +kernel
theorem dX3_offenceOfOp_142 : decode cX3_offenceOfOp 142 = .ok (.ifCond .ne 7, 3) := by decide +kernel
theorem dX3_offenceOfOp_145 : decode cX3_offenceOfOp 145 = .ok (.iconst 1, 1) := by decide +kernel
theorem dX3_offenceOfOp_146 : decode cX3_offenceOfOp 146 = .ok (.goto 4, 3) := by decide +kernel
theorem dX3_offenceOfOp_149 : decode cX3_offenceOfOp 149 = .ok (.iconst 0, 1) := by decide +kernel
theorem dX3_offenceOfOp_150 : decode cX3_offenceOfOp 150 = .ok (.istore 10, 2) := by decide +kernel
theorem dX3_offenceOfOp_152 : decode cX3_offenceOfOp 152 = .ok (.iload 10, 2) := by decide +kernel
theorem dX3_offenceOfOp_154 : decode cX3_offenceOfOp 154 = .ok (.ifCond .eq 8, 3) := by decide +kernel
theorem dX3_offenceOfOp_157 : decode cX3_offenceOfOp 157 = .ok (.bipush 6, 2) := by decide +kernel
theorem dX3_offenceOfOp_159 : decode cX3_offenceOfOp 159 = .ok (.goto 4, 3) := by decide +kernel
theorem dX3_offenceOfOp_162 : decode cX3_offenceOfOp 162 = .ok (.iconst 0, 1) := by decide +kernel
theorem dX3_offenceOfOp_163 : decode cX3_offenceOfOp 163 = .ok (.ireturn, 1) := by decide +kernel
theorem dX3_offenceOfMemory_0 : decode cX3_offenceOfMemory 0 = .ok (.lload_n 1, 1) := by decide +kernel
theorem dX3_offenceOfMemory_1 : decode cX3_offenceOfMemory 1 = .ok (.invokestatic 101, 3) := by decide +kernel
theorem dX3_offenceOfMemory_4 : decode cX3_offenceOfMemory 4 = .ok (.istore 4, 2) := by decide +kernel
theorem dX3_offenceOfMemory_6 : decode cX3_offenceOfMemory 6 = .ok (.lload_n 1, 1) := by decide +kernel
theorem dX3_offenceOfMemory_7 : decode cX3_offenceOfMemory 7 = .ok (.invokestatic 160, 3) := by decide +kernel
theorem dX3_offenceOfMemory_10 : decode cX3_offenceOfMemory 10 = .ok (.istore 5, 2) := by decide +kernel
theorem dX3_offenceOfMemory_12 : decode cX3_offenceOfMemory 12 = .ok (.iload 4, 2) := by decide +kernel
theorem dX3_offenceOfMemory_14 : decode cX3_offenceOfMemory 14 = .ok (.invokestatic 180, 3) := by decide +kernel
theorem dX3_offenceOfMemory_17 : decode cX3_offenceOfMemory 17 = .ok (.istore 6, 2) := by decide +kernel
theorem dX3_offenceOfMemory_19 : decode cX3_offenceOfMemory 19 = .ok (.iload 6, 2) := by decide +kernel
theorem dX3_offenceOfMemory_21 : decode cX3_offenceOfMemory 21 = .ok (.ifCond .ne 14, 3) := by decide +kernel
theorem dX3_offenceOfMemory_24 : decode cX3_offenceOfMemory 24 = .ok (.iload 4, 2) := by decide +kernel
theorem dX3_offenceOfMemory_26 : decode cX3_offenceOfMemory 26 = .ok (.iconst 1, 1) := by decide +kernel
theorem dX3_offenceOfMemory_27 : decode cX3_offenceOfMemory 27 = .ok (.iand, 1) := by decide +kernel
theorem dX3_offenceOfMemory_28 : decode cX3_offenceOfMemory 28 = .ok (.ifCond .eq 7, 3) := by decide +kernel
theorem dX3_offenceOfMemory_31 : decode cX3_offenceOfMemory 31 = .ok (.iconst 1, 1) := by decide +kernel
theorem dX3_offenceOfMemory_32 : decode cX3_offenceOfMemory 32 = .ok (.goto 4, 3) := by decide +kernel
theorem dX3_offenceOfMemory_35 : decode cX3_offenceOfMemory 35 = .ok (.iconst 0, 1) := by decide +kernel
theorem dX3_offenceOfMemory_36 : decode cX3_offenceOfMemory 36 = .ok (.istore 7, 2) := by decide +kernel
theorem dX3_offenceOfMemory_38 : decode cX3_offenceOfMemory 38 = .ok (.aload_n 0, 1) := by decide +kernel
theorem dX3_offenceOfMemory_39 : decode cX3_offenceOfMemory 39 = .ok (.iload_n 3, 1) := by decide +kernel
theorem dX3_offenceOfMemory_40 : decode cX3_offenceOfMemory 40 = .ok (.invokevirtual 187, 3) := by decide +kernel
theorem dX3_offenceOfMemory_43 : decode cX3_offenceOfMemory 43 = .ok (.ifCond .ne 17, 3) := by decide +kernel
theorem dX3_offenceOfMemory_46 : decode cX3_offenceOfMemory 46 = .ok (.iload 7, 2) := by decide +kernel
theorem dX3_offenceOfMemory_48 : decode cX3_offenceOfMemory 48 = .ok (.ifCond .eq 14, 3) := by decide +kernel
theorem dX3_offenceOfMemory_51 : decode cX3_offenceOfMemory 51 = .ok (.aload_n 0, 1) := by decide +kernel
theorem dX3_offenceOfMemory_52 : decode cX3_offenceOfMemory 52 = .ok (.iload 5, 2) := by decide +kernel
theorem dX3_offenceOfMemory_54 : decode cX3_offenceOfMemory 54 = .ok (.invokevirtual 187, 3) := by decide +kernel
theorem dX3_offenceOfMemory_57 : decode cX3_offenceOfMemory 57 = .ok (.ifCond .eq 5, 3) := by decide +kernel
theorem dX3_offenceOfMemory_60 : decode cX3_offenceOfMemory 60 = .ok (.iconst 4, 1) := by decide +kernel
theorem dX3_offenceOfMemory_61 : decode cX3_offenceOfMemory 61 = .ok (.ireturn, 1) := by decide +kernel
theorem dX3_offenceOfMemory_62 : decode cX3_offenceOfMemory 62 = .ok (.iload 6, 2) := by decide +kernel
theorem dX3_offenceOfMemory_64 : decode cX3_offenceOfMemory 64 = .ok (.ifCond .eq 14, 3) := by decide +kernel
theorem dX3_offenceOfMemory_67 : decode cX3_offenceOfMemory 67 = .ok (.lload_n 1, 1) := by decide +kernel
theorem dX3_offenceOfMemory_68 : decode cX3_offenceOfMemory 68 = .ok (.invokestatic 157, 3) := by decide +kernel
theorem dX3_offenceOfMemory_71 : decode cX3_offenceOfMemory 71 = .ok (.bipush 10, 2) := by decide +kernel
theorem dX3_offenceOfMemory_73 : decode cX3_offenceOfMemory 73 = .ok (.if_icmp .ne 5, 3) := by decide +kernel
theorem dX3_offenceOfMemory_76 : decode cX3_offenceOfMemory 76 = .ok (.iconst 5, 1) := by decide +kernel
theorem dX3_offenceOfMemory_77 : decode cX3_offenceOfMemory 77 = .ok (.ireturn, 1) := by decide +kernel
theorem dX3_offenceOfMemory_78 : decode cX3_offenceOfMemory 78 = .ok (.iload 7, 2) := by decide +kernel
theorem dX3_offenceOfMemory_80 : decode cX3_offenceOfMemory 80 = .ok (.ifCond .eq 15, 3) := by decide +kernel
theorem dX3_offenceOfMemory_83 : decode cX3_offenceOfMemory 83 = .ok (.aload_n 0, 1) := by decide +kernel
theorem dX3_offenceOfMemory_84 : decode cX3_offenceOfMemory 84 = .ok (.iload 5, 2) := by decide +kernel
theorem dX3_offenceOfMemory_86 : decode cX3_offenceOfMemory 86 = .ok (.invokevirtual 190, 3) := by decide +kernel
theorem dX3_offenceOfMemory_89 : decode cX3_offenceOfMemory 89 = .ok (.ifCond .eq 6, 3) := by decide +kernel
theorem dX3_offenceOfMemory_92 : decode cX3_offenceOfMemory 92 = .ok (.bipush 6, 2) := by decide +kernel
theorem dX3_offenceOfMemory_94 : decode cX3_offenceOfMemory 94 = .ok (.ireturn, 1) := by decide +kernel
theorem dX3_offenceOfMemory_95 : decode cX3_offenceOfMemory 95 = .ok (.aload_n 0, 1) := by decide +kernel
theorem dX3_offenceOfMemory_96 : decode cX3_offenceOfMemory 96 = .ok (.getfield 46, 3) := by decide +kernel
theorem dX3_offenceOfMemory_99 : decode cX3_offenceOfMemory 99 = .ok (.aload_n 0, 1) := by decide +kernel
theorem dX3_offenceOfMemory_100 : decode cX3_offenceOfMemory 100 = .ok (.getfield 37, 3) := by decide +kernel
theorem dX3_offenceOfMemory_103 : decode cX3_offenceOfMemory 103 = .ok (.iload_n 3, 1) := by decide +kernel
theorem dX3_offenceOfMemory_104 : decode cX3_offenceOfMemory 104 = .ok (.aaload, 1) := by decide +kernel
theorem dX3_offenceOfMemory_105 : decode cX3_offenceOfMemory 105 = .ok (.invokevirtual 196, 3) := by decide +kernel
theorem dX3_offenceOfMemory_108 : decode cX3_offenceOfMemory 108 = .ok (.aload_n 0, 1) := by decide +kernel
theorem dX3_offenceOfMemory_109 : decode cX3_offenceOfMemory 109 = .ok (.getfield 42, 3) := by decide +kernel
theorem dX3_offenceOfMemory_112 : decode cX3_offenceOfMemory 112 = .ok (.lload_n 1, 1) := by decide +kernel
theorem dX3_offenceOfMemory_113 : decode cX3_offenceOfMemory 113 = .ok (.invokestatic 108, 3) := by decide +kernel
theorem dX3_offenceOfMemory_116 : decode cX3_offenceOfMemory 116 = .ok (.i2l, 1) := by decide +kernel
theorem dX3_offenceOfMemory_117 : decode cX3_offenceOfMemory 117 = .ok (.invokevirtual 120, 3) := by decide +kernel
theorem dX3_offenceOfMemory_120 : decode cX3_offenceOfMemory 120 = .ok (.aload_n 0, 1) := by decide +kernel
theorem dX3_offenceOfMemory_121 : decode cX3_offenceOfMemory 121 = .ok (.getfield 46, 3) := by decide +kernel
theorem dX3_offenceOfMemory_124 : decode cX3_offenceOfMemory 124 = .ok (.iconst 0, 1) := by decide +kernel
theorem dX3_offenceOfMemory_125 : decode cX3_offenceOfMemory 125 = .ok (.iconst 1, 1) := by decide +kernel
theorem dX3_offenceOfMemory_126 : decode cX3_offenceOfMemory 126 = .ok (.aload_n 0, 1) := by decide +kernel
theorem dX3_offenceOfMemory_127 : decode cX3_offenceOfMemory 127 = .ok (.getfield 42, 3) := by decide +kernel
theorem dX3_offenceOfMemory_130 : decode cX3_offenceOfMemory 130 = .ok (.invokevirtual 200, 3) := by decide +kernel
theorem dX3_offenceOfMemory_133 : decode cX3_offenceOfMemory 133 = .ok (.iload 4, 2) := by decide +kernel
theorem dX3_offenceOfMemory_135 : decode cX3_offenceOfMemory 135 = .ok (.invokestatic 204, 3) := by decide +kernel
theorem dX3_offenceOfMemory_138 : decode cX3_offenceOfMemory 138 = .ok (.istore 8, 2) := by decide +kernel
theorem dX3_offenceOfMemory_140 : decode cX3_offenceOfMemory 140 = .ok (.aload_n 0, 1) := by decide +kernel
theorem dX3_offenceOfMemory_141 : decode cX3_offenceOfMemory 141 = .ok (.getfield 46, 3) := by decide +kernel
theorem dX3_offenceOfMemory_144 : decode cX3_offenceOfMemory 144 = .ok (.getfield 134, 3) := by decide +kernel
theorem dX3_offenceOfMemory_147 : decode cX3_offenceOfMemory 147 = .ok (.ldc2_w 208, 3) := by decide +kernel
theorem dX3_offenceOfMemory_150 : decode cX3_offenceOfMemory 150 = .ok (.invokestatic 210, 3) := by decide +kernel
theorem dX3_offenceOfMemory_153 : decode cX3_offenceOfMemory 153 = .ok (.ifCond .ne 20, 3) := by decide +kernel
theorem dX3_offenceOfMemory_156 : decode cX3_offenceOfMemory 156 = .ok (.iload 8, 2) := by decide +kernel
theorem dX3_offenceOfMemory_158 : decode cX3_offenceOfMemory 158 = .ok (.ineg, 1) := by decide +kernel
theorem dX3_offenceOfMemory_159 : decode cX3_offenceOfMemory 159 = .ok (.i2l, 1) := by decide +kernel
theorem dX3_offenceOfMemory_160 : decode cX3_offenceOfMemory 160 = .ok (.aload_n 0, 1) := by decide +kernel
theorem dX3_offenceOfMemory_161 : decode cX3_offenceOfMemory 161 = .ok (.getfield 46, 3) := by decide +kernel
theorem dX3_offenceOfMemory_164 : decode cX3_offenceOfMemory 164 = .ok (.getfield 137, 3) := by decide +kernel
theorem dX3_offenceOfMemory_167 : decode cX3_offenceOfMemory 167 = .ok (.invokestatic 210, 3) := by decide +kernel
theorem dX3_offenceOfMemory_170 : decode cX3_offenceOfMemory 170 = .ok (.ifCond .eq 7, 3) := by decide +kernel
theorem dX3_offenceOfMemory_173 : decode cX3_offenceOfMemory 173 = .ok (.iconst 1, 1) := by decide +kernel
theorem dX3_offenceOfMemory_174 : decode cX3_offenceOfMemory 174 = .ok (.goto 4, 3) := by decide +kernel
theorem dX3_offenceOfMemory_177 : decode cX3_offenceOfMemory 177 = .ok (.iconst 0, 1) := by decide +kernel
theorem dX3_offenceOfMemory_178 : decode cX3_offenceOfMemory 178 = .ok (.istore 9, 2) := by decide +kernel
theorem dX3_offenceOfMemory_180 : decode cX3_offenceOfMemory 180 = .ok (.aload_n 0, 1) := by decide +kernel
theorem dX3_offenceOfMemory_181 : decode cX3_offenceOfMemory 181 = .ok (.getfield 46, 3) := by decide +kernel
theorem dX3_offenceOfMemory_184 : decode cX3_offenceOfMemory 184 = .ok (.getfield 140, 3) := by decide +kernel
theorem dX3_offenceOfMemory_187 : decode cX3_offenceOfMemory 187 = .ok (.aload_n 0, 1) := by decide +kernel
theorem dX3_offenceOfMemory_188 : decode cX3_offenceOfMemory 188 = .ok (.getfield 46, 3) := by decide +kernel
theorem dX3_offenceOfMemory_191 : decode cX3_offenceOfMemory 191 = .ok (.getfield 143, 3) := by decide +kernel
theorem dX3_offenceOfMemory_194 : decode cX3_offenceOfMemory 194 = .ok (.ldc2_w 91, 3) := by decide +kernel
theorem dX3_offenceOfMemory_197 : decode cX3_offenceOfMemory 197 = .ok (.lxor, 1) := by decide +kernel
theorem dX3_offenceOfMemory_198 : decode cX3_offenceOfMemory 198 = .ok (.land, 1) := by decide +kernel
theorem dX3_offenceOfMemory_199 : decode cX3_offenceOfMemory 199 = .ok (.iload 8, 2) := by decide +kernel
theorem dX3_offenceOfMemory_201 : decode cX3_offenceOfMemory 201 = .ok (.iconst 1, 1) := by decide +kernel
theorem dX3_offenceOfMemory_202 : decode cX3_offenceOfMemory 202 = .ok (.isub, 1) := by decide +kernel
theorem dX3_offenceOfMemory_203 : decode cX3_offenceOfMemory 203 = .ok (.i2l, 1) := by decide +kernel
theorem dX3_offenceOfMemory_204 : decode cX3_offenceOfMemory 204 = .ok (.land, 1) := by decide +kernel
theorem dX3_offenceOfMemory_205 : decode cX3_offenceOfMemory 205 = .ok (.iload 8, 2) := by decide +kernel
theorem dX3_offenceOfMemory_207 : decode cX3_offenceOfMemory 207 = .ok (.iconst 1, 1) := by decide +kernel
theorem dX3_offenceOfMemory_208 : decode cX3_offenceOfMemory 208 = .ok (.isub, 1) := by decide +kernel
theorem dX3_offenceOfMemory_209 : decode cX3_offenceOfMemory 209 = .ok (.i2l, 1) := by decide +kernel
theorem dX3_offenceOfMemory_210 : decode cX3_offenceOfMemory 210 = .ok (.lcmp, 1) := by decide +kernel
theorem dX3_offenceOfMemory_211 : decode cX3_offenceOfMemory 211 = .ok (.ifCond .eq 7, 3) := by decide +kernel
theorem dX3_offenceOfMemory_214 : decode cX3_offenceOfMemory 214 = .ok (.iconst 1, 1) := by decide +kernel
theorem dX3_offenceOfMemory_215 : decode cX3_offenceOfMemory 215 = .ok (.goto 4, 3) := by decide +kernel
theorem dX3_offenceOfMemory_218 : decode cX3_offenceOfMemory 218 = .ok (.iconst 0, 1) := by decide +kernel
theorem dX3_offenceOfMemory_219 : decode cX3_offenceOfMemory 219 = .ok (.istore 10, 2) := by decide +kernel
theorem dX3_offenceOfMemory_221 : decode cX3_offenceOfMemory 221 = .ok (.iload 6, 2) := by decide +kernel
theorem dX3_offenceOfMemory_223 : decode cX3_offenceOfMemory 223 = .ok (.ifCond .eq 32, 3) := by decide +kernel
theorem dX3_offenceOfMemory_226 : decode cX3_offenceOfMemory 226 = .ok (.iload 9, 2) := by decide +kernel
theorem dX3_offenceOfMemory_228 : decode cX3_offenceOfMemory 228 = .ok (.ifCond .ne 27, 3) := by decide +kernel
theorem dX3_offenceOfMemory_231 : decode cX3_offenceOfMemory 231 = .ok (.aload_n 0, 1) := by decide +kernel
theorem dX3_offenceOfMemory_232 : decode cX3_offenceOfMemory 232 = .ok (.iload 8, 2) := by decide +kernel
theorem dX3_offenceOfMemory_234 : decode cX3_offenceOfMemory 234 = .ok (.invokevirtual 214, 3) := by decide +kernel
theorem dX3_offenceOfMemory_237 : decode cX3_offenceOfMemory 237 = .ok (.aload_n 0, 1) := by decide +kernel
theorem dX3_offenceOfMemory_238 : decode cX3_offenceOfMemory 238 = .ok (.getfield 127, 3) := by decide +kernel
theorem dX3_offenceOfMemory_241 : decode cX3_offenceOfMemory 241 = .ok (.ldc2_w 91, 3) := by decide +kernel
theorem dX3_offenceOfMemory_244 : decode cX3_offenceOfMemory 244 = .ok (.lxor, 1) := by decide +kernel
theorem dX3_offenceOfMemory_245 : decode cX3_offenceOfMemory 245 = .ok (.land, 1) := by decide +kernel
theorem dX3_offenceOfMemory_246 : decode cX3_offenceOfMemory 246 = .ok (.lconst 0, 1) := by decide +kernel
theorem dX3_offenceOfMemory_247 : decode cX3_offenceOfMemory 247 = .ok (.lcmp, 1) := by decide +kernel
theorem dX3_offenceOfMemory_248 : decode cX3_offenceOfMemory 248 = .ok (.ifCond .eq 7, 3) := by decide +kernel
theorem dX3_offenceOfMemory_251 : decode cX3_offenceOfMemory 251 = .ok (.iconst 1, 1) := by decide +kernel
theorem dX3_offenceOfMemory_252 : decode cX3_offenceOfMemory 252 = .ok (.goto 4, 3) := by decide +kernel
theorem dX3_offenceOfMemory_255 : decode cX3_offenceOfMemory 255 = .ok (.iconst 0, 1) := by decide +kernel
theorem dX3_offenceOfMemory_256 : decode cX3_offenceOfMemory 256 = .ok (.istore 11, 2) := by decide +kernel
theorem dX3_offenceOfMemory_258 : decode cX3_offenceOfMemory 258 = .ok (.aload_n 0, 1) := by decide +kernel
theorem dX3_offenceOfMemory_259 : decode cX3_offenceOfMemory 259 = .ok (.iload_n 3, 1) := by decide +kernel
theorem dX3_offenceOfMemory_260 : decode cX3_offenceOfMemory 260 = .ok (.invokevirtual 190, 3) := by decide +kernel
theorem dX3_offenceOfMemory_263 : decode cX3_offenceOfMemory 263 = .ok (.ifCond .eq 18, 3) := by decide +kernel
theorem dX3_offenceOfMemory_266 : decode cX3_offenceOfMemory 266 = .ok (.iload 9, 2) := by decide +kernel
theorem dX3_offenceOfMemory_268 : decode cX3_offenceOfMemory 268 = .ok (.ifCond .ne 13, 3) := by decide +kernel
theorem dX3_offenceOfMemory_271 : decode cX3_offenceOfMemory 271 = .ok (.iload 10, 2) := by decide +kernel
theorem dX3_offenceOfMemory_273 : decode cX3_offenceOfMemory 273 = .ok (.ifCond .ne 8, 3) := by decide +kernel
theorem dX3_offenceOfMemory_276 : decode cX3_offenceOfMemory 276 = .ok (.iload 11, 2) := by decide +kernel
theorem dX3_offenceOfMemory_278 : decode cX3_offenceOfMemory 278 = .ok (.ifCond .eq 8, 3) := by decide +kernel
theorem dX3_offenceOfMemory_281 : decode cX3_offenceOfMemory 281 = .ok (.bipush 7, 2) := by decide +kernel
theorem dX3_offenceOfMemory_283 : decode cX3_offenceOfMemory 283 = .ok (.goto 4, 3) := by decide +kernel
theorem dX3_offenceOfMemory_286 : decode cX3_offenceOfMemory 286 = .ok (.iconst 0, 1) := by decide +kernel
theorem dX3_offenceOfMemory_287 : decode cX3_offenceOfMemory 287 = .ok (.ireturn, 1) := by decide +kernel
theorem dX3_bytesFrom_0 : decode cX3_bytesFrom 0 = .ok (.aload_n 0, 1) := by decide +kernel
theorem dX3_bytesFrom_1 : decode cX3_bytesFrom 1 = .ok (.getfield 46, 3) := by decide +kernel
theorem dX3_bytesFrom_4 : decode cX3_bytesFrom 4 = .ok (.getfield 134, 3) := by decide +kernel
theorem dX3_bytesFrom_7 : decode cX3_bytesFrom 7 = .ok (.l2i, 1) := by decide +kernel
theorem dX3_bytesFrom_8 : decode cX3_bytesFrom 8 = .ok (.bipush 64, 2) := by decide +kernel
theorem dX3_bytesFrom_10 : decode cX3_bytesFrom 10 = .ok (.iadd, 1) := by decide +kernel
theorem dX3_bytesFrom_11 : decode cX3_bytesFrom 11 = .ok (.istore_n 2, 1) := by decide +kernel
theorem dX3_bytesFrom_12 : decode cX3_bytesFrom 12 = .ok (.aload_n 0, 1) := by decide +kernel
theorem dX3_bytesFrom_13 : decode cX3_bytesFrom 13 = .ok (.getfield 46, 3) := by decide +kernel
theorem dX3_bytesFrom_16 : decode cX3_bytesFrom 16 = .ok (.getfield 137, 3) := by decide +kernel
theorem dX3_bytesFrom_19 : decode cX3_bytesFrom 19 = .ok (.l2i, 1) := by decide +kernel
theorem dX3_bytesFrom_20 : decode cX3_bytesFrom 20 = .ok (.bipush 64, 2) := by decide +kernel
theorem dX3_bytesFrom_22 : decode cX3_bytesFrom 22 = .ok (.iadd, 1) := by decide +kernel
theorem dX3_bytesFrom_23 : decode cX3_bytesFrom 23 = .ok (.iload_n 1, 1) := by decide +kernel
theorem dX3_bytesFrom_24 : decode cX3_bytesFrom 24 = .ok (.iadd, 1) := by decide +kernel
theorem dX3_bytesFrom_25 : decode cX3_bytesFrom 25 = .ok (.istore_n 3, 1) := by decide +kernel
theorem dX3_bytesFrom_26 : decode cX3_bytesFrom 26 = .ok (.iload_n 3, 1) := by decide +kernel
theorem dX3_bytesFrom_27 : decode cX3_bytesFrom 27 = .ok (.iload_n 2, 1) := by decide +kernel
theorem dX3_bytesFrom_28 : decode cX3_bytesFrom 28 = .ok (.isub, 1) := by decide +kernel
theorem dX3_bytesFrom_29 : decode cX3_bytesFrom 29 = .ok (.bipush 64, 2) := by decide +kernel
theorem dX3_bytesFrom_31 : decode cX3_bytesFrom 31 = .ok (.if_icmp .lt 9, 3) := by decide +kernel
theorem dX3_bytesFrom_34 : decode cX3_bytesFrom 34 = .ok (.ldc2_w 91, 3) := by decide +kernel
theorem dX3_bytesFrom_37 : decode cX3_bytesFrom 37 = .ok (.goto 10, 3) := by decide +kernel
theorem dX3_bytesFrom_40 : decode cX3_bytesFrom 40 = .ok (.lconst 1, 1) := by decide +kernel
theorem dX3_bytesFrom_41 : decode cX3_bytesFrom 41 = .ok (.iload_n 3, 1) := by decide +kernel
theorem dX3_bytesFrom_42 : decode cX3_bytesFrom 42 = .ok (.iload_n 2, 1) := by decide +kernel
theorem dX3_bytesFrom_43 : decode cX3_bytesFrom 43 = .ok (.isub, 1) := by decide +kernel
theorem dX3_bytesFrom_44 : decode cX3_bytesFrom 44 = .ok (.lshl, 1) := by decide +kernel
theorem dX3_bytesFrom_45 : decode cX3_bytesFrom 45 = .ok (.lconst 1, 1) := by decide +kernel
theorem dX3_bytesFrom_46 : decode cX3_bytesFrom 46 = .ok (.lsub, 1) := by decide +kernel
theorem dX3_bytesFrom_47 : decode cX3_bytesFrom 47 = .ok (.lstore 4, 2) := by decide +kernel
theorem dX3_bytesFrom_49 : decode cX3_bytesFrom 49 = .ok (.lload 4, 2) := by decide +kernel
theorem dX3_bytesFrom_51 : decode cX3_bytesFrom 51 = .ok (.iload_n 2, 1) := by decide +kernel
theorem dX3_bytesFrom_52 : decode cX3_bytesFrom 52 = .ok (.lshl, 1) := by decide +kernel
theorem dX3_bytesFrom_53 : decode cX3_bytesFrom 53 = .ok (.lreturn, 1) := by decide +kernel
theorem dX3_pass_0 : decode cX3_pass 0 = .ok (.lload_n 2, 1) := by decide +kernel
theorem dX3_pass_1 : decode cX3_pass 1 = .ok (.invokestatic 101, 3) := by decide +kernel
theorem dX3_pass_4 : decode cX3_pass 4 = .ok (.istore 4, 2) := by decide +kernel
theorem dX3_pass_6 : decode cX3_pass 6 = .ok (.lload_n 2, 1) := by decide +kernel
theorem dX3_pass_7 : decode cX3_pass 7 = .ok (.invokestatic 157, 3) := by decide +kernel
theorem dX3_pass_10 : decode cX3_pass 10 = .ok (.istore 5, 2) := by decide +kernel
theorem dX3_pass_12 : decode cX3_pass 12 = .ok (.iload 4, 2) := by decide +kernel
theorem dX3_pass_14 : decode cX3_pass 14 = .ok (.sipush 149, 3) := by decide +kernel
theorem dX3_pass_17 : decode cX3_pass 17 = .ok (.if_icmp .ne 4, 3) := by decide +kernel
theorem dX3_pass_20 : decode cX3_pass 20 = .ok (.return_, 1) := by decide +kernel
theorem dX3_pass_21 : decode cX3_pass 21 = .ok (.iload 4, 2) := by decide +kernel
theorem dX3_pass_23 : decode cX3_pass 23 = .ok (.invokestatic 104, 3) := by decide +kernel
theorem dX3_pass_26 : decode cX3_pass 26 = .ok (.ifCond .eq 10, 3) := by decide +kernel
theorem dX3_pass_29 : decode cX3_pass 29 = .ok (.aload_n 0, 1) := by decide +kernel
theorem dX3_pass_30 : decode cX3_pass 30 = .ok (.iload_n 1, 1) := by decide +kernel
theorem dX3_pass_31 : decode cX3_pass 31 = .ok (.lload_n 2, 1) := by decide +kernel
theorem dX3_pass_32 : decode cX3_pass 32 = .ok (.invokevirtual 217, 3) := by decide +kernel
theorem dX3_pass_35 : decode cX3_pass 35 = .ok (.return_, 1) := by decide +kernel
theorem dX3_pass_36 : decode cX3_pass 36 = .ok (.iload 4, 2) := by decide +kernel
theorem dX3_pass_38 : decode cX3_pass 38 = .ok (.invokestatic 163, 3) := by decide +kernel
theorem dX3_pass_41 : decode cX3_pass 41 = .ok (.ifCond .eq 34, 3) := by decide +kernel
theorem dX3_pass_44 : decode cX3_pass 44 = .ok (.aload_n 0, 1) := by decide +kernel
theorem dX3_pass_45 : decode cX3_pass 45 = .ok (.lload_n 2, 1) := by decide +kernel
theorem dX3_pass_46 : decode cX3_pass 46 = .ok (.invokevirtual 220, 3) := by decide +kernel
theorem dX3_pass_49 : decode cX3_pass 49 = .ok (.aload_n 0, 1) := by decide +kernel
theorem dX3_pass_50 : decode cX3_pass 50 = .ok (.getfield 37, 3) := by decide +kernel
theorem dX3_pass_53 : decode cX3_pass 53 = .ok (.iload 5, 2) := by decide +kernel
theorem dX3_pass_55 : decode cX3_pass 55 = .ok (.aaload, 1) := by decide +kernel
theorem dX3_pass_56 : decode cX3_pass 56 = .ok (.iload 4, 2) := by decide +kernel
theorem dX3_pass_58 : decode cX3_pass 58 = .ok (.iconst 4, 1) := by decide +kernel
theorem dX3_pass_59 : decode cX3_pass 59 = .ok (.ishr, 1) := by decide +kernel
theorem dX3_pass_60 : decode cX3_pass 60 = .ok (.iload 4, 2) := by decide +kernel
theorem dX3_pass_62 : decode cX3_pass 62 = .ok (.invokestatic 193, 3) := by decide +kernel
theorem dX3_pass_65 : decode cX3_pass 65 = .ok (.aload_n 0, 1) := by decide +kernel
theorem dX3_pass_66 : decode cX3_pass 66 = .ok (.getfield 42, 3) := by decide +kernel
theorem dX3_pass_69 : decode cX3_pass 69 = .ok (.invokevirtual 200, 3) := by decide +kernel
theorem dX3_pass_72 : decode cX3_pass 72 = .ok (.goto 111, 3) := by decide +kernel
theorem dX3_pass_75 : decode cX3_pass 75 = .ok (.iload 4, 2) := by decide +kernel
theorem dX3_pass_77 : decode cX3_pass 77 = .ok (.invokestatic 180, 3) := by decide +kernel
theorem dX3_pass_80 : decode cX3_pass 80 = .ok (.ifCond .eq 21, 3) := by decide +kernel
theorem dX3_pass_83 : decode cX3_pass 83 = .ok (.aload_n 0, 1) := by decide +kernel
theorem dX3_pass_84 : decode cX3_pass 84 = .ok (.getfield 37, 3) := by decide +kernel
theorem dX3_pass_87 : decode cX3_pass 87 = .ok (.iload 5, 2) := by decide +kernel
theorem dX3_pass_89 : decode cX3_pass 89 = .ok (.aaload, 1) := by decide +kernel
theorem dX3_pass_90 : decode cX3_pass 90 = .ok (.iload 4, 2) := by decide +kernel
theorem dX3_pass_92 : decode cX3_pass 92 = .ok (.invokestatic 204, 3) := by decide +kernel
theorem dX3_pass_95 : decode cX3_pass 95 = .ok (.invokevirtual 223, 3) := by decide +kernel
theorem dX3_pass_98 : decode cX3_pass 98 = .ok (.goto 85, 3) := by decide +kernel
theorem dX3_pass_101 : decode cX3_pass 101 = .ok (.iload 4, 2) := by decide +kernel
theorem dX3_pass_103 : decode cX3_pass 103 = .ok (.invokestatic 226, 3) := by decide +kernel
theorem dX3_pass_106 : decode cX3_pass 106 = .ok (.ifCond .eq 38, 3) := by decide +kernel
theorem dX3_pass_109 : decode cX3_pass 109 = .ok (.aload_n 0, 1) := by decide +kernel
theorem dX3_pass_110 : decode cX3_pass 110 = .ok (.dup, 1) := by decide +kernel
theorem dX3_pass_111 : decode cX3_pass 111 = .ok (.getfield 127, 3) := by decide +kernel
theorem dX3_pass_114 : decode cX3_pass 114 = .ok (.aload_n 0, 1) := by decide +kernel
theorem dX3_pass_115 : decode cX3_pass 115 = .ok (.getfield 46, 3) := by decide +kernel
theorem dX3_pass_118 : decode cX3_pass 118 = .ok (.invokevirtual 229, 3) := by decide +kernel
theorem dX3_pass_121 : decode cX3_pass 121 = .ok (.ifCond .eq 15, 3) := by decide +kernel
theorem dX3_pass_124 : decode cX3_pass 124 = .ok (.aload_n 0, 1) := by decide +kernel
theorem dX3_pass_125 : decode cX3_pass 125 = .ok (.iload 4, 2) := by decide +kernel
theorem dX3_pass_127 : decode cX3_pass 127 = .ok (.invokestatic 204, 3) := by decide +kernel
theorem dX3_pass_130 : decode cX3_pass 130 = .ok (.invokevirtual 214, 3) := by decide +kernel
theorem dX3_pass_133 : decode cX3_pass 133 = .ok (.goto 4, 3) := by decide +kernel
theorem dX3_pass_136 : decode cX3_pass 136 = .ok (.lconst 0, 1) := by decide +kernel
theorem dX3_pass_137 : decode cX3_pass 137 = .ok (.lor, 1) := by decide +kernel
theorem dX3_pass_138 : decode cX3_pass 138 = .ok (.putfield 127, 3) := by decide +kernel
theorem dX3_pass_141 : decode cX3_pass 141 = .ok (.goto 42, 3) := by decide +kernel
theorem dX3_pass_144 : decode cX3_pass 144 = .ok (.aload_n 0, 1) := by decide +kernel
theorem dX3_pass_145 : decode cX3_pass 145 = .ok (.getfield 37, 3) := by decide +kernel
theorem dX3_pass_148 : decode cX3_pass 148 = .ok (.iconst 0, 1) := by decide +kernel
theorem dX3_pass_149 : decode cX3_pass 149 = .ok (.aaload, 1) := by decide +kernel
theorem dX3_pass_150 : decode cX3_pass 150 = .ok (.iload 4, 2) := by decide +kernel
theorem dX3_pass_152 : decode cX3_pass 152 = .ok (.invokestatic 204, 3) := by decide +kernel
theorem dX3_pass_155 : decode cX3_pass 155 = .ok (.invokevirtual 223, 3) := by decide +kernel
theorem dX3_pass_158 : decode cX3_pass 158 = .ok (.iconst 1, 1) := by decide +kernel
theorem dX3_pass_159 : decode cX3_pass 159 = .ok (.istore 6, 2) := by decide +kernel
theorem dX3_pass_161 : decode cX3_pass 161 = .ok (.iload 6, 2) := by decide +kernel
theorem dX3_pass_163 : decode cX3_pass 163 = .ok (.iconst 5, 1) := by decide +kernel
theorem dX3_pass_164 : decode cX3_pass 164 = .ok (.if_icmp .gt 19, 3) := by decide +kernel
theorem dX3_pass_167 : decode cX3_pass 167 = .ok (.aload_n 0, 1) := by decide +kernel
theorem dX3_pass_168 : decode cX3_pass 168 = .ok (.getfield 37, 3) := by decide +kernel
theorem dX3_pass_171 : decode cX3_pass 171 = .ok (.iload 6, 2) := by decide +kernel
theorem dX3_pass_173 : decode cX3_pass 173 = .ok (.aaload, 1) := by decide +kernel
theorem dX3_pass_174 : decode cX3_pass 174 = .ok (.invokevirtual 111, 3) := by decide +kernel
theorem dX3_pass_177 : decode cX3_pass 177 = .ok (.iinc 6 1, 3) := by decide +kernel
theorem dX3_pass_180 : decode cX3_pass 180 = .ok (.goto (-19), 3) := by decide +kernel
theorem dX3_pass_183 : decode cX3_pass 183 = .ok (.aload_n 0, 1) := by decide +kernel
theorem dX3_pass_184 : decode cX3_pass 184 = .ok (.iload_n 1, 1) := by decide +kernel
theorem dX3_pass_185 : decode cX3_pass 185 = .ok (.iconst 1, 1) := by decide +kernel
theorem dX3_pass_186 : decode cX3_pass 186 = .ok (.iadd, 1) := by decide +kernel
theorem dX3_pass_187 : decode cX3_pass 187 = .ok (.invokevirtual 131, 3) := by decide +kernel
theorem dX3_pass_190 : decode cX3_pass 190 = .ok (.return_, 1) := by decide +kernel
theorem dX3_bringSide_0 : decode cX3_bringSide 0 = .ok (.lload_n 1, 1) := by decide +kernel
theorem dX3_bringSide_1 : decode cX3_bringSide 1 = .ok (.invokestatic 101, 3) := by decide +kernel
theorem dX3_bringSide_4 : decode cX3_bringSide 4 = .ok (.invokestatic 174, 3) := by decide +kernel
theorem dX3_bringSide_7 : decode cX3_bringSide 7 = .ok (.ifCond .eq 22, 3) := by decide +kernel
theorem dX3_bringSide_10 : decode cX3_bringSide 10 = .ok (.aload_n 0, 1) := by decide +kernel
theorem dX3_bringSide_11 : decode cX3_bringSide 11 = .ok (.getfield 42, 3) := by decide +kernel
theorem dX3_bringSide_14 : decode cX3_bringSide 14 = .ok (.aload_n 0, 1) := by decide +kernel
theorem dX3_bringSide_15 : decode cX3_bringSide 15 = .ok (.getfield 37, 3) := by decide +kernel
theorem dX3_bringSide_18 : decode cX3_bringSide 18 = .ok (.lload_n 1, 1) := by decide +kernel
theorem dX3_bringSide_19 : decode cX3_bringSide 19 = .ok (.invokestatic 160, 3) := by decide +kernel
theorem dX3_bringSide_22 : decode cX3_bringSide 22 = .ok (.aaload, 1) := by decide +kernel
theorem dX3_bringSide_23 : decode cX3_bringSide 23 = .ok (.invokevirtual 196, 3) := by decide +kernel
theorem dX3_bringSide_26 : decode cX3_bringSide 26 = .ok (.goto 15, 3) := by decide +kernel
theorem dX3_bringSide_29 : decode cX3_bringSide 29 = .ok (.aload_n 0, 1) := by decide +kernel
theorem dX3_bringSide_30 : decode cX3_bringSide 30 = .ok (.getfield 42, 3) := by decide +kernel
theorem dX3_bringSide_33 : decode cX3_bringSide 33 = .ok (.lload_n 1, 1) := by decide +kernel
theorem dX3_bringSide_34 : decode cX3_bringSide 34 = .ok (.invokestatic 233, 3) := by decide +kernel
theorem dX3_bringSide_37 : decode cX3_bringSide 37 = .ok (.i2l, 1) := by decide +kernel
theorem dX3_bringSide_38 : decode cX3_bringSide 38 = .ok (.invokevirtual 120, 3) := by decide +kernel
theorem dX3_bringSide_41 : decode cX3_bringSide 41 = .ok (.return_, 1) := by decide +kernel
theorem dX3_passJump_0 : decode cX3_passJump 0 = .ok (.lload_n 2, 1) := by decide +kernel
theorem dX3_passJump_1 : decode cX3_passJump 1 = .ok (.invokestatic 101, 3) := by decide +kernel
theorem dX3_passJump_4 : decode cX3_passJump 4 = .ok (.istore 4, 2) := by decide +kernel
theorem dX3_passJump_6 : decode cX3_passJump 6 = .ok (.iload_n 1, 1) := by decide +kernel
theorem dX3_passJump_7 : decode cX3_passJump 7 = .ok (.iconst 1, 1) := by decide +kernel
theorem dX3_passJump_8 : decode cX3_passJump 8 = .ok (.iadd, 1) := by decide +kernel
theorem dX3_passJump_9 : decode cX3_passJump 9 = .ok (.lload_n 2, 1) := by decide +kernel
theorem dX3_passJump_10 : decode cX3_passJump 10 = .ok (.invokestatic 108, 3) := by decide +kernel
theorem dX3_passJump_13 : decode cX3_passJump 13 = .ok (.iadd, 1) := by decide +kernel
theorem dX3_passJump_14 : decode cX3_passJump 14 = .ok (.istore 5, 2) := by decide +kernel
theorem dX3_passJump_16 : decode cX3_passJump 16 = .ok (.iload 4, 2) := by decide +kernel
theorem dX3_passJump_18 : decode cX3_passJump 18 = .ok (.iconst 4, 1) := by decide +kernel
theorem dX3_passJump_19 : decode cX3_passJump 19 = .ok (.ishr, 1) := by decide +kernel
theorem dX3_passJump_20 : decode cX3_passJump 20 = .ok (.istore 6, 2) := by decide +kernel
theorem dX3_passJump_22 : decode cX3_passJump 22 = .ok (.iload 6, 2) := by decide +kernel
theorem dX3_passJump_24 : decode cX3_passJump 24 = .ok (.ifCond .ne 10, 3) := by decide +kernel
theorem dX3_passJump_27 : decode cX3_passJump 27 = .ok (.aload_n 0, 1) := by decide +kernel
theorem dX3_passJump_28 : decode cX3_passJump 28 = .ok (.iload 5, 2) := by decide +kernel
theorem dX3_passJump_30 : decode cX3_passJump 30 = .ok (.invokevirtual 131, 3) := by decide +kernel
theorem dX3_passJump_33 : decode cX3_passJump 33 = .ok (.return_, 1) := by decide +kernel
theorem dX3_passJump_34 : decode cX3_passJump 34 = .ok (.aload_n 0, 1) := by decide +kernel
theorem dX3_passJump_35 : decode cX3_passJump 35 = .ok (.lload_n 2, 1) := by decide +kernel
theorem dX3_passJump_36 : decode cX3_passJump 36 = .ok (.invokevirtual 220, 3) := by decide +kernel
theorem dX3_passJump_39 : decode cX3_passJump 39 = .ok (.iload 6, 2) := by decide +kernel
theorem dX3_passJump_41 : decode cX3_passJump 41 = .ok (.iconst 1, 1) := by decide +kernel
theorem dX3_passJump_42 : decode cX3_passJump 42 = .ok (.if_icmp .eq 35, 3) := by decide +kernel
theorem dX3_passJump_45 : decode cX3_passJump 45 = .ok (.iload 6, 2) := by decide +kernel
theorem dX3_passJump_47 : decode cX3_passJump 47 = .ok (.iconst 2, 1) := by decide +kernel
theorem dX3_passJump_48 : decode cX3_passJump 48 = .ok (.if_icmp .eq 29, 3) := by decide +kernel
theorem dX3_passJump_51 : decode cX3_passJump 51 = .ok (.iload 6, 2) := by decide +kernel
theorem dX3_passJump_53 : decode cX3_passJump 53 = .ok (.iconst 3, 1) := by decide +kernel
theorem dX3_passJump_54 : decode cX3_passJump 54 = .ok (.if_icmp .eq 23, 3) := by decide +kernel
theorem dX3_passJump_57 : decode cX3_passJump 57 = .ok (.iload 6, 2) := by decide +kernel
theorem dX3_passJump_59 : decode cX3_passJump 59 = .ok (.iconst 5, 1) := by decide +kernel
theorem dX3_passJump_60 : decode cX3_passJump 60 = .ok (.if_icmp .eq 17, 3) := by decide +kernel
theorem dX3_passJump_63 : decode cX3_passJump 63 = .ok (.iload 6, 2) := by decide +kernel
theorem dX3_passJump_65 : decode cX3_passJump 65 = .ok (.bipush 10, 2) := by decide +kernel
theorem dX3_passJump_67 : decode cX3_passJump 67 = .ok (.if_icmp .eq 10, 3) := by decide +kernel
theorem dX3_passJump_70 : decode cX3_passJump 70 = .ok (.iload 6, 2) := by decide +kernel
theorem dX3_passJump_72 : decode cX3_passJump 72 = .ok (.bipush 11, 2) := by decide +kernel
theorem dX3_passJump_74 : decode cX3_passJump 74 = .ok (.if_icmp .ne 7, 3) := by decide +kernel
theorem dX3_passJump_77 : decode cX3_passJump 77 = .ok (.iconst 1, 1) := by decide +kernel
theorem dX3_passJump_78 : decode cX3_passJump 78 = .ok (.goto 4, 3) := by decide +kernel
theorem dX3_passJump_81 : decode cX3_passJump 81 = .ok (.iconst 0, 1) := by decide +kernel
theorem dX3_passJump_82 : decode cX3_passJump 82 = .ok (.istore 7, 2) := by decide +kernel
theorem dX3_passJump_84 : decode cX3_passJump 84 = .ok (.iload 7, 2) := by decide +kernel
theorem dX3_passJump_86 : decode cX3_passJump 86 = .ok (.ifCond .eq 21, 3) := by decide +kernel
theorem dX3_passJump_89 : decode cX3_passJump 89 = .ok (.iload 4, 2) := by decide +kernel
theorem dX3_passJump_91 : decode cX3_passJump 91 = .ok (.invokestatic 193, 3) := by decide +kernel
theorem dX3_passJump_94 : decode cX3_passJump 94 = .ok (.ifCond .eq 13, 3) := by decide +kernel
theorem dX3_passJump_97 : decode cX3_passJump 97 = .ok (.aload_n 0, 1) := by decide +kernel
theorem dX3_passJump_98 : decode cX3_passJump 98 = .ok (.getfield 42, 3) := by decide +kernel
theorem dX3_passJump_101 : decode cX3_passJump 101 = .ok (.invokevirtual 229, 3) := by decide +kernel
theorem dX3_passJump_104 : decode cX3_passJump 104 = .ok (.ifCond .ne 17, 3) := by decide +kernel
theorem dX3_passJump_107 : decode cX3_passJump 107 = .ok (.aload_n 0, 1) := by decide +kernel
theorem dX3_passJump_108 : decode cX3_passJump 108 = .ok (.iload 5, 2) := by decide +kernel
theorem dX3_passJump_110 : decode cX3_passJump 110 = .ok (.invokevirtual 131, 3) := by decide +kernel
theorem dX3_passJump_113 : decode cX3_passJump 113 = .ok (.aload_n 0, 1) := by decide +kernel
theorem dX3_passJump_114 : decode cX3_passJump 114 = .ok (.iload_n 1, 1) := by decide +kernel
theorem dX3_passJump_115 : decode cX3_passJump 115 = .ok (.iconst 1, 1) := by decide +kernel
theorem dX3_passJump_116 : decode cX3_passJump 116 = .ok (.iadd, 1) := by decide +kernel
theorem dX3_passJump_117 : decode cX3_passJump 117 = .ok (.invokevirtual 131, 3) := by decide +kernel
theorem dX3_passJump_120 : decode cX3_passJump 120 = .ok (.return_, 1) := by decide +kernel
theorem dX3_passJump_121 : decode cX3_passJump 121 = .ok (.aload_n 0, 1) := by decide +kernel
theorem dX3_passJump_122 : decode cX3_passJump 122 = .ok (.getfield 37, 3) := by decide +kernel
theorem dX3_passJump_125 : decode cX3_passJump 125 = .ok (.lload_n 2, 1) := by decide +kernel
theorem dX3_passJump_126 : decode cX3_passJump 126 = .ok (.invokestatic 157, 3) := by decide +kernel
theorem dX3_passJump_129 : decode cX3_passJump 129 = .ok (.aaload, 1) := by decide +kernel
theorem dX3_passJump_130 : decode cX3_passJump 130 = .ok (.astore 8, 2) := by decide +kernel
theorem dX3_passJump_132 : decode cX3_passJump 132 = .ok (.aload_n 0, 1) := by decide +kernel
theorem dX3_passJump_133 : decode cX3_passJump 133 = .ok (.getfield 49, 3) := by decide +kernel
theorem dX3_passJump_136 : decode cX3_passJump 136 = .ok (.aload 8, 2) := by decide +kernel
theorem dX3_passJump_138 : decode cX3_passJump 138 = .ok (.invokevirtual 196, 3) := by decide +kernel
theorem dX3_passJump_141 : decode cX3_passJump 141 = .ok (.aload 8, 2) := by decide +kernel
theorem dX3_passJump_143 : decode cX3_passJump 143 = .ok (.iload 6, 2) := by decide +kernel
theorem dX3_passJump_145 : decode cX3_passJump 145 = .ok (.aload_n 0, 1) := by decide +kernel
theorem dX3_passJump_146 : decode cX3_passJump 146 = .ok (.getfield 42, 3) := by decide +kernel
theorem dX3_passJump_149 : decode cX3_passJump 149 = .ok (.getfield 134, 3) := by decide +kernel
theorem dX3_passJump_152 : decode cX3_passJump 152 = .ok (.invokevirtual 236, 3) := by decide +kernel
theorem dX3_passJump_155 : decode cX3_passJump 155 = .ok (.ifCond .eq 9, 3) := by decide +kernel
theorem dX3_passJump_158 : decode cX3_passJump 158 = .ok (.aload_n 0, 1) := by decide +kernel
theorem dX3_passJump_159 : decode cX3_passJump 159 = .ok (.iload 5, 2) := by decide +kernel
theorem dX3_passJump_161 : decode cX3_passJump 161 = .ok (.invokevirtual 131, 3) := by decide +kernel
theorem dX3_passJump_164 : decode cX3_passJump 164 = .ok (.aload 8, 2) := by decide +kernel
theorem dX3_passJump_166 : decode cX3_passJump 166 = .ok (.aload_n 0, 1) := by decide +kernel
theorem dX3_passJump_167 : decode cX3_passJump 167 = .ok (.getfield 49, 3) := by decide +kernel
theorem dX3_passJump_170 : decode cX3_passJump 170 = .ok (.invokevirtual 196, 3) := by decide +kernel
theorem dX3_passJump_173 : decode cX3_passJump 173 = .ok (.aload 8, 2) := by decide +kernel
theorem dX3_passJump_175 : decode cX3_passJump 175 = .ok (.iload 6, 2) := by decide +kernel
theorem dX3_passJump_177 : decode cX3_passJump 177 = .ok (.invokestatic 239, 3) := by decide +kernel
theorem dX3_passJump_180 : decode cX3_passJump 180 = .ok (.aload_n 0, 1) := by decide +kernel
theorem dX3_passJump_181 : decode cX3_passJump 181 = .ok (.getfield 42, 3) := by decide +kernel
theorem dX3_passJump_184 : decode cX3_passJump 184 = .ok (.getfield 134, 3) := by decide +kernel
theorem dX3_passJump_187 : decode cX3_passJump 187 = .ok (.invokevirtual 236, 3) := by decide +kernel
theorem dX3_passJump_190 : decode cX3_passJump 190 = .ok (.ifCond .eq 10, 3) := by decide +kernel
theorem dX3_passJump_193 : decode cX3_passJump 193 = .ok (.aload_n 0, 1) := by decide +kernel
theorem dX3_passJump_194 : decode cX3_passJump 194 = .ok (.iload_n 1, 1) := by decide +kernel
theorem dX3_passJump_195 : decode cX3_passJump 195 = .ok (.iconst 1, 1) := by decide +kernel
theorem dX3_passJump_196 : decode cX3_passJump 196 = .ok (.iadd, 1) := by decide +kernel
theorem dX3_passJump_197 : decode cX3_passJump 197 = .ok (.invokevirtual 131, 3) := by decide +kernel
theorem dX3_passJump_200 : decode cX3_passJump 200 = .ok (.return_, 1) := by decide +kernel
theorem dX4_init_0 : decode cX4_init 0 = .ok (.aload_n 0, 1) := by decide +kernel
theorem dX4_init_1 : decode cX4_init 1 = .ok (.invokespecial 3, 3) := by decide +kernel
theorem dX4_init_4 : decode cX4_init 4 = .ok (.aload_n 0, 1) := by decide +kernel
theorem dX4_init_5 : decode cX4_init 5 = .ok (.bipush 32, 2) := by decide +kernel
theorem dX4_init_7 : decode cX4_init 7 = .ok (.newarray .long, 2) := by decide +kernel
theorem dX4_init_9 : decode cX4_init 9 = .ok (.putfield 9, 3) := by decide +kernel
theorem dX4_init_12 : decode cX4_init 12 = .ok (.aload_n 0, 1) := by decide +kernel
theorem dX4_init_13 : decode cX4_init 13 = .ok (.bipush 64, 2) := by decide +kernel
theorem dX4_init_15 : decode cX4_init 15 = .ok (.newarray .byte, 2) := by decide +kernel
theorem dX4_init_17 : decode cX4_init 17 = .ok (.putfield 15, 3) := by decide +kernel
theorem dX4_init_20 : decode cX4_init 20 = .ok (.aload_n 0, 1) := by decide +kernel
theorem dX4_init_21 : decode cX4_init 21 = .ok (.aload_n 1, 1) := by decide +kernel
theorem dX4_init_22 : decode cX4_init 22 = .ok (.putfield 19, 3) := by decide +kernel
theorem dX4_init_25 : decode cX4_init 25 = .ok (.return_, 1) := by decide +kernel
theorem dX4_begin_0 : decode cX4_begin 0 = .ok (.aload_n 0, 1) := by decide +kernel
theorem dX4_begin_1 : decode cX4_begin 1 = .ok (.iload_n 2, 1) := by decide +kernel
theorem dX4_begin_2 : decode cX4_begin 2 = .ok (.putfield 23, 3) := by decide +kernel
theorem dX4_begin_5 : decode cX4_begin 5 = .ok (.aload_n 0, 1) := by decide +kernel
theorem dX4_begin_6 : decode cX4_begin 6 = .ok (.iload_n 1, 1) := by decide +kernel
theorem dX4_begin_7 : decode cX4_begin 7 = .ok (.putfield 27, 3) := by decide +kernel
theorem dX4_begin_10 : decode cX4_begin 10 = .ok (.iconst 0, 1) := by decide +kernel
theorem dX4_begin_11 : decode cX4_begin 11 = .ok (.istore_n 3, 1) := by decide +kernel
theorem dX4_begin_12 : decode cX4_begin 12 = .ok (.iload_n 3, 1) := by decide +kernel
theorem dX4_begin_13 : decode cX4_begin 13 = .ok (.aload_n 0, 1) := by decide +kernel
theorem dX4_begin_14 : decode cX4_begin 14 = .ok (.getfield 9, 3) := by decide +kernel
theorem dX4_begin_17 : decode cX4_begin 17 = .ok (.arraylength, 1) := by decide +kernel
theorem dX4_begin_18 : decode cX4_begin 18 = .ok (.if_icmp .ge 16, 3) := by decide +kernel
theorem dX4_begin_21 : decode cX4_begin 21 = .ok (.aload_n 0, 1) := by decide +kernel
theorem dX4_begin_22 : decode cX4_begin 22 = .ok (.getfield 9, 3) := by decide +kernel
theorem dX4_begin_25 : decode cX4_begin 25 = .ok (.iload_n 3, 1) := by decide +kernel
theorem dX4_begin_26 : decode cX4_begin 26 = .ok (.lconst 0, 1) := by decide +kernel
theorem dX4_begin_27 : decode cX4_begin 27 = .ok (.lastore, 1) := by decide +kernel
theorem dX4_begin_28 : decode cX4_begin 28 = .ok (.iinc 3 1, 3) := by decide +kernel
theorem dX4_begin_31 : decode cX4_begin 31 = .ok (.goto (-19), 3) := by decide +kernel
theorem dX4_begin_34 : decode cX4_begin 34 = .ok (.iconst 0, 1) := by decide +kernel
theorem dX4_begin_35 : decode cX4_begin 35 = .ok (.istore_n 3, 1) := by decide +kernel
theorem dX4_begin_36 : decode cX4_begin 36 = .ok (.iload_n 3, 1) := by decide +kernel
theorem dX4_begin_37 : decode cX4_begin 37 = .ok (.aload_n 0, 1) := by decide +kernel
theorem dX4_begin_38 : decode cX4_begin 38 = .ok (.getfield 15, 3) := by decide +kernel
theorem dX4_begin_41 : decode cX4_begin 41 = .ok (.arraylength, 1) := by decide +kernel
theorem dX4_begin_42 : decode cX4_begin 42 = .ok (.if_icmp .ge 16, 3) := by decide +kernel
theorem dX4_begin_45 : decode cX4_begin 45 = .ok (.aload_n 0, 1) := by decide +kernel
theorem dX4_begin_46 : decode cX4_begin 46 = .ok (.getfield 15, 3) := by decide +kernel
theorem dX4_begin_49 : decode cX4_begin 49 = .ok (.iload_n 3, 1) := by decide +kernel
theorem dX4_begin_50 : decode cX4_begin 50 = .ok (.iconst 0, 1) := by decide +kernel
theorem dX4_begin_51 : decode cX4_begin 51 = .ok (.bastore, 1) := by decide +kernel
theorem dX4_begin_52 : decode cX4_begin 52 = .ok (.iinc 3 1, 3) := by decide +kernel
theorem dX4_begin_55 : decode cX4_begin 55 = .ok (.goto (-19), 3) := by decide +kernel
theorem dX4_begin_58 : decode cX4_begin 58 = .ok (.aload_n 0, 1) := by decide +kernel
theorem dX4_begin_59 : decode cX4_begin 59 = .ok (.iconst 0, 1) := by decide +kernel
theorem dX4_begin_60 : decode cX4_begin 60 = .ok (.putfield 30, 3) := by decide +kernel
theorem dX4_begin_63 : decode cX4_begin 63 = .ok (.aload_n 0, 1) := by decide +kernel
theorem dX4_begin_64 : decode cX4_begin 64 = .ok (.iconst 0, 1) := by decide +kernel
theorem dX4_begin_65 : decode cX4_begin 65 = .ok (.putfield 33, 3) := by decide +kernel
theorem dX4_begin_68 : decode cX4_begin 68 = .ok (.aload_n 0, 1) := by decide +kernel
theorem dX4_begin_69 : decode cX4_begin 69 = .ok (.iconst 0, 1) := by decide +kernel
theorem dX4_begin_70 : decode cX4_begin 70 = .ok (.putfield 36, 3) := by decide +kernel
theorem dX4_begin_73 : decode cX4_begin 73 = .ok (.aload_n 0, 1) := by decide +kernel
theorem dX4_begin_74 : decode cX4_begin 74 = .ok (.lconst 1, 1) := by decide +kernel
theorem dX4_begin_75 : decode cX4_begin 75 = .ok (.putfield 39, 3) := by decide +kernel
theorem dX4_begin_78 : decode cX4_begin 78 = .ok (.aload_n 0, 1) := by decide +kernel
theorem dX4_begin_79 : decode cX4_begin 79 = .ok (.iconst 0, 1) := by decide +kernel
theorem dX4_begin_80 : decode cX4_begin 80 = .ok (.putfield 43, 3) := by decide +kernel
theorem dX4_begin_83 : decode cX4_begin 83 = .ok (.return_, 1) := by decide +kernel
theorem dX4_get_0 : decode cX4_get 0 = .ok (.iload_n 1, 1) := by decide +kernel
theorem dX4_get_1 : decode cX4_get 1 = .ok (.ifCond .lt 12, 3) := by decide +kernel
theorem dX4_get_4 : decode cX4_get 4 = .ok (.iload_n 1, 1) := by decide +kernel
theorem dX4_get_5 : decode cX4_get 5 = .ok (.aload_n 0, 1) := by decide +kernel
theorem dX4_get_6 : decode cX4_get 6 = .ok (.getfield 9, 3) := by decide +kernel
theorem dX4_get_9 : decode cX4_get 9 = .ok (.arraylength, 1) := by decide +kernel
theorem dX4_get_10 : decode cX4_get 10 = .ok (.if_icmp .lt 7, 3) := by decide +kernel
theorem dX4_get_13 : decode cX4_get 13 = .ok (.lconst 0, 1) := by decide +kernel
theorem dX4_get_14 : decode cX4_get 14 = .ok (.goto 9, 3) := by decide +kernel
theorem dX4_get_17 : decode cX4_get 17 = .ok (.aload_n 0, 1) := by decide +kernel
theorem dX4_get_18 : decode cX4_get 18 = .ok (.getfield 9, 3) := by decide +kernel
theorem dX4_get_21 : decode cX4_get 21 = .ok (.iload_n 1, 1) := by decide +kernel
theorem dX4_get_22 : decode cX4_get 22 = .ok (.laload, 1) := by decide +kernel
theorem dX4_get_23 : decode cX4_get 23 = .ok (.lreturn, 1) := by decide +kernel
theorem dX4_set_0 : decode cX4_set 0 = .ok (.iload_n 1, 1) := by decide +kernel
theorem dX4_set_1 : decode cX4_set 1 = .ok (.ifCond .lt 19, 3) := by decide +kernel
theorem dX4_set_4 : decode cX4_set 4 = .ok (.iload_n 1, 1) := by decide +kernel
theorem dX4_set_5 : decode cX4_set 5 = .ok (.aload_n 0, 1) := by decide +kernel
theorem dX4_set_6 : decode cX4_set 6 = .ok (.getfield 9, 3) := by decide +kernel
theorem dX4_set_9 : decode cX4_set 9 = .ok (.arraylength, 1) := by decide +kernel
theorem dX4_set_10 : decode cX4_set 10 = .ok (.if_icmp .ge 10, 3) := by decide +kernel
theorem dX4_set_13 : decode cX4_set 13 = .ok (.aload_n 0, 1) := by decide +kernel
theorem dX4_set_14 : decode cX4_set 14 = .ok (.getfield 9, 3) := by decide +kernel
theorem dX4_set_17 : decode cX4_set 17 = .ok (.iload_n 1, 1) := by decide +kernel
theorem dX4_set_18 : decode cX4_set 18 = .ok (.lload_n 2, 1) := by decide +kernel
theorem dX4_set_19 : decode cX4_set 19 = .ok (.lastore, 1) := by decide +kernel
theorem dX4_set_20 : decode cX4_set 20 = .ok (.return_, 1) := by decide +kernel
theorem dX4_stop_0 : decode cX4_stop 0 = .ok (.aload_n 0, 1) := by decide +kernel
theorem dX4_stop_1 : decode cX4_stop 1 = .ok (.iload_n 1, 1) := by decide +kernel
theorem dX4_stop_2 : decode cX4_stop 2 = .ok (.putfield 30, 3) := by decide +kernel
theorem dX4_stop_5 : decode cX4_stop 5 = .ok (.aload_n 0, 1) := by decide +kernel
theorem dX4_stop_6 : decode cX4_stop 6 = .ok (.iconst 1, 1) := by decide +kernel
theorem dX4_stop_7 : decode cX4_stop 7 = .ok (.putfield 43, 3) := by decide +kernel
theorem dX4_stop_10 : decode cX4_stop 10 = .ok (.return_, 1) := by decide +kernel
theorem dX4_stepOn_0 : decode cX4_stepOn 0 = .ok (.aload_n 0, 1) := by decide +kernel
theorem dX4_stepOn_1 : decode cX4_stepOn 1 = .ok (.getfield 30, 3) := by decide +kernel
theorem dX4_stepOn_4 : decode cX4_stepOn 4 = .ok (.ifCond .eq 4, 3) := by decide +kernel
theorem dX4_stepOn_7 : decode cX4_stepOn 7 = .ok (.return_, 1) := by decide +kernel
theorem dX4_stepOn_8 : decode cX4_stepOn 8 = .ok (.aload_n 0, 1) := by decide +kernel
theorem dX4_stepOn_9 : decode cX4_stepOn 9 = .ok (.getfield 43, 3) := by decide +kernel
theorem dX4_stepOn_12 : decode cX4_stepOn 12 = .ok (.ifCond .ne 28, 3) := by decide +kernel
theorem dX4_stepOn_15 : decode cX4_stepOn 15 = .ok (.aload_n 0, 1) := by decide +kernel
theorem dX4_stepOn_16 : decode cX4_stepOn 16 = .ok (.getfield 39, 3) := by decide +kernel
theorem dX4_stepOn_19 : decode cX4_stepOn 19 = .ok (.lconst 0, 1) := by decide +kernel
theorem dX4_stepOn_20 : decode cX4_stepOn 20 = .ok (.lcmp, 1) := by decide +kernel
theorem dX4_stepOn_21 : decode cX4_stepOn 21 = .ok (.ifCond .lt 13, 3) := by decide +kernel
theorem dX4_stepOn_24 : decode cX4_stepOn 24 = .ok (.aload_n 0, 1) := by decide +kernel
theorem dX4_stepOn_25 : decode cX4_stepOn 25 = .ok (.getfield 39, 3) := by decide +kernel
theorem dX4_stepOn_28 : decode cX4_stepOn 28 = .ok (.iload_n 1, 1) := by decide +kernel
theorem dX4_stepOn_29 : decode cX4_stepOn 29 = .ok (.i2l, 1) := by decide +kernel
theorem dX4_stepOn_30 : decode cX4_stepOn 30 = .ok (.lcmp, 1) := by decide +kernel
theorem dX4_stepOn_31 : decode cX4_stepOn 31 = .ok (.ifCond .lt 9, 3) := by decide +kernel
theorem dX4_stepOn_34 : decode cX4_stepOn 34 = .ok (.aload_n 0, 1) := by decide +kernel
theorem dX4_stepOn_35 : decode cX4_stepOn 35 = .ok (.iconst 2, 1) := by decide +kernel
theorem dX4_stepOn_36 : decode cX4_stepOn 36 = .ok (.invokevirtual 47, 3) := by decide +kernel
theorem dX4_stepOn_39 : decode cX4_stepOn 39 = .ok (.return_, 1) := by decide +kernel
theorem dX4_stepOn_40 : decode cX4_stepOn 40 = .ok (.aload_n 0, 1) := by decide +kernel
theorem dX4_stepOn_41 : decode cX4_stepOn 41 = .ok (.dup, 1) := by decide +kernel
theorem dX4_stepOn_42 : decode cX4_stepOn 42 = .ok (.getfield 33, 3) := by decide +kernel
theorem dX4_stepOn_45 : decode cX4_stepOn 45 = .ok (.iconst 1, 1) := by decide +kernel
theorem dX4_stepOn_46 : decode cX4_stepOn 46 = .ok (.iadd, 1) := by decide +kernel
theorem dX4_stepOn_47 : decode cX4_stepOn 47 = .ok (.putfield 33, 3) := by decide +kernel
theorem dX4_stepOn_50 : decode cX4_stepOn 50 = .ok (.aload_n 0, 1) := by decide +kernel
theorem dX4_stepOn_51 : decode cX4_stepOn 51 = .ok (.getfield 43, 3) := by decide +kernel
theorem dX4_stepOn_54 : decode cX4_stepOn 54 = .ok (.ifCond .ne 23, 3) := by decide +kernel
theorem dX4_stepOn_57 : decode cX4_stepOn 57 = .ok (.aload_n 0, 1) := by decide +kernel
theorem dX4_stepOn_58 : decode cX4_stepOn 58 = .ok (.aload_n 0, 1) := by decide +kernel
theorem dX4_stepOn_59 : decode cX4_stepOn 59 = .ok (.getfield 39, 3) := by decide +kernel
theorem dX4_stepOn_62 : decode cX4_stepOn 62 = .ok (.l2i, 1) := by decide +kernel
theorem dX4_stepOn_63 : decode cX4_stepOn 63 = .ok (.putfield 36, 3) := by decide +kernel
theorem dX4_stepOn_66 : decode cX4_stepOn 66 = .ok (.aload_n 0, 1) := by decide +kernel
theorem dX4_stepOn_67 : decode cX4_stepOn 67 = .ok (.aload_n 0, 1) := by decide +kernel
theorem dX4_stepOn_68 : decode cX4_stepOn 68 = .ok (.getfield 36, 3) := by decide +kernel
theorem dX4_stepOn_71 : decode cX4_stepOn 71 = .ok (.i2l, 1) := by decide +kernel
theorem dX4_stepOn_72 : decode cX4_stepOn 72 = .ok (.lconst 1, 1) := by decide +kernel
theorem dX4_stepOn_73 : decode cX4_stepOn 73 = .ok (.ladd, 1) := by decide +kernel
theorem dX4_stepOn_74 : decode cX4_stepOn 74 = .ok (.putfield 39, 3) := by decide +kernel
theorem dX4_stepOn_77 : decode cX4_stepOn 77 = .ok (.return_, 1) := by decide +kernel
theorem dX4_readPacket_0 : decode cX4_readPacket 0 = .ok (.aload_n 0, 1) := by decide +kernel
theorem dX4_readPacket_1 : decode cX4_readPacket 1 = .ok (.getfield 19, 3) := by decide +kernel
theorem dX4_readPacket_4 : decode cX4_readPacket 4 = .ok (.aload_n 0, 1) := by decide +kernel
theorem dX4_readPacket_5 : decode cX4_readPacket 5 = .ok (.getfield 23, 3) := by decide +kernel
theorem dX4_readPacket_8 : decode cX4_readPacket 8 = .ok (.lload_n 1, 1) := by decide +kernel
theorem dX4_readPacket_9 : decode cX4_readPacket 9 = .ok (.iload_n 3, 1) := by decide +kernel
theorem dX4_readPacket_10 : decode cX4_readPacket 10 = .ok (.invokevirtual 51, 3) := by decide +kernel
theorem dX4_readPacket_13 : decode cX4_readPacket 13 = .ok (.lreturn, 1) := by decide +kernel
theorem dX4_inStack_0 : decode cX4_inStack 0 = .ok (.lload_n 1, 1) := by decide +kernel
theorem dX4_inStack_1 : decode cX4_inStack 1 = .ok (.ldc2_w 57, 3) := by decide +kernel
theorem dX4_inStack_4 : decode cX4_inStack 4 = .ok (.lcmp, 1) := by decide +kernel
theorem dX4_inStack_5 : decode cX4_inStack 5 = .ok (.ifCond .lt 17, 3) := by decide +kernel
theorem dX4_inStack_8 : decode cX4_inStack 8 = .ok (.lload_n 1, 1) := by decide +kernel
theorem dX4_inStack_9 : decode cX4_inStack 9 = .ok (.ldc 59, 2) := by decide +kernel
theorem dX4_inStack_11 : decode cX4_inStack 11 = .ok (.iload_n 3, 1) := by decide +kernel
theorem dX4_inStack_12 : decode cX4_inStack 12 = .ok (.isub, 1) := by decide +kernel
theorem dX4_inStack_13 : decode cX4_inStack 13 = .ok (.i2l, 1) := by decide +kernel
theorem dX4_inStack_14 : decode cX4_inStack 14 = .ok (.lcmp, 1) := by decide +kernel
theorem dX4_inStack_15 : decode cX4_inStack 15 = .ok (.ifCond .gt 7, 3) := by decide +kernel
theorem dX4_inStack_18 : decode cX4_inStack 18 = .ok (.iconst 1, 1) := by decide +kernel
theorem dX4_inStack_19 : decode cX4_inStack 19 = .ok (.goto 4, 3) := by decide +kernel
theorem dX4_inStack_22 : decode cX4_inStack 22 = .ok (.iconst 0, 1) := by decide +kernel
theorem dX4_inStack_23 : decode cX4_inStack 23 = .ok (.ireturn, 1) := by decide +kernel
theorem dX4_inPacket_0 : decode cX4_inPacket 0 = .ok (.lload_n 1, 1) := by decide +kernel
theorem dX4_inPacket_1 : decode cX4_inPacket 1 = .ok (.ldc2_w 60, 3) := by decide +kernel
theorem dX4_inPacket_4 : decode cX4_inPacket 4 = .ok (.lcmp, 1) := by decide +kernel
theorem dX4_inPacket_5 : decode cX4_inPacket 5 = .ok (.ifCond .lt 29, 3) := by decide +kernel
theorem dX4_inPacket_8 : decode cX4_inPacket 8 = .ok (.lload_n 1, 1) := by decide +kernel
theorem dX4_inPacket_9 : decode cX4_inPacket 9 = .ok (.ldc 62, 2) := by decide +kernel
theorem dX4_inPacket_11 : decode cX4_inPacket 11 = .ok (.aload_n 0, 1) := by decide +kernel
theorem dX4_inPacket_12 : decode cX4_inPacket 12 = .ok (.getfield 19, 3) := by decide +kernel
theorem dX4_inPacket_15 : decode cX4_inPacket 15 = .ok (.aload_n 0, 1) := by decide +kernel
theorem dX4_inPacket_16 : decode cX4_inPacket 16 = .ok (.getfield 23, 3) := by decide +kernel
theorem dX4_inPacket_19 : decode cX4_inPacket 19 = .ok (.invokevirtual 63, 3) := by decide +kernel
theorem dX4_inPacket_22 : decode cX4_inPacket 22 = .ok (.iadd, 1) := by decide +kernel
theorem dX4_inPacket_23 : decode cX4_inPacket 23 = .ok (.iload_n 3, 1) := by decide +kernel
theorem dX4_inPacket_24 : decode cX4_inPacket 24 = .ok (.isub, 1) := by decide +kernel
theorem dX4_inPacket_25 : decode cX4_inPacket 25 = .ok (.i2l, 1) := by decide +kernel
theorem dX4_inPacket_26 : decode cX4_inPacket 26 = .ok (.lcmp, 1) := by decide +kernel
theorem dX4_inPacket_27 : decode cX4_inPacket 27 = .ok (.ifCond .gt 7, 3) := by decide +kernel
theorem dX4_inPacket_30 : decode cX4_inPacket 30 = .ok (.iconst 1, 1) := by decide +kernel
theorem dX4_inPacket_31 : decode cX4_inPacket 31 = .ok (.goto 4, 3) := by decide +kernel
theorem dX4_inPacket_34 : decode cX4_inPacket 34 = .ok (.iconst 0, 1) := by decide +kernel
theorem dX4_inPacket_35 : decode cX4_inPacket 35 = .ok (.ireturn, 1) := by decide +kernel
theorem dX4_byteAt_0 : decode cX4_byteAt 0 = .ok (.aload_n 0, 1) := by decide +kernel
theorem dX4_byteAt_1 : decode cX4_byteAt 1 = .ok (.lload_n 1, 1) := by decide +kernel
theorem dX4_byteAt_2 : decode cX4_byteAt 2 = .ok (.iconst 1, 1) := by decide +kernel
theorem dX4_byteAt_3 : decode cX4_byteAt 3 = .ok (.invokevirtual 67, 3) := by decide +kernel
theorem dX4_byteAt_6 : decode cX4_byteAt 6 = .ok (.ifCond .eq 18, 3) := by decide +kernel
theorem dX4_byteAt_9 : decode cX4_byteAt 9 = .ok (.aload_n 0, 1) := by decide +kernel
theorem dX4_byteAt_10 : decode cX4_byteAt 10 = .ok (.getfield 15, 3) := by decide +kernel
theorem dX4_byteAt_13 : decode cX4_byteAt 13 = .ok (.lload_n 1, 1) := by decide +kernel
theorem dX4_byteAt_14 : decode cX4_byteAt 14 = .ok (.l2i, 1) := by decide +kernel
theorem dX4_byteAt_15 : decode cX4_byteAt 15 = .ok (.ldc 71, 2) := by decide +kernel
theorem dX4_byteAt_17 : decode cX4_byteAt 17 = .ok (.isub, 1) := by decide +kernel
theorem dX4_byteAt_18 : decode cX4_byteAt 18 = .ok (.baload, 1) := by decide +kernel
theorem dX4_byteAt_19 : decode cX4_byteAt 19 = .ok (.sipush 255, 3) := by decide +kernel
theorem dX4_byteAt_22 : decode cX4_byteAt 22 = .ok (.iand, 1) := by decide +kernel
theorem dX4_byteAt_23 : decode cX4_byteAt 23 = .ok (.ireturn, 1) := by decide +kernel
theorem dX4_byteAt_24 : decode cX4_byteAt 24 = .ok (.aload_n 0, 1) := by decide +kernel
theorem dX4_byteAt_25 : decode cX4_byteAt 25 = .ok (.lload_n 1, 1) := by decide +kernel
theorem dX4_byteAt_26 : decode cX4_byteAt 26 = .ok (.iconst 1, 1) := by decide +kernel
theorem dX4_byteAt_27 : decode cX4_byteAt 27 = .ok (.invokevirtual 72, 3) := by decide +kernel
theorem dX4_byteAt_30 : decode cX4_byteAt 30 = .ok (.ifCond .eq 22, 3) := by decide +kernel
theorem dX4_byteAt_33 : decode cX4_byteAt 33 = .ok (.aload_n 0, 1) := by decide +kernel
theorem dX4_byteAt_34 : decode cX4_byteAt 34 = .ok (.getfield 19, 3) := by decide +kernel
theorem dX4_byteAt_37 : decode cX4_byteAt 37 = .ok (.aload_n 0, 1) := by decide +kernel
theorem dX4_byteAt_38 : decode cX4_byteAt 38 = .ok (.getfield 23, 3) := by decide +kernel
theorem dX4_byteAt_41 : decode cX4_byteAt 41 = .ok (.lload_n 1, 1) := by decide +kernel
theorem dX4_byteAt_42 : decode cX4_byteAt 42 = .ok (.ldc2_w 60, 3) := by decide +kernel
theorem dX4_byteAt_45 : decode cX4_byteAt 45 = .ok (.lsub, 1) := by decide +kernel
theorem dX4_byteAt_46 : decode cX4_byteAt 46 = .ok (.invokevirtual 75, 3) := by decide +kernel
theorem dX4_byteAt_49 : decode cX4_byteAt 49 = .ok (.goto 4, 3) := by decide +kernel
theorem dX4_byteAt_52 : decode cX4_byteAt 52 = .ok (.iconst 0, 1) := by decide +kernel
theorem dX4_byteAt_53 : decode cX4_byteAt 53 = .ok (.ireturn, 1) := by decide +kernel
theorem dX4_load8_0 : decode cX4_load8 0 = .ok (.lconst 0, 1) := by decide +kernel
theorem dX4_load8_1 : decode cX4_load8 1 = .ok (.lstore 4, 2) := by decide +kernel
theorem dX4_load8_3 : decode cX4_load8 3 = .ok (.iload_n 3, 1) := by decide +kernel
theorem dX4_load8_4 : decode cX4_load8 4 = .ok (.iconst 1, 1) := by decide +kernel
theorem dX4_load8_5 : decode cX4_load8 5 = .ok (.isub, 1) := by decide +kernel
theorem dX4_load8_6 : decode cX4_load8 6 = .ok (.istore 6, 2) := by decide +kernel
theorem dX4_load8_8 : decode cX4_load8 8 = .ok (.iload 6, 2) := by decide +kernel
theorem dX4_load8_10 : decode cX4_load8 10 = .ok (.ifCond .lt 27, 3) := by decide +kernel
theorem dX4_load8_13 : decode cX4_load8 13 = .ok (.lload 4, 2) := by decide +kernel
theorem dX4_load8_15 : decode cX4_load8 15 = .ok (.bipush 8, 2) := by decide +kernel
theorem dX4_load8_17 : decode cX4_load8 17 = .ok (.lshl, 1) := by decide +kernel
theorem dX4_load8_18 : decode cX4_load8 18 = .ok (.aload_n 0, 1) := by decide +kernel
theorem dX4_load8_19 : decode cX4_load8 19 = .ok (.lload_n 1, 1) := by decide +kernel
theorem dX4_load8_20 : decode cX4_load8 20 = .ok (.iload 6, 2) := by decide +kernel
theorem dX4_load8_22 : decode cX4_load8 22 = .ok (.i2l, 1) := by decide +kernel
theorem dX4_load8_23 : decode cX4_load8 23 = .ok (.ladd, 1) := by decide +kernel
theorem dX4_load8_24 : decode cX4_load8 24 = .ok (.invokevirtual 79, 3) := by decide +kernel
theorem dX4_load8_27 : decode cX4_load8 27 = .ok (.i2l, 1) := by decide +kernel
theorem dX4_load8_28 : decode cX4_load8 28 = .ok (.lor, 1) := by decide +kernel
theorem dX4_load8_29 : decode cX4_load8 29 = .ok (.lstore 4, 2) := by decide +kernel
theorem dX4_load8_31 : decode cX4_load8 31 = .ok (.iinc 6 (-1), 3) := by decide +kernel
theorem dX4_load8_34 : decode cX4_load8 34 = .ok (.goto (-26), 3) := by decide +kernel
theorem dX4_load8_37 : decode cX4_load8 37 = .ok (.lload 4, 2) := by decide +kernel
theorem dX4_load8_39 : decode cX4_load8 39 = .ok (.lreturn, 1) := by decide +kernel
theorem dX4_store_0 : decode cX4_store 0 = .ok (.aload_n 0, 1) := by decide +kernel
theorem dX4_store_1 : decode cX4_store 1 = .ok (.lload_n 1, 1) := by decide +kernel
theorem dX4_store_2 : decode cX4_store 2 = .ok (.iload_n 3, 1) := by decide +kernel
theorem dX4_store_3 : decode cX4_store 3 = .ok (.invokevirtual 67, 3) := by decide +kernel
theorem dX4_store_6 : decode cX4_store 6 = .ok (.ifCond .ne 4, 3) := by decide +kernel
theorem dX4_store_9 : decode cX4_store 9 = .ok (.return_, 1) := by decide +kernel
theorem dX4_store_10 : decode cX4_store 10 = .ok (.iconst 0, 1) := by decide +kernel
theorem dX4_store_11 : decode cX4_store 11 = .ok (.istore 6, 2) := by decide +kernel
theorem dX4_store_13 : decode cX4_store 13 = .ok (.iload 6, 2) := by decide +kernel
theorem dX4_store_15 : decode cX4_store 15 = .ok (.iload_n 3, 1) := by decide +kernel
theorem dX4_store_16 : decode cX4_store 16 = .ok (.if_icmp .ge 32, 3) := by decide +kernel
theorem dX4_store_19 : decode cX4_store 19 = .ok (.aload_n 0, 1) := by decide +kernel
theorem dX4_store_20 : decode cX4_store 20 = .ok (.getfield 15, 3) := by decide +kernel
theorem dX4_store_23 : decode cX4_store 23 = .ok (.lload_n 1, 1) := by decide +kernel
theorem dX4_store_24 : decode cX4_store 24 = .ok (.l2i, 1) := by decide +kernel
theorem dX4_store_25 : decode cX4_store 25 = .ok (.ldc 71, 2) := by decide +kernel
theorem dX4_store_27 : decode cX4_store 27 = .ok (.isub, 1) := by decide +kernel
theorem dX4_store_28 : decode cX4_store 28 = .ok (.iload 6, 2) := by decide +kernel
theorem dX4_store_30 : decode cX4_store 30 = .ok (.iadd, 1) := by decide +kernel
theorem dX4_store_31 : decode cX4_store 31 = .ok (.lload 4, 2) := by decide +kernel
theorem dX4_store_33 : decode cX4_store 33 = .ok (.bipush 8, 2) := by decide +kernel
theorem dX4_store_35 : decode cX4_store 35 = .ok (.iload 6, 2) := by decide +kernel
theorem dX4_store_37 : decode cX4_store 37 = .ok (.imul, 1) := by decide +kernel
theorem dX4_store_38 : decode cX4_store 38 = .ok (.lushr, 1) := by decide +kernel
theorem dX4_store_39 : decode cX4_store 39 = .ok (.l2i, 1) := by decide +kernel
theorem dX4_store_40 : decode cX4_store 40 = .ok (.i2b, 1) := by decide +kernel
theorem dX4_store_41 : decode cX4_store 41 = .ok (.bastore, 1) := by decide +kernel
theorem dX4_store_42 : decode cX4_store 42 = .ok (.iinc 6 1, 3) := by decide +kernel
theorem dX4_store_45 : decode cX4_store 45 = .ok (.goto (-32), 3) := by decide +kernel
theorem dX4_store_48 : decode cX4_store 48 = .ok (.return_, 1) := by decide +kernel
theorem dX5_init_0 : decode cX5_init 0 = .ok (.aload_n 0, 1) := by decide +kernel
theorem dX5_init_1 : decode cX5_init 1 = .ok (.invokespecial 3, 3) := by decide +kernel
theorem dX5_init_4 : decode cX5_init 4 = .ok (.aload_n 0, 1) := by decide +kernel
theorem dX5_init_5 : decode cX5_init 5 = .ok (.ldc 11, 2) := by decide +kernel
theorem dX5_init_7 : decode cX5_init 7 = .ok (.newarray .int, 2) := by decide +kernel
theorem dX5_init_9 : decode cX5_init 9 = .ok (.putfield 12, 3) := by decide +kernel
theorem dX5_init_12 : decode cX5_init 12 = .ok (.return_, 1) := by decide +kernel
theorem dX5_takeTape_0 : decode cX5_takeTape 0 = .ok (.aload_n 1, 1) := by decide +kernel
theorem dX5_takeTape_1 : decode cX5_takeTape 1 = .ok (.getfield 16, 3) := by decide +kernel
theorem dX5_takeTape_4 : decode cX5_takeTape 4 = .ok (.ifCond .eq 12, 3) := by decide +kernel
theorem dX5_takeTape_7 : decode cX5_takeTape 7 = .ok (.aload_n 1, 1) := by decide +kernel
theorem dX5_takeTape_8 : decode cX5_takeTape 8 = .ok (.getfield 16, 3) := by decide +kernel
theorem dX5_takeTape_11 : decode cX5_takeTape 11 = .ok (.iconst 4, 1) := by decide +kernel
theorem dX5_takeTape_12 : decode cX5_takeTape 12 = .ok (.irem, 1) := by decide +kernel
theorem dX5_takeTape_13 : decode cX5_takeTape 13 = .ok (.ifCond .eq 5, 3) := by decide +kernel
theorem dX5_takeTape_16 : decode cX5_takeTape 16 = .ok (.iconst (-1), 1) := by decide +kernel
theorem dX5_takeTape_17 : decode cX5_takeTape 17 = .ok (.ireturn, 1) := by decide +kernel
theorem dX5_takeTape_18 : decode cX5_takeTape 18 = .ok (.aload_n 0, 1) := by decide +kernel
theorem dX5_takeTape_19 : decode cX5_takeTape 19 = .ok (.aload_n 1, 1) := by decide +kernel
theorem dX5_takeTape_20 : decode cX5_takeTape 20 = .ok (.getfield 16, 3) := by decide +kernel
theorem dX5_takeTape_23 : decode cX5_takeTape 23 = .ok (.iconst 4, 1) := by decide +kernel
theorem dX5_takeTape_24 : decode cX5_takeTape 24 = .ok (.idiv, 1) := by decide +kernel
theorem dX5_takeTape_25 : decode cX5_takeTape 25 = .ok (.putfield 22, 3) := by decide +kernel
theorem dX5_takeTape_28 : decode cX5_takeTape 28 = .ok (.iconst 0, 1) := by decide +kernel
theorem dX5_takeTape_29 : decode cX5_takeTape 29 = .ok (.istore_n 2, 1) := by decide +kernel
theorem dX5_takeTape_30 : decode cX5_takeTape 30 = .ok (.iload_n 2, 1) := by decide +kernel
theorem dX5_takeTape_31 : decode cX5_takeTape 31 = .ok (.aload_n 0, 1) := by decide +kernel
theorem dX5_takeTape_32 : decode cX5_takeTape 32 = .ok (.getfield 22, 3) := by decide +kernel
theorem dX5_takeTape_35 : decode cX5_takeTape 35 = .ok (.if_icmp .ge 24, 3) := by decide +kernel
theorem dX5_takeTape_38 : decode cX5_takeTape 38 = .ok (.aload_n 0, 1) := by decide +kernel
theorem dX5_takeTape_39 : decode cX5_takeTape 39 = .ok (.getfield 12, 3) := by decide +kernel
theorem dX5_takeTape_42 : decode cX5_takeTape 42 = .ok (.iload_n 2, 1) := by decide +kernel
theorem dX5_takeTape_43 : decode cX5_takeTape 43 = .ok (.aload_n 1, 1) := by decide +kernel
theorem dX5_takeTape_44 : decode cX5_takeTape 44 = .ok (.iconst 4, 1) := by decide +kernel
theorem dX5_takeTape_45 : decode cX5_takeTape 45 = .ok (.iload_n 2, 1) := by decide +kernel
theorem dX5_takeTape_46 : decode cX5_takeTape 46 = .ok (.imul, 1) := by decide +kernel
theorem dX5_takeTape_47 : decode cX5_takeTape 47 = .ok (.iconst 4, 1) := by decide +kernel
theorem dX5_takeTape_48 : decode cX5_takeTape 48 = .ok (.invokevirtual 23, 3) := by decide +kernel
theorem dX5_takeTape_51 : decode cX5_takeTape 51 = .ok (.l2i, 1) := by decide +kernel
theorem dX5_takeTape_52 : decode cX5_takeTape 52 = .ok (.iastore, 1) := by decide +kernel
theorem dX5_takeTape_53 : decode cX5_takeTape 53 = .ok (.iinc 2 1, 3) := by decide +kernel
theorem dX5_takeTape_56 : decode cX5_takeTape 56 = .ok (.goto (-26), 3) := by decide +kernel
theorem dX5_takeTape_59 : decode cX5_takeTape 59 = .ok (.aload_n 0, 1) := by decide +kernel
theorem dX5_takeTape_60 : decode cX5_takeTape 60 = .ok (.getfield 22, 3) := by decide +kernel
theorem dX5_takeTape_63 : decode cX5_takeTape 63 = .ok (.ireturn, 1) := by decide +kernel
theorem dX5_at_0 : decode cX5_at 0 = .ok (.iload_n 1, 1) := by decide +kernel
theorem dX5_at_1 : decode cX5_at 1 = .ok (.ifCond .lt 11, 3) := by decide +kernel
theorem dX5_at_4 : decode cX5_at 4 = .ok (.iload_n 1, 1) := by decide +kernel
theorem dX5_at_5 : decode cX5_at 5 = .ok (.aload_n 0, 1) := by decide +kernel
theorem dX5_at_6 : decode cX5_at 6 = .ok (.getfield 22, 3) := by decide +kernel
theorem dX5_at_9 : decode cX5_at 9 = .ok (.if_icmp .lt 7, 3) := by decide +kernel
theorem dX5_at_12 : decode cX5_at 12 = .ok (.iconst 0, 1) := by decide +kernel
theorem dX5_at_13 : decode cX5_at 13 = .ok (.goto 9, 3) := by decide +kernel
theorem dX5_at_16 : decode cX5_at 16 = .ok (.aload_n 0, 1) := by decide +kernel
theorem dX5_at_17 : decode cX5_at 17 = .ok (.getfield 12, 3) := by decide +kernel
theorem dX5_at_20 : decode cX5_at 20 = .ok (.iload_n 1, 1) := by decide +kernel
theorem dX5_at_21 : decode cX5_at 21 = .ok (.iaload, 1) := by decide +kernel
theorem dX5_at_22 : decode cX5_at 22 = .ok (.ireturn, 1) := by decide +kernel
theorem dX5_perform_0 : decode cX5_perform 0 = .ok (.aload_n 1, 1) := by decide +kernel
theorem dX5_perform_1 : decode cX5_perform 1 = .ok (.bipush 32, 2) := by decide +kernel
theorem dX5_perform_3 : decode cX5_perform 3 = .ok (.iload_n 2, 1) := by decide +kernel
theorem dX5_perform_4 : decode cX5_perform 4 = .ok (.invokevirtual 27, 3) := by decide +kernel
theorem dX5_perform_7 : decode cX5_perform 7 = .ok (.aload_n 1, 1) := by decide +kernel
theorem dX5_perform_8 : decode cX5_perform 8 = .ok (.bipush 8, 2) := by decide +kernel
theorem dX5_perform_10 : decode cX5_perform 10 = .ok (.ldc2_w 33, 3) := by decide +kernel
theorem dX5_perform_13 : decode cX5_perform 13 = .ok (.invokevirtual 35, 3) := by decide +kernel
theorem dX5_perform_16 : decode cX5_perform 16 = .ok (.aload_n 1, 1) := by decide +kernel
theorem dX5_perform_17 : decode cX5_perform 17 = .ok (.bipush 9, 2) := by decide +kernel
theorem dX5_perform_19 : decode cX5_perform 19 = .ok (.iload_n 3, 1) := by decide +kernel
theorem dX5_perform_20 : decode cX5_perform 20 = .ok (.i2l, 1) := by decide +kernel
theorem dX5_perform_21 : decode cX5_perform 21 = .ok (.invokevirtual 35, 3) := by decide +kernel
theorem dX5_perform_24 : decode cX5_perform 24 = .ok (.aload_n 1, 1) := by decide +kernel
theorem dX5_perform_25 : decode cX5_perform 25 = .ok (.bipush 11, 2) := by decide +kernel
theorem dX5_perform_27 : decode cX5_perform 27 = .ok (.iload_n 3, 1) := by decide +kernel
theorem dX5_perform_28 : decode cX5_perform 28 = .ok (.i2l, 1) := by decide +kernel
theorem dX5_perform_29 : decode cX5_perform 29 = .ok (.invokevirtual 35, 3) := by decide +kernel
theorem dX5_perform_32 : decode cX5_perform 32 = .ok (.aload_n 1, 1) := by decide +kernel
theorem dX5_perform_33 : decode cX5_perform 33 = .ok (.bipush 22, 2) := by decide +kernel
theorem dX5_perform_35 : decode cX5_perform 35 = .ok (.ldc2_w 39, 3) := by decide +kernel
theorem dX5_perform_38 : decode cX5_perform 38 = .ok (.invokevirtual 35, 3) := by decide +kernel
theorem dX5_perform_41 : decode cX5_perform 41 = .ok (.iconst 0, 1) := by decide +kernel
theorem dX5_perform_42 : decode cX5_perform 42 = .ok (.istore 4, 2) := by decide +kernel
theorem dX5_perform_44 : decode cX5_perform 44 = .ok (.aload_n 1, 1) := by decide +kernel
theorem dX5_perform_45 : decode cX5_perform 45 = .ok (.getfield 41, 3) := by decide +kernel
theorem dX5_perform_48 : decode cX5_perform 48 = .ok (.ifCond .ne 45, 3) := by decide +kernel
theorem dX5_perform_51 : decode cX5_perform 51 = .ok (.iload 4, 2) := by decide +kernel
theorem dX5_perform_53 : decode cX5_perform 53 = .ok (.ldc 45, 2) := by decide +kernel
theorem dX5_perform_55 : decode cX5_perform 55 = .ok (.if_icmp .gt 38, 3) := by decide +kernel
theorem dX5_perform_58 : decode cX5_perform 58 = .ok (.iload 4, 2) := by decide +kernel
theorem dX5_perform_60 : decode cX5_perform 60 = .ok (.ldc 45, 2) := by decide +kernel
theorem dX5_perform_62 : decode cX5_perform 62 = .ok (.if_icmp .ne 12, 3) := by decide +kernel
theorem dX5_perform_65 : decode cX5_perform 65 = .ok (.aload_n 1, 1) := by decide +kernel
theorem dX5_perform_66 : decode cX5_perform 66 = .ok (.bipush 9, 2) := by decide +kernel
theorem dX5_perform_68 : decode cX5_perform 68 = .ok (.invokevirtual 46, 3) := by decide +kernel
theorem dX5_perform_71 : decode cX5_perform 71 = .ok (.goto 16, 3) := by decide +kernel
theorem dX5_perform_74 : decode cX5_perform 74 = .ok (.aload_n 0, 1) := by decide +kernel
theorem dX5_perform_75 : decode cX5_perform 75 = .ok (.aload_n 1, 1) := by decide +kernel
theorem dX5_perform_76 : decode cX5_perform 76 = .ok (.invokevirtual 50, 3) := by decide +kernel
theorem dX5_perform_79 : decode cX5_perform 79 = .ok (.aload_n 1, 1) := by decide +kernel
theorem dX5_perform_80 : decode cX5_perform 80 = .ok (.aload_n 0, 1) := by decide +kernel
theorem dX5_perform_81 : decode cX5_perform 81 = .ok (.getfield 22, 3) := by decide +kernel
theorem dX5_perform_84 : decode cX5_perform 84 = .ok (.invokevirtual 54, 3) := by decide +kernel
theorem dX5_perform_87 : decode cX5_perform 87 = .ok (.iinc 4 1, 3) := by decide +kernel
theorem dX5_perform_90 : decode cX5_perform 90 = .ok (.goto (-46), 3) := by decide +kernel
theorem dX5_perform_93 : decode cX5_perform 93 = .ok (.aload_n 1, 1) := by decide +kernel
theorem dX5_perform_94 : decode cX5_perform 94 = .ok (.getfield 57, 3) := by decide +kernel
theorem dX5_perform_97 : decode cX5_perform 97 = .ok (.ifCond .ne 12, 3) := by decide +kernel
theorem dX5_perform_100 : decode cX5_perform 100 = .ok (.aload_n 1, 1) := by decide +kernel
theorem dX5_perform_101 : decode cX5_perform 101 = .ok (.bipush 10, 2) := by decide +kernel
theorem dX5_perform_103 : decode cX5_perform 103 = .ok (.invokevirtual 60, 3) := by decide +kernel
theorem dX5_perform_106 : decode cX5_perform 106 = .ok (.goto 4, 3) := by decide +kernel
theorem dX5_perform_109 : decode cX5_perform 109 = .ok (.lconst 0, 1) := by decide +kernel
theorem dX5_perform_110 : decode cX5_perform 110 = .ok (.lreturn, 1) := by decide +kernel
theorem dX5_highPart_0 : decode cX5_highPart 0 = .ok (.iload_n 0, 1) := by decide +kernel
theorem dX5_highPart_1 : decode cX5_highPart 1 = .ok (.bipush 25, 2) := by decide +kernel
theorem dX5_highPart_3 : decode cX5_highPart 3 = .ok (.iushr, 1) := by decide +kernel
theorem dX5_highPart_4 : decode cX5_highPart 4 = .ok (.ireturn, 1) := by decide +kernel
theorem dX5_middlePart_0 : decode cX5_middlePart 0 = .ok (.iload_n 0, 1) := by decide +kernel
theorem dX5_middlePart_1 : decode cX5_middlePart 1 = .ok (.bipush 12, 2) := by decide +kernel
theorem dX5_middlePart_3 : decode cX5_middlePart 3 = .ok (.ishr, 1) := by decide +kernel
theorem dX5_middlePart_4 : decode cX5_middlePart 4 = .ok (.bipush 7, 2) := by decide +kernel
theorem dX5_middlePart_6 : decode cX5_middlePart 6 = .ok (.iand, 1) := by decide +kernel
theorem dX5_middlePart_7 : decode cX5_middlePart 7 = .ok (.ireturn, 1) := by decide +kernel
theorem dX5_exists_0 : decode cX5_exists 0 = .ok (.iload_n 0, 1) := by decide +kernel
theorem dX5_exists_1 : decode cX5_exists 1 = .ok (.invokestatic 64, 3) := by decide +kernel
theorem dX5_exists_4 : decode cX5_exists 4 = .ok (.istore_n 1, 1) := by decide +kernel
theorem dX5_exists_5 : decode cX5_exists 5 = .ok (.iload_n 0, 1) := by decide +kernel
theorem dX5_exists_6 : decode cX5_exists 6 = .ok (.invokestatic 68, 3) := by decide +kernel
theorem dX5_exists_9 : decode cX5_exists 9 = .ok (.istore_n 2, 1) := by decide +kernel
theorem dX5_exists_10 : decode cX5_exists 10 = .ok (.iload_n 0, 1) := by decide +kernel
theorem dX5_exists_11 : decode cX5_exists 11 = .ok (.bipush 127, 2) := by decide +kernel
theorem dX5_exists_13 : decode cX5_exists 13 = .ok (.iand, 1) := by decide +kernel
theorem dX5_exists_14 : decode cX5_exists 14 = .ok (.lookupswitch 323 #[(3, 118), (19, 141), (27, 230), (35, 130), (51, 185), (55, 90), (59, 264), (99, 102), (103, 92), (111, 90)], 90) := by decide +kernel
theorem dX5_exists_104 : decode cX5_exists 104 = .ok (.iconst 1, 1) := by decide +kernel
theorem dX5_exists_105 : decode cX5_exists 105 = .ok (.ireturn, 1) := by decide +kernel
theorem dX5_exists_106 : decode cX5_exists 106 = .ok (.iload_n 1, 1) := by decide +kernel
theorem dX5_exists_107 : decode cX5_exists 107 = .ok (.ifCond .ne 7, 3) := by decide +kernel
theorem dX5_exists_110 : decode cX5_exists 110 = .ok (.iconst 1, 1) := by decide +kernel
theorem dX5_exists_111 : decode cX5_exists 111 = .ok (.goto 4, 3) := by decide +kernel
theorem dX5_exists_114 : decode cX5_exists 114 = .ok (.iconst 0, 1) := by decide +kernel
theorem dX5_exists_115 : decode cX5_exists 115 = .ok (.ireturn, 1) := by decide +kernel
theorem dX5_exists_116 : decode cX5_exists 116 = .ok (.iload_n 1, 1) := by decide +kernel
theorem dX5_exists_117 : decode cX5_exists 117 = .ok (.iconst 2, 1) := by decide +kernel
theorem dX5_exists_118 : decode cX5_exists 118 = .ok (.if_icmp .eq 12, 3) := by decide +kernel
theorem dX5_exists_121 : decode cX5_exists 121 = .ok (.iload_n 1, 1) := by decide +kernel
theorem dX5_exists_122 : decode cX5_exists 122 = .ok (.iconst 3, 1) := by decide +kernel
theorem dX5_exists_123 : decode cX5_exists 123 = .ok (.if_icmp .eq 7, 3) := by decide +kernel
theorem dX5_exists_126 : decode cX5_exists 126 = .ok (.iconst 1, 1) := by decide +kernel
theorem dX5_exists_127 : decode cX5_exists 127 = .ok (.goto 4, 3) := by decide +kernel
theorem dX5_exists_130 : decode cX5_exists 130 = .ok (.iconst 0, 1) := by decide +kernel
theorem dX5_exists_131 : decode cX5_exists 131 = .ok (.ireturn, 1) := by decide +kernel
theorem dX5_exists_132 : decode cX5_exists 132 = .ok (.iload_n 1, 1) := by decide +kernel
theorem dX5_exists_133 : decode cX5_exists 133 = .ok (.bipush 7, 2) := by decide +kernel
theorem dX5_exists_135 : decode cX5_exists 135 = .ok (.if_icmp .eq 7, 3) := by decide +kernel
theorem dX5_exists_138 : decode cX5_exists 138 = .ok (.iconst 1, 1) := by decide +kernel
theorem dX5_exists_139 : decode cX5_exists 139 = .ok (.goto 4, 3) := by decide +kernel
theorem dX5_exists_142 : decode cX5_exists 142 = .ok (.iconst 0, 1) := by decide +kernel
theorem dX5_exists_143 : decode cX5_exists 143 = .ok (.ireturn, 1) := by decide +kernel
theorem dX5_exists_144 : decode cX5_exists 144 = .ok (.iload_n 1, 1) := by decide +kernel
theorem dX5_exists_145 : decode cX5_exists 145 = .ok (.iconst 3, 1) := by decide +kernel
theorem dX5_exists_146 : decode cX5_exists 146 = .ok (.if_icmp .gt 7, 3) := by decide +kernel
theorem dX5_exists_149 : decode cX5_exists 149 = .ok (.iconst 1, 1) := by decide +kernel
theorem dX5_exists_150 : decode cX5_exists 150 = .ok (.goto 4, 3) := by decide +kernel
theorem dX5_exists_153 : decode cX5_exists 153 = .ok (.iconst 0, 1) := by decide +kernel
theorem dX5_exists_154 : decode cX5_exists 154 = .ok (.ireturn, 1) := by decide +kernel
theorem dX5_exists_155 : decode cX5_exists 155 = .ok (.iload_n 1, 1) := by decide +kernel
theorem dX5_exists_156 : decode cX5_exists 156 = .ok (.iconst 1, 1) := by decide +kernel
theorem dX5_exists_157 : decode cX5_exists 157 = .ok (.if_icmp .ne 17, 3) := by decide +kernel
theorem dX5_exists_160 : decode cX5_exists 160 = .ok (.iload_n 2, 1) := by decide +kernel
theorem dX5_exists_161 : decode cX5_exists 161 = .ok (.iconst 1, 1) := by decide +kernel
theorem dX5_exists_162 : decode cX5_exists 162 = .ok (.ishr, 1) := by decide +kernel
theorem dX5_exists_163 : decode cX5_exists 163 = .ok (.ifCond .ne 7, 3) := by decide +kernel
theorem dX5_exists_166 : decode cX5_exists 166 = .ok (.iconst 1, 1) := by decide +kernel
theorem dX5_exists_167 : decode cX5_exists 167 = .ok (.goto 31, 3) := by decide +kernel
theorem dX5_exists_170 : decode cX5_exists 170 = .ok (.iconst 0, 1) := by decide +kernel
theorem dX5_exists_171 : decode cX5_exists 171 = .ok (.goto 27, 3) := by decide +kernel
theorem dX5_exists_174 : decode cX5_exists 174 = .ok (.iload_n 1, 1) := by decide +kernel
theorem dX5_exists_175 : decode cX5_exists 175 = .ok (.iconst 5, 1) := by decide +kernel
theorem dX5_exists_176 : decode cX5_exists 176 = .ok (.if_icmp .ne 17, 3) := by decide +kernel
theorem dX5_exists_179 : decode cX5_exists 179 = .ok (.iload_n 2, 1) := by decide +kernel
theorem dX5_exists_180 : decode cX5_exists 180 = .ok (.iconst 1, 1) := by decide +kernel
theorem dX5_exists_181 : decode cX5_exists 181 = .ok (.ishr, 1) := by decide +kernel
theorem dX5_exists_182 : decode cX5_exists 182 = .ok (.ifCond .eq 11, 3) := by decide +kernel
theorem dX5_exists_185 : decode cX5_exists 185 = .ok (.iload_n 2, 1) := by decide +kernel
theorem dX5_exists_186 : decode cX5_exists 186 = .ok (.iconst 1, 1) := by decide +kernel
theorem dX5_exists_187 : decode cX5_exists 187 = .ok (.ishr, 1) := by decide +kernel
theorem dX5_exists_188 : decode cX5_exists 188 = .ok (.bipush 16, 2) := by decide +kernel
theorem dX5_exists_190 : decode cX5_exists 190 = .ok (.if_icmp .ne 7, 3) := by decide +kernel
theorem dX5_exists_193 : decode cX5_exists 193 = .ok (.iconst 1, 1) := by decide +kernel
theorem dX5_exists_194 : decode cX5_exists 194 = .ok (.goto 4, 3) := by decide +kernel
theorem dX5_exists_197 : decode cX5_exists 197 = .ok (.iconst 0, 1) := by decide +kernel
theorem dX5_exists_198 : decode cX5_exists 198 = .ok (.ireturn, 1) := by decide +kernel
theorem dX5_exists_199 : decode cX5_exists 199 = .ok (.iload_n 2, 1) := by decide +kernel
theorem dX5_exists_200 : decode cX5_exists 200 = .ok (.ifCond .eq 38, 3) := by decide +kernel
theorem dX5_exists_203 : decode cX5_exists 203 = .ok (.iload_n 2, 1) := by decide +kernel
theorem dX5_exists_204 : decode cX5_exists 204 = .ok (.iconst 1, 1) := by decide +kernel
theorem dX5_exists_205 : decode cX5_exists 205 = .ok (.if_icmp .ne 18, 3) := by decide +kernel
theorem dX5_exists_208 : decode cX5_exists 208 = .ok (.iload_n 1, 1) := by decide +kernel
theorem dX5_exists_209 : decode cX5_exists 209 = .ok (.ifCond .eq 29, 3) := by decide +kernel
theorem dX5_exists_212 : decode cX5_exists 212 = .ok (.iload_n 1, 1) := by decide +kernel
theorem dX5_exists_213 : decode cX5_exists 213 = .ok (.iconst 5, 1) := by decide +kernel
theorem dX5_exists_214 : decode cX5_exists 214 = .ok (.if_icmp .eq 24, 3) := by decide +kernel
theorem dX5_exists_217 : decode cX5_exists 217 = .ok (.iload_n 1, 1) := by decide +kernel
theorem dX5_exists_218 : decode cX5_exists 218 = .ok (.bipush 7, 2) := by decide +kernel
theorem dX5_exists_220 : decode cX5_exists 220 = .ok (.if_icmp .eq 18, 3) := by decide +kernel
theorem dX5_exists_223 : decode cX5_exists 223 = .ok (.iload_n 2, 1) := by decide +kernel
theorem dX5_exists_224 : decode cX5_exists 224 = .ok (.bipush 32, 2) := by decide +kernel
theorem dX5_exists_226 : decode cX5_exists 226 = .ok (.if_icmp .ne 16, 3) := by decide +kernel
theorem dX5_exists_229 : decode cX5_exists 229 = .ok (.iload_n 1, 1) := by decide +kernel
theorem dX5_exists_230 : decode cX5_exists 230 = .ok (.ifCond .eq 8, 3) := by decide +kernel
theorem dX5_exists_233 : decode cX5_exists 233 = .ok (.iload_n 1, 1) := by decide +kernel
theorem dX5_exists_234 : decode cX5_exists 234 = .ok (.iconst 5, 1) := by decide +kernel
theorem dX5_exists_235 : decode cX5_exists 235 = .ok (.if_icmp .ne 7, 3) := by decide +kernel
theorem dX5_exists_238 : decode cX5_exists 238 = .ok (.iconst 1, 1) := by decide +kernel
theorem dX5_exists_239 : decode cX5_exists 239 = .ok (.goto 4, 3) := by decide +kernel
theorem dX5_exists_242 : decode cX5_exists 242 = .ok (.iconst 0, 1) := by decide +kernel
theorem dX5_exists_243 : decode cX5_exists 243 = .ok (.ireturn, 1) := by decide +kernel
theorem dX5_exists_244 : decode cX5_exists 244 = .ok (.iload_n 1, 1) := by decide +kernel
theorem dX5_exists_245 : decode cX5_exists 245 = .ok (.ifCond .eq 27, 3) := by decide +kernel
theorem dX5_exists_248 : decode cX5_exists 248 = .ok (.iload_n 1, 1) := by decide +kernel
theorem dX5_exists_249 : decode cX5_exists 249 = .ok (.iconst 1, 1) := by decide +kernel
theorem dX5_exists_250 : decode cX5_exists 250 = .ok (.if_icmp .ne 7, 3) := by decide +kernel
theorem dX5_exists_253 : decode cX5_exists 253 = .ok (.iload_n 2, 1) := by decide +kernel
theorem dX5_exists_254 : decode cX5_exists 254 = .ok (.ifCond .eq 18, 3) := by decide +kernel
theorem dX5_exists_257 : decode cX5_exists 257 = .ok (.iload_n 1, 1) := by decide +kernel
theorem dX5_exists_258 : decode cX5_exists 258 = .ok (.iconst 5, 1) := by decide +kernel
theorem dX5_exists_259 : decode cX5_exists 259 = .ok (.if_icmp .ne 17, 3) := by decide +kernel
theorem dX5_exists_262 : decode cX5_exists 262 = .ok (.iload_n 2, 1) := by decide +kernel
theorem dX5_exists_263 : decode cX5_exists 263 = .ok (.ifCond .eq 9, 3) := by decide +kernel
theorem dX5_exists_266 : decode cX5_exists 266 = .ok (.iload_n 2, 1) := by decide +kernel
theorem dX5_exists_267 : decode cX5_exists 267 = .ok (.bipush 32, 2) := by decide +kernel
theorem dX5_exists_269 : decode cX5_exists 269 = .ok (.if_icmp .ne 7, 3) := by decide +kernel
theorem dX5_exists_272 : decode cX5_exists 272 = .ok (.iconst 1, 1) := by decide +kernel
theorem dX5_exists_273 : decode cX5_exists 273 = .ok (.goto 4, 3) := by decide +kernel
theorem dX5_exists_276 : decode cX5_exists 276 = .ok (.iconst 0, 1) := by decide +kernel
theorem dX5_exists_277 : decode cX5_exists 277 = .ok (.ireturn, 1) := by decide +kernel
theorem dX5_exists_278 : decode cX5_exists 278 = .ok (.iload_n 2, 1) := by decide +kernel
theorem dX5_exists_279 : decode cX5_exists 279 = .ok (.ifCond .ne 17, 3) := by decide +kernel
theorem dX5_exists_282 : decode cX5_exists 282 = .ok (.iload_n 1, 1) := by decide +kernel
theorem dX5_exists_283 : decode cX5_exists 283 = .ok (.ifCond .eq 48, 3) := by decide +kernel
theorem dX5_exists_286 : decode cX5_exists 286 = .ok (.iload_n 1, 1) := by decide +kernel
theorem dX5_exists_287 : decode cX5_exists 287 = .ok (.iconst 1, 1) := by decide +kernel
theorem dX5_exists_288 : decode cX5_exists 288 = .ok (.if_icmp .eq 43, 3) := by decide +kernel
theorem dX5_exists_291 : decode cX5_exists 291 = .ok (.iload_n 1, 1) := by decide +kernel
theorem dX5_exists_292 : decode cX5_exists 292 = .ok (.iconst 5, 1) := by decide +kernel
theorem dX5_exists_293 : decode cX5_exists 293 = .ok (.if_icmp .eq 38, 3) := by decide +kernel
theorem dX5_exists_296 : decode cX5_exists 296 = .ok (.iload_n 2, 1) := by decide +kernel
theorem dX5_exists_297 : decode cX5_exists 297 = .ok (.iconst 1, 1) := by decide +kernel
theorem dX5_exists_298 : decode cX5_exists 298 = .ok (.if_icmp .ne 18, 3) := by decide +kernel
theorem dX5_exists_301 : decode cX5_exists 301 = .ok (.iload_n 1, 1) := by decide +kernel
theorem dX5_exists_302 : decode cX5_exists 302 = .ok (.ifCond .eq 29, 3) := by decide +kernel
theorem dX5_exists_305 : decode cX5_exists 305 = .ok (.iload_n 1, 1) := by decide +kernel
theorem dX5_exists_306 : decode cX5_exists 306 = .ok (.iconst 5, 1) := by decide +kernel
theorem dX5_exists_307 : decode cX5_exists 307 = .ok (.if_icmp .eq 24, 3) := by decide +kernel
theorem dX5_exists_310 : decode cX5_exists 310 = .ok (.iload_n 1, 1) := by decide +kernel
theorem dX5_exists_311 : decode cX5_exists 311 = .ok (.bipush 7, 2) := by decide +kernel
theorem dX5_exists_313 : decode cX5_exists 313 = .ok (.if_icmp .eq 18, 3) := by decide +kernel
theorem dX5_exists_316 : decode cX5_exists 316 = .ok (.iload_n 2, 1) := by decide +kernel
theorem dX5_exists_317 : decode cX5_exists 317 = .ok (.bipush 32, 2) := by decide +kernel
theorem dX5_exists_319 : decode cX5_exists 319 = .ok (.if_icmp .ne 16, 3) := by decide +kernel
theorem dX5_exists_322 : decode cX5_exists 322 = .ok (.iload_n 1, 1) := by decide +kernel
theorem dX5_exists_323 : decode cX5_exists 323 = .ok (.ifCond .eq 8, 3) := by decide +kernel
theorem dX5_exists_326 : decode cX5_exists 326 = .ok (.iload_n 1, 1) := by decide +kernel
theorem dX5_exists_327 : decode cX5_exists 327 = .ok (.iconst 5, 1) := by decide +kernel
theorem dX5_exists_328 : decode cX5_exists 328 = .ok (.if_icmp .ne 7, 3) := by decide +kernel
theorem dX5_exists_331 : decode cX5_exists 331 = .ok (.iconst 1, 1) := by decide +kernel
theorem dX5_exists_332 : decode cX5_exists 332 = .ok (.goto 4, 3) := by decide +kernel
theorem dX5_exists_335 : decode cX5_exists 335 = .ok (.iconst 0, 1) := by decide +kernel
theorem dX5_exists_336 : decode cX5_exists 336 = .ok (.ireturn, 1) := by decide +kernel
theorem dX5_exists_337 : decode cX5_exists 337 = .ok (.iload_n 0, 1) := by decide +kernel
theorem dX5_exists_338 : decode cX5_exists 338 = .ok (.bipush 115, 2) := by decide +kernel
theorem dX5_exists_340 : decode cX5_exists 340 = .ok (.if_icmp .ne 7, 3) := by decide +kernel
theorem dX5_exists_343 : decode cX5_exists 343 = .ok (.iconst 1, 1) := by decide +kernel
theorem dX5_exists_344 : decode cX5_exists 344 = .ok (.goto 4, 3) := by decide +kernel
theorem dX5_exists_347 : decode cX5_exists 347 = .ok (.iconst 0, 1) := by decide +kernel
theorem dX5_exists_348 : decode cX5_exists 348 = .ok (.ireturn, 1) := by decide +kernel
theorem dX5_step_0 : decode cX5_step 0 = .ok (.aload_n 0, 1) := by decide +kernel
theorem dX5_step_1 : decode cX5_step 1 = .ok (.aload_n 1, 1) := by decide +kernel
theorem dX5_step_2 : decode cX5_step 2 = .ok (.getfield 71, 3) := by decide +kernel
theorem dX5_step_5 : decode cX5_step 5 = .ok (.invokevirtual 74, 3) := by decide +kernel
theorem dX5_step_8 : decode cX5_step 8 = .ok (.istore_n 2, 1) := by decide +kernel
theorem dX5_step_9 : decode cX5_step 9 = .ok (.iload_n 2, 1) := by decide +kernel
theorem dX5_step_10 : decode cX5_step 10 = .ok (.invokestatic 77, 3) := by decide +kernel
theorem dX5_step_13 : decode cX5_step 13 = .ok (.ifCond .ne 9, 3) := by decide +kernel
theorem dX5_step_16 : decode cX5_step 16 = .ok (.aload_n 1, 1) := by decide +kernel
theorem dX5_step_17 : decode cX5_step 17 = .ok (.iconst 1, 1) := by decide +kernel
theorem dX5_step_18 : decode cX5_step 18 = .ok (.invokevirtual 46, 3) := by decide +kernel
theorem dX5_step_21 : decode cX5_step 21 = .ok (.return_, 1) := by decide +kernel
theorem dX5_step_22 : decode cX5_step 22 = .ok (.iload_n 2, 1) := by decide +kernel
theorem dX5_step_23 : decode cX5_step 23 = .ok (.bipush 7, 2) := by decide +kernel
theorem dX5_step_25 : decode cX5_step 25 = .ok (.ishr, 1) := by decide +kernel
theorem dX5_step_26 : decode cX5_step 26 = .ok (.bipush 31, 2) := by decide +kernel
theorem dX5_step_28 : decode cX5_step 28 = .ok (.iand, 1) := by decide +kernel
theorem dX5_step_29 : decode cX5_step 29 = .ok (.istore_n 3, 1) := by decide +kernel
theorem dX5_step_30 : decode cX5_step 30 = .ok (.aload_n 1, 1) := by decide +kernel
theorem dX5_step_31 : decode cX5_step 31 = .ok (.iload_n 2, 1) := by decide +kernel
theorem dX5_step_32 : decode cX5_step 32 = .ok (.bipush 15, 2) := by decide +kernel
theorem dX5_step_34 : decode cX5_step 34 = .ok (.ishr, 1) := by decide +kernel
theorem dX5_step_35 : decode cX5_step 35 = .ok (.bipush 31, 2) := by decide +kernel
theorem dX5_step_37 : decode cX5_step 37 = .ok (.iand, 1) := by decide +kernel
theorem dX5_step_38 : decode cX5_step 38 = .ok (.invokevirtual 60, 3) := by decide +kernel
theorem dX5_step_41 : decode cX5_step 41 = .ok (.lstore 4, 2) := by decide +kernel
theorem dX5_step_43 : decode cX5_step 43 = .ok (.aload_n 1, 1) := by decide +kernel
theorem dX5_step_44 : decode cX5_step 44 = .ok (.iload_n 2, 1) := by decide +kernel
theorem dX5_step_45 : decode cX5_step 45 = .ok (.bipush 20, 2) := by decide +kernel
theorem dX5_step_47 : decode cX5_step 47 = .ok (.ishr, 1) := by decide +kernel
theorem dX5_step_48 : decode cX5_step 48 = .ok (.bipush 31, 2) := by decide +kernel
theorem dX5_step_50 : decode cX5_step 50 = .ok (.iand, 1) := by decide +kernel
theorem dX5_step_51 : decode cX5_step 51 = .ok (.invokevirtual 60, 3) := by decide +kernel
theorem dX5_step_54 : decode cX5_step 54 = .ok (.lstore 6, 2) := by decide +kernel
theorem dX5_step_56 : decode cX5_step 56 = .ok (.iload_n 2, 1) := by decide +kernel
theorem dX5_step_57 : decode cX5_step 57 = .ok (.bipush 20, 2) := by decide +kernel
theorem dX5_step_59 : decode cX5_step 59 = .ok (.ishr, 1) := by decide +kernel
theorem dX5_step_60 : decode cX5_step 60 = .ok (.i2l, 1) := by decide +kernel
theorem dX5_step_61 : decode cX5_step 61 = .ok (.lstore 8, 2) := by decide +kernel
theorem dX5_step_63 : decode cX5_step 63 = .ok (.iload_n 2, 1) := by decide +kernel
theorem dX5_step_64 : decode cX5_step 64 = .ok (.bipush 127, 2) := by decide +kernel
theorem dX5_step_66 : decode cX5_step 66 = .ok (.iand, 1) := by decide +kernel
theorem dX5_step_67 : decode cX5_step 67 = .ok (.lookupswitch 309 #[(3, 179), (19, 217), (27, 263), (35, 196), (51, 240), (55, 89), (59, 286), (99, 143), (103, 126), (111, 103)], 89) := by decide +kernel
theorem dX5_step_156 : decode cX5_step 156 = .ok (.aload_n 1, 1) := by decide +kernel
theorem dX5_step_157 : decode cX5_step 157 = .ok (.iload_n 3, 1) := by decide +kernel
theorem dX5_step_158 : decode cX5_step 158 = .ok (.iload_n 2, 1) := by decide +kernel
theorem dX5_step_159 : decode cX5_step 159 = .ok (.sipush (-4096), 3) := by decide +kernel
theorem dX5_step_162 : decode cX5_step 162 = .ok (.iand, 1) := by decide +kernel
theorem dX5_step_163 : decode cX5_step 163 = .ok (.i2l, 1) := by decide +kernel
theorem dX5_step_164 : decode cX5_step 164 = .ok (.invokestatic 81, 3) := by decide +kernel
theorem dX5_step_167 : decode cX5_step 167 = .ok (.goto 214, 3) := by decide +kernel
theorem dX5_step_170 : decode cX5_step 170 = .ok (.aload_n 1, 1) := by decide +kernel
theorem dX5_step_171 : decode cX5_step 171 = .ok (.iload_n 3, 1) := by decide +kernel
theorem dX5_step_172 : decode cX5_step 172 = .ok (.ldc2_w 85, 3) := by decide +kernel
theorem dX5_step_175 : decode cX5_step 175 = .ok (.aload_n 1, 1) := by decide +kernel
theorem dX5_step_176 : decode cX5_step 176 = .ok (.getfield 71, 3) := by decide +kernel
theorem dX5_step_179 : decode cX5_step 179 = .ok (.i2l, 1) := by decide +kernel
theorem dX5_step_180 : decode cX5_step 180 = .ok (.lmul, 1) := by decide +kernel
theorem dX5_step_181 : decode cX5_step 181 = .ok (.iload_n 2, 1) := by decide +kernel
theorem dX5_step_182 : decode cX5_step 182 = .ok (.invokestatic 87, 3) := by decide +kernel
theorem dX5_step_185 : decode cX5_step 185 = .ok (.i2l, 1) := by decide +kernel
theorem dX5_step_186 : decode cX5_step 186 = .ok (.ladd, 1) := by decide +kernel
theorem dX5_step_187 : decode cX5_step 187 = .ok (.invokestatic 90, 3) := by decide +kernel
theorem dX5_step_190 : decode cX5_step 190 = .ok (.goto 191, 3) := by decide +kernel
theorem dX5_step_193 : decode cX5_step 193 = .ok (.aload_n 1, 1) := by decide +kernel
theorem dX5_step_194 : decode cX5_step 194 = .ok (.iload_n 3, 1) := by decide +kernel
theorem dX5_step_195 : decode cX5_step 195 = .ok (.lload 4, 2) := by decide +kernel
theorem dX5_step_197 : decode cX5_step 197 = .ok (.lload 8, 2) := by decide +kernel
theorem dX5_step_199 : decode cX5_step 199 = .ok (.ladd, 1) := by decide +kernel
theorem dX5_step_200 : decode cX5_step 200 = .ok (.ldc2_w 93, 3) := by decide +kernel
theorem dX5_step_203 : decode cX5_step 203 = .ok (.land, 1) := by decide +kernel
theorem dX5_step_204 : decode cX5_step 204 = .ok (.invokestatic 90, 3) := by decide +kernel
theorem dX5_step_207 : decode cX5_step 207 = .ok (.goto 174, 3) := by decide +kernel
theorem dX5_step_210 : decode cX5_step 210 = .ok (.iload_n 2, 1) := by decide +kernel
theorem dX5_step_211 : decode cX5_step 211 = .ok (.invokestatic 64, 3) := by decide +kernel
theorem dX5_step_214 : decode cX5_step 214 = .ok (.lload 4, 2) := by decide +kernel
theorem dX5_step_216 : decode cX5_step 216 = .ok (.lload 6, 2) := by decide +kernel
theorem dX5_step_218 : decode cX5_step 218 = .ok (.invokestatic 95, 3) := by decide +kernel
theorem dX5_step_221 : decode cX5_step 221 = .ok (.ifCond .eq 160, 3) := by decide +kernel
theorem dX5_step_224 : decode cX5_step 224 = .ok (.aload_n 1, 1) := by decide +kernel
theorem dX5_step_225 : decode cX5_step 225 = .ok (.ldc2_w 85, 3) := by decide +kernel
theorem dX5_step_228 : decode cX5_step 228 = .ok (.aload_n 1, 1) := by decide +kernel
theorem dX5_step_229 : decode cX5_step 229 = .ok (.getfield 71, 3) := by decide +kernel
theorem dX5_step_232 : decode cX5_step 232 = .ok (.i2l, 1) := by decide +kernel
theorem dX5_step_233 : decode cX5_step 233 = .ok (.lmul, 1) := by decide +kernel
theorem dX5_step_234 : decode cX5_step 234 = .ok (.iload_n 2, 1) := by decide +kernel
theorem dX5_step_235 : decode cX5_step 235 = .ok (.invokestatic 99, 3) := by decide +kernel
theorem dX5_step_238 : decode cX5_step 238 = .ok (.i2l, 1) := by decide +kernel
theorem dX5_step_239 : decode cX5_step 239 = .ok (.ladd, 1) := by decide +kernel
theorem dX5_step_240 : decode cX5_step 240 = .ok (.invokestatic 102, 3) := by decide +kernel
theorem dX5_step_243 : decode cX5_step 243 = .ok (.goto 138, 3) := by decide +kernel
theorem dX5_step_246 : decode cX5_step 246 = .ok (.aload_n 1, 1) := by decide +kernel
theorem dX5_step_247 : decode cX5_step 247 = .ok (.iload_n 3, 1) := by decide +kernel
theorem dX5_step_248 : decode cX5_step 248 = .ok (.lload 4, 2) := by decide +kernel
theorem dX5_step_250 : decode cX5_step 250 = .ok (.lload 8, 2) := by decide +kernel
theorem dX5_step_252 : decode cX5_step 252 = .ok (.ladd, 1) := by decide +kernel
theorem dX5_step_253 : decode cX5_step 253 = .ok (.iload_n 2, 1) := by decide +kernel
theorem dX5_step_254 : decode cX5_step 254 = .ok (.invokestatic 64, 3) := by decide +kernel
theorem dX5_step_257 : decode cX5_step 257 = .ok (.invokestatic 106, 3) := by decide +kernel
theorem dX5_step_260 : decode cX5_step 260 = .ok (.goto 121, 3) := by decide +kernel
theorem dX5_step_263 : decode cX5_step 263 = .ok (.aload_n 1, 1) := by decide +kernel
theorem dX5_step_264 : decode cX5_step 264 = .ok (.lload 4, 2) := by decide +kernel
theorem dX5_step_266 : decode cX5_step 266 = .ok (.iload_n 2, 1) := by decide +kernel
theorem dX5_step_267 : decode cX5_step 267 = .ok (.invokestatic 110, 3) := by decide +kernel
theorem dX5_step_270 : decode cX5_step 270 = .ok (.i2l, 1) := by decide +kernel
theorem dX5_step_271 : decode cX5_step 271 = .ok (.ladd, 1) := by decide +kernel
theorem dX5_step_272 : decode cX5_step 272 = .ok (.iload_n 2, 1) := by decide +kernel
theorem dX5_step_273 : decode cX5_step 273 = .ok (.invokestatic 64, 3) := by decide +kernel
theorem dX5_step_276 : decode cX5_step 276 = .ok (.lload 6, 2) := by decide +kernel
theorem dX5_step_278 : decode cX5_step 278 = .ok (.invokestatic 113, 3) := by decide +kernel
theorem dX5_step_281 : decode cX5_step 281 = .ok (.goto 100, 3) := by decide +kernel
theorem dX5_step_284 : decode cX5_step 284 = .ok (.aload_n 1, 1) := by decide +kernel
theorem dX5_step_285 : decode cX5_step 285 = .ok (.iload_n 3, 1) := by decide +kernel
theorem dX5_step_286 : decode cX5_step 286 = .ok (.iload_n 2, 1) := by decide +kernel
theorem dX5_step_287 : decode cX5_step 287 = .ok (.invokestatic 64, 3) := by decide +kernel
theorem dX5_step_290 : decode cX5_step 290 = .ok (.iload_n 2, 1) := by decide +kernel
theorem dX5_step_291 : decode cX5_step 291 = .ok (.invokestatic 117, 3) := by decide +kernel
theorem dX5_step_294 : decode cX5_step 294 = .ok (.lload 4, 2) := by decide +kernel
theorem dX5_step_296 : decode cX5_step 296 = .ok (.lload 8, 2) := by decide +kernel
theorem dX5_step_298 : decode cX5_step 298 = .ok (.invokestatic 120, 3) := by decide +kernel
theorem dX5_step_301 : decode cX5_step 301 = .ok (.invokestatic 81, 3) := by decide +kernel
theorem dX5_step_304 : decode cX5_step 304 = .ok (.goto 77, 3) := by decide +kernel
theorem dX5_step_307 : decode cX5_step 307 = .ok (.aload_n 1, 1) := by decide +kernel
theorem dX5_step_308 : decode cX5_step 308 = .ok (.iload_n 3, 1) := by decide +kernel
theorem dX5_step_309 : decode cX5_step 309 = .ok (.iload_n 2, 1) := by decide +kernel
theorem dX5_step_310 : decode cX5_step 310 = .ok (.invokestatic 64, 3) := by decide +kernel
theorem dX5_step_313 : decode cX5_step 313 = .ok (.iload_n 2, 1) := by decide +kernel
theorem dX5_step_314 : decode cX5_step 314 = .ok (.invokestatic 68, 3) := by decide +kernel
theorem dX5_step_317 : decode cX5_step 317 = .ok (.lload 4, 2) := by decide +kernel
theorem dX5_step_319 : decode cX5_step 319 = .ok (.lload 6, 2) := by decide +kernel
theorem dX5_step_321 : decode cX5_step 321 = .ok (.invokestatic 120, 3) := by decide +kernel
theorem dX5_step_324 : decode cX5_step 324 = .ok (.invokestatic 81, 3) := by decide +kernel
theorem dX5_step_327 : decode cX5_step 327 = .ok (.goto 54, 3) := by decide +kernel
theorem dX5_step_330 : decode cX5_step 330 = .ok (.aload_n 1, 1) := by decide +kernel
theorem dX5_step_331 : decode cX5_step 331 = .ok (.iload_n 3, 1) := by decide +kernel
theorem dX5_step_332 : decode cX5_step 332 = .ok (.iload_n 2, 1) := by decide +kernel
theorem dX5_step_333 : decode cX5_step 333 = .ok (.invokestatic 64, 3) := by decide +kernel
theorem dX5_step_336 : decode cX5_step 336 = .ok (.iload_n 2, 1) := by decide +kernel
theorem dX5_step_337 : decode cX5_step 337 = .ok (.invokestatic 117, 3) := by decide +kernel
theorem dX5_step_340 : decode cX5_step 340 = .ok (.lload 4, 2) := by decide +kernel
theorem dX5_step_342 : decode cX5_step 342 = .ok (.lload 8, 2) := by decide +kernel
theorem dX5_step_344 : decode cX5_step 344 = .ok (.invokestatic 124, 3) := by decide +kernel
theorem dX5_step_347 : decode cX5_step 347 = .ok (.invokestatic 81, 3) := by decide +kernel
theorem dX5_step_350 : decode cX5_step 350 = .ok (.goto 31, 3) := by decide +kernel
theorem dX5_step_353 : decode cX5_step 353 = .ok (.aload_n 1, 1) := by decide +kernel
theorem dX5_step_354 : decode cX5_step 354 = .ok (.iload_n 3, 1) := by decide +kernel
theorem dX5_step_355 : decode cX5_step 355 = .ok (.iload_n 2, 1) := by decide +kernel
theorem dX5_step_356 : decode cX5_step 356 = .ok (.invokestatic 64, 3) := by decide +kernel
theorem dX5_step_359 : decode cX5_step 359 = .ok (.iload_n 2, 1) := by decide +kernel
theorem dX5_step_360 : decode cX5_step 360 = .ok (.invokestatic 68, 3) := by decide +kernel
theorem dX5_step_363 : decode cX5_step 363 = .ok (.lload 4, 2) := by decide +kernel
theorem dX5_step_365 : decode cX5_step 365 = .ok (.lload 6, 2) := by decide +kernel
theorem dX5_step_367 : decode cX5_step 367 = .ok (.invokestatic 124, 3) := by decide +kernel
theorem dX5_step_370 : decode cX5_step 370 = .ok (.invokestatic 81, 3) := by decide +kernel
theorem dX5_step_373 : decode cX5_step 373 = .ok (.goto 8, 3) := by decide +kernel
theorem dX5_step_376 : decode cX5_step 376 = .ok (.aload_n 1, 1) := by decide +kernel
theorem dX5_step_377 : decode cX5_step 377 = .ok (.iconst 1, 1) := by decide +kernel
theorem dX5_step_378 : decode cX5_step 378 = .ok (.putfield 41, 3) := by decide +kernel
theorem dX5_step_381 : decode cX5_step 381 = .ok (.return_, 1) := by decide +kernel
theorem dX5_shiftHigh_0 : decode cX5_shiftHigh 0 = .ok (.iload_n 0, 1) := by decide +kernel
theorem dX5_shiftHigh_1 : decode cX5_shiftHigh 1 = .ok (.invokestatic 64, 3) := by decide +kernel
theorem dX5_shiftHigh_4 : decode cX5_shiftHigh 4 = .ok (.iconst 5, 1) := by decide +kernel
theorem dX5_shiftHigh_5 : decode cX5_shiftHigh 5 = .ok (.if_icmp .ne 13, 3) := by decide +kernel
theorem dX5_shiftHigh_8 : decode cX5_shiftHigh 8 = .ok (.iload_n 0, 1) := by decide +kernel
theorem dX5_shiftHigh_9 : decode cX5_shiftHigh 9 = .ok (.invokestatic 68, 3) := by decide +kernel
theorem dX5_shiftHigh_12 : decode cX5_shiftHigh 12 = .ok (.bipush 32, 2) := by decide +kernel
theorem dX5_shiftHigh_14 : decode cX5_shiftHigh 14 = .ok (.iand, 1) := by decide +kernel
theorem dX5_shiftHigh_15 : decode cX5_shiftHigh 15 = .ok (.goto 4, 3) := by decide +kernel
theorem dX5_shiftHigh_18 : decode cX5_shiftHigh 18 = .ok (.iconst 0, 1) := by decide +kernel
theorem dX5_shiftHigh_19 : decode cX5_shiftHigh 19 = .ok (.ireturn, 1) := by decide +kernel
theorem dX5_farNumber_0 : decode cX5_farNumber 0 = .ok (.iload_n 0, 1) := by decide +kernel
theorem dX5_farNumber_1 : decode cX5_farNumber 1 = .ok (.bipush 31, 2) := by decide +kernel
theorem dX5_farNumber_3 : decode cX5_farNumber 3 = .ok (.ishr, 1) := by decide +kernel
theorem dX5_farNumber_4 : decode cX5_farNumber 4 = .ok (.bipush 20, 2) := by decide +kernel
theorem dX5_farNumber_6 : decode cX5_farNumber 6 = .ok (.ishl, 1) := by decide +kernel
theorem dX5_farNumber_7 : decode cX5_farNumber 7 = .ok (.iload_n 0, 1) := by decide +kernel
theorem dX5_farNumber_8 : decode cX5_farNumber 8 = .ok (.ldc 127, 2) := by decide +kernel
theorem dX5_farNumber_10 : decode cX5_farNumber 10 = .ok (.iand, 1) := by decide +kernel
theorem dX5_farNumber_11 : decode cX5_farNumber 11 = .ok (.ior, 1) := by decide +kernel
theorem dX5_farNumber_12 : decode cX5_farNumber 12 = .ok (.iload_n 0, 1) := by decide +kernel
theorem dX5_farNumber_13 : decode cX5_farNumber 13 = .ok (.bipush 20, 2) := by decide +kernel
theorem dX5_farNumber_15 : decode cX5_farNumber 15 = .ok (.ishr, 1) := by decide +kernel
theorem dX5_farNumber_16 : decode cX5_farNumber 16 = .ok (.iconst 1, 1) := by decide +kernel
theorem dX5_farNumber_17 : decode cX5_farNumber 17 = .ok (.iand, 1) := by decide +kernel
theorem dX5_farNumber_18 : decode cX5_farNumber 18 = .ok (.bipush 11, 2) := by decide +kernel
theorem dX5_farNumber_20 : decode cX5_farNumber 20 = .ok (.ishl, 1) := by decide +kernel
theorem dX5_farNumber_21 : decode cX5_farNumber 21 = .ok (.ior, 1) := by decide +kernel
theorem dX5_farNumber_22 : decode cX5_farNumber 22 = .ok (.iload_n 0, 1) := by decide +kernel
theorem dX5_farNumber_23 : decode cX5_farNumber 23 = .ok (.bipush 21, 2) := by decide +kernel
theorem dX5_farNumber_25 : decode cX5_farNumber 25 = .ok (.ishr, 1) := by decide +kernel
theorem dX5_farNumber_26 : decode cX5_farNumber 26 = .ok (.sipush 1023, 3) := by decide +kernel
theorem dX5_farNumber_29 : decode cX5_farNumber 29 = .ok (.iand, 1) := by decide +kernel
theorem dX5_farNumber_30 : decode cX5_farNumber 30 = .ok (.iconst 1, 1) := by decide +kernel
theorem dX5_farNumber_31 : decode cX5_farNumber 31 = .ok (.ishl, 1) := by decide +kernel
theorem dX5_farNumber_32 : decode cX5_farNumber 32 = .ok (.ior, 1) := by decide +kernel
theorem dX5_farNumber_33 : decode cX5_farNumber 33 = .ok (.ireturn, 1) := by decide +kernel
theorem dX5_branchNumber_0 : decode cX5_branchNumber 0 = .ok (.iload_n 0, 1) := by decide +kernel
theorem dX5_branchNumber_1 : decode cX5_branchNumber 1 = .ok (.bipush 31, 2) := by decide +kernel
theorem dX5_branchNumber_3 : decode cX5_branchNumber 3 = .ok (.ishr, 1) := by decide +kernel
theorem dX5_branchNumber_4 : decode cX5_branchNumber 4 = .ok (.bipush 12, 2) := by decide +kernel
theorem dX5_branchNumber_6 : decode cX5_branchNumber 6 = .ok (.ishl, 1) := by decide +kernel
theorem dX5_branchNumber_7 : decode cX5_branchNumber 7 = .ok (.iload_n 0, 1) := by decide +kernel
theorem dX5_branchNumber_8 : decode cX5_branchNumber 8 = .ok (.bipush 7, 2) := by decide +kernel
theorem dX5_branchNumber_10 : decode cX5_branchNumber 10 = .ok (.ishr, 1) := by decide +kernel
theorem dX5_branchNumber_11 : decode cX5_branchNumber 11 = .ok (.iconst 1, 1) := by decide +kernel
theorem dX5_branchNumber_12 : decode cX5_branchNumber 12 = .ok (.iand, 1) := by decide +kernel
theorem dX5_branchNumber_13 : decode cX5_branchNumber 13 = .ok (.bipush 11, 2) := by decide +kernel
theorem dX5_branchNumber_15 : decode cX5_branchNumber 15 = .ok (.ishl, 1) := by decide +kernel
theorem dX5_branchNumber_16 : decode cX5_branchNumber 16 = .ok (.ior, 1) := by decide +kernel
theorem dX5_branchNumber_17 : decode cX5_branchNumber 17 = .ok (.iload_n 0, 1) := by decide +kernel
theorem dX5_branchNumber_18 : decode cX5_branchNumber 18 = .ok (.bipush 25, 2) := by decide +kernel
theorem dX5_branchNumber_20 : decode cX5_branchNumber 20 = .ok (.ishr, 1) := by decide +kernel
theorem dX5_branchNumber_21 : decode cX5_branchNumber 21 = .ok (.bipush 63, 2) := by decide +kernel
theorem dX5_branchNumber_23 : decode cX5_branchNumber 23 = .ok (.iand, 1) := by decide +kernel
theorem dX5_branchNumber_24 : decode cX5_branchNumber 24 = .ok (.iconst 5, 1) := by decide +kernel
theorem dX5_branchNumber_25 : decode cX5_branchNumber 25 = .ok (.ishl, 1) := by decide +kernel
theorem dX5_branchNumber_26 : decode cX5_branchNumber 26 = .ok (.ior, 1) := by decide +kernel
theorem dX5_branchNumber_27 : decode cX5_branchNumber 27 = .ok (.iload_n 0, 1) := by decide +kernel
theorem dX5_branchNumber_28 : decode cX5_branchNumber 28 = .ok (.bipush 8, 2) := by decide +kernel
theorem dX5_branchNumber_30 : decode cX5_branchNumber 30 = .ok (.ishr, 1) := by decide +kernel
theorem dX5_branchNumber_31 : decode cX5_branchNumber 31 = .ok (.bipush 15, 2) := by decide +kernel
theorem dX5_branchNumber_33 : decode cX5_branchNumber 33 = .ok (.iand, 1) := by decide +kernel
theorem dX5_branchNumber_34 : decode cX5_branchNumber 34 = .ok (.iconst 1, 1) := by decide +kernel
theorem dX5_branchNumber_35 : decode cX5_branchNumber 35 = .ok (.ishl, 1) := by decide +kernel
theorem dX5_branchNumber_36 : decode cX5_branchNumber 36 = .ok (.ior, 1) := by decide +kernel
theorem dX5_branchNumber_37 : decode cX5_branchNumber 37 = .ok (.ireturn, 1) := by decide +kernel
theorem dX5_storeNumber_0 : decode cX5_storeNumber 0 = .ok (.iload_n 0, 1) := by decide +kernel
theorem dX5_storeNumber_1 : decode cX5_storeNumber 1 = .ok (.bipush 25, 2) := by decide +kernel
theorem dX5_storeNumber_3 : decode cX5_storeNumber 3 = .ok (.ishr, 1) := by decide +kernel
theorem dX5_storeNumber_4 : decode cX5_storeNumber 4 = .ok (.iconst 5, 1) := by decide +kernel
theorem dX5_storeNumber_5 : decode cX5_storeNumber 5 = .ok (.ishl, 1) := by decide +kernel
theorem dX5_storeNumber_6 : decode cX5_storeNumber 6 = .ok (.iload_n 0, 1) := by decide +kernel
theorem dX5_storeNumber_7 : decode cX5_storeNumber 7 = .ok (.bipush 7, 2) := by decide +kernel
theorem dX5_storeNumber_9 : decode cX5_storeNumber 9 = .ok (.ishr, 1) := by decide +kernel
theorem dX5_storeNumber_10 : decode cX5_storeNumber 10 = .ok (.bipush 31, 2) := by decide +kernel
theorem dX5_storeNumber_12 : decode cX5_storeNumber 12 = .ok (.iand, 1) := by decide +kernel
theorem dX5_storeNumber_13 : decode cX5_storeNumber 13 = .ok (.ior, 1) := by decide +kernel
theorem dX5_storeNumber_14 : decode cX5_storeNumber 14 = .ok (.ireturn, 1) := by decide +kernel
theorem dX5_keep_0 : decode cX5_keep 0 = .ok (.iload_n 1, 1) := by decide +kernel
theorem dX5_keep_1 : decode cX5_keep 1 = .ok (.ifCond .eq 9, 3) := by decide +kernel
theorem dX5_keep_4 : decode cX5_keep 4 = .ok (.aload_n 0, 1) := by decide +kernel
theorem dX5_keep_5 : decode cX5_keep 5 = .ok (.iload_n 1, 1) := by decide +kernel
theorem dX5_keep_6 : decode cX5_keep 6 = .ok (.lload_n 2, 1) := by decide +kernel
theorem dX5_keep_7 : decode cX5_keep 7 = .ok (.invokevirtual 35, 3) := by decide +kernel
theorem dX5_keep_10 : decode cX5_keep 10 = .ok (.return_, 1) := by decide +kernel
theorem dX5_go_0 : decode cX5_go 0 = .ok (.aload_n 0, 1) := by decide +kernel
theorem dX5_go_1 : decode cX5_go 1 = .ok (.lload_n 1, 1) := by decide +kernel
theorem dX5_go_2 : decode cX5_go 2 = .ok (.lconst 0, 1) := by decide +kernel
theorem dX5_go_3 : decode cX5_go 3 = .ok (.lcmp, 1) := by decide +kernel
theorem dX5_go_4 : decode cX5_go 4 = .ok (.ifCond .lt 13, 3) := by decide +kernel
theorem dX5_go_7 : decode cX5_go 7 = .ok (.lload_n 1, 1) := by decide +kernel
theorem dX5_go_8 : decode cX5_go 8 = .ok (.ldc2_w 128, 3) := by decide +kernel
theorem dX5_go_11 : decode cX5_go 11 = .ok (.land, 1) := by decide +kernel
theorem dX5_go_12 : decode cX5_go 12 = .ok (.lconst 0, 1) := by decide +kernel
theorem dX5_go_13 : decode cX5_go 13 = .ok (.lcmp, 1) := by decide +kernel
theorem dX5_go_14 : decode cX5_go 14 = .ok (.ifCond .eq 9, 3) := by decide +kernel
theorem dX5_go_17 : decode cX5_go 17 = .ok (.ldc2_w 130, 3) := by decide +kernel
theorem dX5_go_20 : decode cX5_go 20 = .ok (.goto 6, 3) := by decide +kernel
theorem dX5_go_23 : decode cX5_go 23 = .ok (.lload_n 1, 1) := by decide +kernel
theorem dX5_go_24 : decode cX5_go 24 = .ok (.iconst 2, 1) := by decide +kernel
theorem dX5_go_25 : decode cX5_go 25 = .ok (.lshr, 1) := by decide +kernel
theorem dX5_go_26 : decode cX5_go 26 = .ok (.putfield 132, 3) := by decide +kernel
theorem dX5_go_29 : decode cX5_go 29 = .ok (.return_, 1) := by decide +kernel
theorem dX5_goLinked_0 : decode cX5_goLinked 0 = .ok (.aload_n 0, 1) := by decide +kernel
theorem dX5_goLinked_1 : decode cX5_goLinked 1 = .ok (.iload_n 1, 1) := by decide +kernel
theorem dX5_goLinked_2 : decode cX5_goLinked 2 = .ok (.ldc2_w 85, 3) := by decide +kernel
theorem dX5_goLinked_5 : decode cX5_goLinked 5 = .ok (.aload_n 0, 1) := by decide +kernel
theorem dX5_goLinked_6 : decode cX5_goLinked 6 = .ok (.getfield 71, 3) := by decide +kernel
theorem dX5_goLinked_9 : decode cX5_goLinked 9 = .ok (.i2l, 1) := by decide +kernel
theorem dX5_goLinked_10 : decode cX5_goLinked 10 = .ok (.lmul, 1) := by decide +kernel
theorem dX5_goLinked_11 : decode cX5_goLinked 11 = .ok (.ldc2_w 85, 3) := by decide +kernel
theorem dX5_goLinked_14 : decode cX5_goLinked 14 = .ok (.ladd, 1) := by decide +kernel
theorem dX5_goLinked_15 : decode cX5_goLinked 15 = .ok (.invokestatic 81, 3) := by decide +kernel
theorem dX5_goLinked_18 : decode cX5_goLinked 18 = .ok (.aload_n 0, 1) := by decide +kernel
theorem dX5_goLinked_19 : decode cX5_goLinked 19 = .ok (.lload_n 2, 1) := by decide +kernel
theorem dX5_goLinked_20 : decode cX5_goLinked 20 = .ok (.invokestatic 102, 3) := by decide +kernel
theorem dX5_goLinked_23 : decode cX5_goLinked 23 = .ok (.return_, 1) := by decide +kernel
theorem dX5_branches_0 : decode cX5_branches 0 = .ok (.iload_n 0, 1) := by decide +kernel
theorem dX5_branches_1 : decode cX5_branches 1 = .ok (.tableswitch 97 0 6 #[43, 55, 97, 97, 67, 79, 91], 43) := by decide +kernel
theorem dX5_branches_44 : decode cX5_branches 44 = .ok (.lload_n 1, 1) := by decide +kernel
theorem dX5_branches_45 : decode cX5_branches 45 = .ok (.lload_n 3, 1) := by decide +kernel
theorem dX5_branches_46 : decode cX5_branches 46 = .ok (.lcmp, 1) := by decide +kernel
theorem dX5_branches_47 : decode cX5_branches 47 = .ok (.ifCond .ne 7, 3) := by decide +kernel
theorem dX5_branches_50 : decode cX5_branches 50 = .ok (.iconst 1, 1) := by decide +kernel
theorem dX5_branches_51 : decode cX5_branches 51 = .ok (.goto 4, 3) := by decide +kernel
theorem dX5_branches_54 : decode cX5_branches 54 = .ok (.iconst 0, 1) := by decide +kernel
theorem dX5_branches_55 : decode cX5_branches 55 = .ok (.ireturn, 1) := by decide +kernel
theorem dX5_branches_56 : decode cX5_branches 56 = .ok (.lload_n 1, 1) := by decide +kernel
theorem dX5_branches_57 : decode cX5_branches 57 = .ok (.lload_n 3, 1) := by decide +kernel
theorem dX5_branches_58 : decode cX5_branches 58 = .ok (.lcmp, 1) := by decide +kernel
theorem dX5_branches_59 : decode cX5_branches 59 = .ok (.ifCond .eq 7, 3) := by decide +kernel
theorem dX5_branches_62 : decode cX5_branches 62 = .ok (.iconst 1, 1) := by decide +kernel
theorem dX5_branches_63 : decode cX5_branches 63 = .ok (.goto 4, 3) := by decide +kernel
theorem dX5_branches_66 : decode cX5_branches 66 = .ok (.iconst 0, 1) := by decide +kernel
theorem dX5_branches_67 : decode cX5_branches 67 = .ok (.ireturn, 1) := by decide +kernel
theorem dX5_branches_68 : decode cX5_branches 68 = .ok (.lload_n 1, 1) := by decide +kernel
theorem dX5_branches_69 : decode cX5_branches 69 = .ok (.lload_n 3, 1) := by decide +kernel
theorem dX5_branches_70 : decode cX5_branches 70 = .ok (.lcmp, 1) := by decide +kernel
theorem dX5_branches_71 : decode cX5_branches 71 = .ok (.ifCond .ge 7, 3) := by decide +kernel
theorem dX5_branches_74 : decode cX5_branches 74 = .ok (.iconst 1, 1) := by decide +kernel
theorem dX5_branches_75 : decode cX5_branches 75 = .ok (.goto 4, 3) := by decide +kernel
theorem dX5_branches_78 : decode cX5_branches 78 = .ok (.iconst 0, 1) := by decide +kernel
theorem dX5_branches_79 : decode cX5_branches 79 = .ok (.ireturn, 1) := by decide +kernel
theorem dX5_branches_80 : decode cX5_branches 80 = .ok (.lload_n 1, 1) := by decide +kernel
theorem dX5_branches_81 : decode cX5_branches 81 = .ok (.lload_n 3, 1) := by decide +kernel
theorem dX5_branches_82 : decode cX5_branches 82 = .ok (.lcmp, 1) := by decide +kernel
theorem dX5_branches_83 : decode cX5_branches 83 = .ok (.ifCond .lt 7, 3) := by decide +kernel
theorem dX5_branches_86 : decode cX5_branches 86 = .ok (.iconst 1, 1) := by decide +kernel
theorem dX5_branches_87 : decode cX5_branches 87 = .ok (.goto 4, 3) := by decide +kernel
theorem dX5_branches_90 : decode cX5_branches 90 = .ok (.iconst 0, 1) := by decide +kernel
theorem dX5_branches_91 : decode cX5_branches 91 = .ok (.ireturn, 1) := by decide +kernel
theorem dX5_branches_92 : decode cX5_branches 92 = .ok (.lload_n 1, 1) := by decide +kernel
theorem dX5_branches_93 : decode cX5_branches 93 = .ok (.lload_n 3, 1) := by decide +kernel
theorem dX5_branches_94 : decode cX5_branches 94 = .ok (.invokestatic 136, 3) := by decide +kernel
theorem dX5_branches_97 : decode cX5_branches 97 = .ok (.ireturn, 1) := by decide +kernel
theorem dX5_branches_98 : decode cX5_branches 98 = .ok (.lload_n 1, 1) := by decide +kernel
theorem dX5_branches_99 : decode cX5_branches 99 = .ok (.lload_n 3, 1) := by decide +kernel
theorem dX5_branches_100 : decode cX5_branches 100 = .ok (.invokestatic 136, 3) := by decide +kernel
theorem dX5_branches_103 : decode cX5_branches 103 = .ok (.ifCond .ne 7, 3) := by decide +kernel
theorem dX5_branches_106 : decode cX5_branches 106 = .ok (.iconst 1, 1) := by decide +kernel
theorem dX5_branches_107 : decode cX5_branches 107 = .ok (.goto 4, 3) := by decide +kernel
theorem dX5_branches_110 : decode cX5_branches 110 = .ok (.iconst 0, 1) := by decide +kernel
theorem dX5_branches_111 : decode cX5_branches 111 = .ok (.ireturn, 1) := by decide +kernel
theorem dX5_fetch_0 : decode cX5_fetch 0 = .ok (.iconst 1, 1) := by decide +kernel
theorem dX5_fetch_1 : decode cX5_fetch 1 = .ok (.iload 4, 2) := by decide +kernel
theorem dX5_fetch_3 : decode cX5_fetch 3 = .ok (.iconst 3, 1) := by decide +kernel
theorem dX5_fetch_4 : decode cX5_fetch 4 = .ok (.iand, 1) := by decide +kernel
theorem dX5_fetch_5 : decode cX5_fetch 5 = .ok (.ishl, 1) := by decide +kernel
theorem dX5_fetch_6 : decode cX5_fetch 6 = .ok (.istore 5, 2) := by decide +kernel
theorem dX5_fetch_8 : decode cX5_fetch 8 = .ok (.aload_n 0, 1) := by decide +kernel
theorem dX5_fetch_9 : decode cX5_fetch 9 = .ok (.lload_n 2, 1) := by decide +kernel
theorem dX5_fetch_10 : decode cX5_fetch 10 = .ok (.iload 5, 2) := by decide +kernel
theorem dX5_fetch_12 : decode cX5_fetch 12 = .ok (.invokevirtual 140, 3) := by decide +kernel
theorem dX5_fetch_15 : decode cX5_fetch 15 = .ok (.ifCond .ne 20, 3) := by decide +kernel
theorem dX5_fetch_18 : decode cX5_fetch 18 = .ok (.aload_n 0, 1) := by decide +kernel
theorem dX5_fetch_19 : decode cX5_fetch 19 = .ok (.lload_n 2, 1) := by decide +kernel
theorem dX5_fetch_20 : decode cX5_fetch 20 = .ok (.iload 5, 2) := by decide +kernel
theorem dX5_fetch_22 : decode cX5_fetch 22 = .ok (.invokevirtual 144, 3) := by decide +kernel
theorem dX5_fetch_25 : decode cX5_fetch 25 = .ok (.ifCond .ne 10, 3) := by decide +kernel
theorem dX5_fetch_28 : decode cX5_fetch 28 = .ok (.aload_n 0, 1) := by decide +kernel
theorem dX5_fetch_29 : decode cX5_fetch 29 = .ok (.bipush 7, 2) := by decide +kernel
theorem dX5_fetch_31 : decode cX5_fetch 31 = .ok (.invokevirtual 46, 3) := by decide +kernel
theorem dX5_fetch_34 : decode cX5_fetch 34 = .ok (.return_, 1) := by decide +kernel
theorem dX5_fetch_35 : decode cX5_fetch 35 = .ok (.aload_n 0, 1) := by decide +kernel
theorem dX5_fetch_36 : decode cX5_fetch 36 = .ok (.lload_n 2, 1) := by decide +kernel
theorem dX5_fetch_37 : decode cX5_fetch 37 = .ok (.iload 5, 2) := by decide +kernel
theorem dX5_fetch_39 : decode cX5_fetch 39 = .ok (.invokevirtual 147, 3) := by decide +kernel
theorem dX5_fetch_42 : decode cX5_fetch 42 = .ok (.lstore 6, 2) := by decide +kernel
theorem dX5_fetch_44 : decode cX5_fetch 44 = .ok (.iload 4, 2) := by decide +kernel
theorem dX5_fetch_46 : decode cX5_fetch 46 = .ok (.tableswitch 55 0 2 #[26, 36, 46], 26) := by decide +kernel
theorem dX5_fetch_72 : decode cX5_fetch 72 = .ok (.lload 6, 2) := by decide +kernel
theorem dX5_fetch_74 : decode cX5_fetch 74 = .ok (.l2i, 1) := by decide +kernel
theorem dX5_fetch_75 : decode cX5_fetch 75 = .ok (.i2b, 1) := by decide +kernel
theorem dX5_fetch_76 : decode cX5_fetch 76 = .ok (.i2l, 1) := by decide +kernel
theorem dX5_fetch_77 : decode cX5_fetch 77 = .ok (.lstore 6, 2) := by decide +kernel
theorem dX5_fetch_79 : decode cX5_fetch 79 = .ok (.goto 22, 3) := by decide +kernel
theorem dX5_fetch_82 : decode cX5_fetch 82 = .ok (.lload 6, 2) := by decide +kernel
theorem dX5_fetch_84 : decode cX5_fetch 84 = .ok (.l2i, 1) := by decide +kernel
theorem dX5_fetch_85 : decode cX5_fetch 85 = .ok (.i2s, 1) := by decide +kernel
theorem dX5_fetch_86 : decode cX5_fetch 86 = .ok (.i2l, 1) := by decide +kernel
theorem dX5_fetch_87 : decode cX5_fetch 87 = .ok (.lstore 6, 2) := by decide +kernel
theorem dX5_fetch_89 : decode cX5_fetch 89 = .ok (.goto 12, 3) := by decide +kernel
theorem dX5_fetch_92 : decode cX5_fetch 92 = .ok (.lload 6, 2) := by decide +kernel
theorem dX5_fetch_94 : decode cX5_fetch 94 = .ok (.l2i, 1) := by decide +kernel
theorem dX5_fetch_95 : decode cX5_fetch 95 = .ok (.i2l, 1) := by decide +kernel
theorem dX5_fetch_96 : decode cX5_fetch 96 = .ok (.lstore 6, 2) := by decide +kernel
theorem dX5_fetch_98 : decode cX5_fetch 98 = .ok (.goto 3, 3) := by decide +kernel
theorem dX5_fetch_101 : decode cX5_fetch 101 = .ok (.aload_n 0, 1) := by decide +kernel
theorem dX5_fetch_102 : decode cX5_fetch 102 = .ok (.iload_n 1, 1) := by decide +kernel
theorem dX5_fetch_103 : decode cX5_fetch 103 = .ok (.lload 6, 2) := by decide +kernel
theorem dX5_fetch_105 : decode cX5_fetch 105 = .ok (.invokestatic 81, 3) := by decide +kernel
theorem dX5_fetch_108 : decode cX5_fetch 108 = .ok (.return_, 1) := by decide +kernel
theorem dX5_keepInMemory_0 : decode cX5_keepInMemory 0 = .ok (.iconst 1, 1) := by decide +kernel
theorem dX5_keepInMemory_1 : decode cX5_keepInMemory 1 = .ok (.iload_n 3, 1) := by decide +kernel
theorem dX5_keepInMemory_2 : decode cX5_keepInMemory 2 = .ok (.iconst 3, 1) := by decide +kernel
theorem dX5_keepInMemory_3 : decode cX5_keepInMemory 3 = .ok (.iand, 1) := by decide +kernel
theorem dX5_keepInMemory_4 : decode cX5_keepInMemory 4 = .ok (.ishl, 1) := by decide +kernel
theorem dX5_keepInMemory_5 : decode cX5_keepInMemory 5 = .ok (.istore 6, 2) := by decide +kernel
theorem dX5_keepInMemory_7 : decode cX5_keepInMemory 7 = .ok (.aload_n 0, 1) := by decide +kernel
theorem dX5_keepInMemory_8 : decode cX5_keepInMemory 8 = .ok (.lload_n 1, 1) := by decide +kernel
theorem dX5_keepInMemory_9 : decode cX5_keepInMemory 9 = .ok (.iload 6, 2) := by decide +kernel
theorem dX5_keepInMemory_11 : decode cX5_keepInMemory 11 = .ok (.invokevirtual 140, 3) := by decide +kernel
theorem dX5_keepInMemory_14 : decode cX5_keepInMemory 14 = .ok (.ifCond .eq 15, 3) := by decide +kernel
theorem dX5_keepInMemory_17 : decode cX5_keepInMemory 17 = .ok (.aload_n 0, 1) := by decide +kernel
theorem dX5_keepInMemory_18 : decode cX5_keepInMemory 18 = .ok (.lload_n 1, 1) := by decide +kernel
theorem dX5_keepInMemory_19 : decode cX5_keepInMemory 19 = .ok (.iload 6, 2) := by decide +kernel
theorem dX5_keepInMemory_21 : decode cX5_keepInMemory 21 = .ok (.lload 4, 2) := by decide +kernel
theorem dX5_keepInMemory_23 : decode cX5_keepInMemory 23 = .ok (.invokevirtual 151, 3) := by decide +kernel
theorem dX5_keepInMemory_26 : decode cX5_keepInMemory 26 = .ok (.goto 9, 3) := by decide +kernel
theorem dX5_keepInMemory_29 : decode cX5_keepInMemory 29 = .ok (.aload_n 0, 1) := by decide +kernel
theorem dX5_keepInMemory_30 : decode cX5_keepInMemory 30 = .ok (.bipush 7, 2) := by decide +kernel
theorem dX5_keepInMemory_32 : decode cX5_keepInMemory 32 = .ok (.invokevirtual 46, 3) := by decide +kernel
theorem dX5_keepInMemory_35 : decode cX5_keepInMemory 35 = .ok (.return_, 1) := by decide +kernel
theorem dX5_made_0 : decode cX5_made 0 = .ok (.iload_n 1, 1) := by decide +kernel
theorem dX5_made_1 : decode cX5_made 1 = .ok (.iconst 1, 1) := by decide +kernel
theorem dX5_made_2 : decode cX5_made 2 = .ok (.if_icmp .ne 51, 3) := by decide +kernel
theorem dX5_made_5 : decode cX5_made 5 = .ok (.iload_n 0, 1) := by decide +kernel
theorem dX5_made_6 : decode cX5_made 6 = .ok (.ifCond .ne 10, 3) := by decide +kernel
theorem dX5_made_9 : decode cX5_made 9 = .ok (.lload_n 2, 1) := by decide +kernel
theorem dX5_made_10 : decode cX5_made 10 = .ok (.lload 4, 2) := by decide +kernel
theorem dX5_made_12 : decode cX5_made 12 = .ok (.lmul, 1) := by decide +kernel
theorem dX5_made_13 : decode cX5_made 13 = .ok (.goto 39, 3) := by decide +kernel
theorem dX5_made_16 : decode cX5_made 16 = .ok (.iload_n 0, 1) := by decide +kernel
theorem dX5_made_17 : decode cX5_made 17 = .ok (.iconst 5, 1) := by decide +kernel
theorem dX5_made_18 : decode cX5_made 18 = .ok (.if_icmp .ne 12, 3) := by decide +kernel
theorem dX5_made_21 : decode cX5_made 21 = .ok (.lload_n 2, 1) := by decide +kernel
theorem dX5_made_22 : decode cX5_made 22 = .ok (.lload 4, 2) := by decide +kernel
theorem dX5_made_24 : decode cX5_made 24 = .ok (.invokestatic 155, 3) := by decide +kernel
theorem dX5_made_27 : decode cX5_made 27 = .ok (.goto 25, 3) := by decide +kernel
theorem dX5_made_30 : decode cX5_made 30 = .ok (.lload_n 2, 1) := by decide +kernel
theorem dX5_made_31 : decode cX5_made 31 = .ok (.lload 4, 2) := by decide +kernel
theorem dX5_made_33 : decode cX5_made 33 = .ok (.lconst 0, 1) := by decide +kernel
theorem dX5_made_34 : decode cX5_made 34 = .ok (.lcmp, 1) := by decide +kernel
theorem dX5_made_35 : decode cX5_made 35 = .ok (.ifCond .ne 7, 3) := by decide +kernel
theorem dX5_made_38 : decode cX5_made 38 = .ok (.lconst 0, 1) := by decide +kernel
theorem dX5_made_39 : decode cX5_made 39 = .ok (.goto 12, 3) := by decide +kernel
theorem dX5_made_42 : decode cX5_made 42 = .ok (.lload_n 2, 1) := by decide +kernel
theorem dX5_made_43 : decode cX5_made 43 = .ok (.lload 4, 2) := by decide +kernel
theorem dX5_made_45 : decode cX5_made 45 = .ok (.invokestatic 159, 3) := by decide +kernel
theorem dX5_made_48 : decode cX5_made 48 = .ok (.lload 4, 2) := by decide +kernel
theorem dX5_made_50 : decode cX5_made 50 = .ok (.lmul, 1) := by decide +kernel
theorem dX5_made_51 : decode cX5_made 51 = .ok (.lsub, 1) := by decide +kernel
theorem dX5_made_52 : decode cX5_made 52 = .ok (.lreturn, 1) := by decide +kernel
theorem dX5_made_53 : decode cX5_made 53 = .ok (.lload 4, 2) := by decide +kernel
theorem dX5_made_55 : decode cX5_made 55 = .ok (.ldc2_w 162, 3) := by decide +kernel
theorem dX5_made_58 : decode cX5_made 58 = .ok (.land, 1) := by decide +kernel
theorem dX5_made_59 : decode cX5_made 59 = .ok (.l2i, 1) := by decide +kernel
theorem dX5_made_60 : decode cX5_made 60 = .ok (.istore 6, 2) := by decide +kernel
theorem dX5_made_62 : decode cX5_made 62 = .ok (.iload_n 0, 1) := by decide +kernel
theorem dX5_made_63 : decode cX5_made 63 = .ok (.tableswitch 120 0 6 #[41, 59, 64, 77, 92, 97, 115], 41) := by decide +kernel
theorem dX5_made_104 : decode cX5_made 104 = .ok (.iload_n 1, 1) := by decide +kernel
theorem dX5_made_105 : decode cX5_made 105 = .ok (.bipush 32, 2) := by decide +kernel
theorem dX5_made_107 : decode cX5_made 107 = .ok (.if_icmp .ne 10, 3) := by decide +kernel
theorem dX5_made_110 : decode cX5_made 110 = .ok (.lload_n 2, 1) := by decide +kernel
theorem dX5_made_111 : decode cX5_made 111 = .ok (.lload 4, 2) := by decide +kernel
theorem dX5_made_113 : decode cX5_made 113 = .ok (.lsub, 1) := by decide +kernel
theorem dX5_made_114 : decode cX5_made 114 = .ok (.goto 7, 3) := by decide +kernel
theorem dX5_made_117 : decode cX5_made 117 = .ok (.lload_n 2, 1) := by decide +kernel
theorem dX5_made_118 : decode cX5_made 118 = .ok (.lload 4, 2) := by decide +kernel
theorem dX5_made_120 : decode cX5_made 120 = .ok (.ladd, 1) := by decide +kernel
theorem dX5_made_121 : decode cX5_made 121 = .ok (.lreturn, 1) := by decide +kernel
theorem dX5_made_122 : decode cX5_made 122 = .ok (.lload_n 2, 1) := by decide +kernel
theorem dX5_made_123 : decode cX5_made 123 = .ok (.iload 6, 2) := by decide +kernel
theorem dX5_made_125 : decode cX5_made 125 = .ok (.lshl, 1) := by decide +kernel
theorem dX5_made_126 : decode cX5_made 126 = .ok (.lreturn, 1) := by decide +kernel
theorem dX5_made_127 : decode cX5_made 127 = .ok (.lload_n 2, 1) := by decide +kernel
theorem dX5_made_128 : decode cX5_made 128 = .ok (.lload 4, 2) := by decide +kernel
theorem dX5_made_130 : decode cX5_made 130 = .ok (.lcmp, 1) := by decide +kernel
theorem dX5_made_131 : decode cX5_made 131 = .ok (.ifCond .ge 7, 3) := by decide +kernel
theorem dX5_made_134 : decode cX5_made 134 = .ok (.lconst 1, 1) := by decide +kernel
theorem dX5_made_135 : decode cX5_made 135 = .ok (.goto 4, 3) := by decide +kernel
theorem dX5_made_138 : decode cX5_made 138 = .ok (.lconst 0, 1) := by decide +kernel
theorem dX5_made_139 : decode cX5_made 139 = .ok (.lreturn, 1) := by decide +kernel
theorem dX5_made_140 : decode cX5_made 140 = .ok (.lload_n 2, 1) := by decide +kernel
theorem dX5_made_141 : decode cX5_made 141 = .ok (.lload 4, 2) := by decide +kernel
theorem dX5_made_143 : decode cX5_made 143 = .ok (.invokestatic 136, 3) := by decide +kernel
theorem dX5_made_146 : decode cX5_made 146 = .ok (.ifCond .eq 7, 3) := by decide +kernel
theorem dX5_made_149 : decode cX5_made 149 = .ok (.lconst 1, 1) := by decide +kernel
theorem dX5_made_150 : decode cX5_made 150 = .ok (.goto 4, 3) := by decide +kernel
theorem dX5_made_153 : decode cX5_made 153 = .ok (.lconst 0, 1) := by decide +kernel
theorem dX5_made_154 : decode cX5_made 154 = .ok (.lreturn, 1) := by decide +kernel
theorem dX5_made_155 : decode cX5_made 155 = .ok (.lload_n 2, 1) := by decide +kernel
theorem dX5_made_156 : decode cX5_made 156 = .ok (.lload 4, 2) := by decide +kernel
theorem dX5_made_158 : decode cX5_made 158 = .ok (.lxor, 1) := by decide +kernel
theorem dX5_made_159 : decode cX5_made 159 = .ok (.lreturn, 1) := by decide +kernel
theorem dX5_made_160 : decode cX5_made 160 = .ok (.iload_n 1, 1) := by decide +kernel
theorem dX5_made_161 : decode cX5_made 161 = .ok (.bipush 32, 2) := by decide +kernel
theorem dX5_made_163 : decode cX5_made 163 = .ok (.if_icmp .ne 10, 3) := by decide +kernel
theorem dX5_made_166 : decode cX5_made 166 = .ok (.lload_n 2, 1) := by decide +kernel
theorem dX5_made_167 : decode cX5_made 167 = .ok (.iload 6, 2) := by decide +kernel
theorem dX5_made_169 : decode cX5_made 169 = .ok (.lshr, 1) := by decide +kernel
theorem dX5_made_170 : decode cX5_made 170 = .ok (.goto 7, 3) := by decide +kernel
theorem dX5_made_173 : decode cX5_made 173 = .ok (.lload_n 2, 1) := by decide +kernel
theorem dX5_made_174 : decode cX5_made 174 = .ok (.iload 6, 2) := by decide +kernel
theorem dX5_made_176 : decode cX5_made 176 = .ok (.lushr, 1) := by decide +kernel
theorem dX5_made_177 : decode cX5_made 177 = .ok (.lreturn, 1) := by decide +kernel
theorem dX5_made_178 : decode cX5_made 178 = .ok (.lload_n 2, 1) := by decide +kernel
theorem dX5_made_179 : decode cX5_made 179 = .ok (.lload 4, 2) := by decide +kernel
theorem dX5_made_181 : decode cX5_made 181 = .ok (.lor, 1) := by decide +kernel
theorem dX5_made_182 : decode cX5_made 182 = .ok (.lreturn, 1) := by decide +kernel
theorem dX5_made_183 : decode cX5_made 183 = .ok (.lload_n 2, 1) := by decide +kernel
theorem dX5_made_184 : decode cX5_made 184 = .ok (.lload 4, 2) := by decide +kernel
theorem dX5_made_186 : decode cX5_made 186 = .ok (.land, 1) := by decide +kernel
theorem dX5_made_187 : decode cX5_made 187 = .ok (.lreturn, 1) := by decide +kernel
theorem dX5_divided_0 : decode cX5_divided 0 = .ok (.lload_n 2, 1) := by decide +kernel
theorem dX5_divided_1 : decode cX5_divided 1 = .ok (.lconst 0, 1) := by decide +kernel
theorem dX5_divided_2 : decode cX5_divided 2 = .ok (.lcmp, 1) := by decide +kernel
theorem dX5_divided_3 : decode cX5_divided 3 = .ok (.ifCond .ne 9, 3) := by decide +kernel
theorem dX5_divided_6 : decode cX5_divided 6 = .ok (.ldc2_w 130, 3) := by decide +kernel
theorem dX5_divided_9 : decode cX5_divided 9 = .ok (.goto 8, 3) := by decide +kernel
theorem dX5_divided_12 : decode cX5_divided 12 = .ok (.lload_n 0, 1) := by decide +kernel
theorem dX5_divided_13 : decode cX5_divided 13 = .ok (.lload_n 2, 1) := by decide +kernel
theorem dX5_divided_14 : decode cX5_divided 14 = .ok (.invokestatic 159, 3) := by decide +kernel
theorem dX5_divided_17 : decode cX5_divided 17 = .ok (.lreturn, 1) := by decide +kernel
theorem dX5_made32_0 : decode cX5_made32 0 = .ok (.iload_n 1, 1) := by decide +kernel
theorem dX5_made32_1 : decode cX5_made32 1 = .ok (.iconst 1, 1) := by decide +kernel
theorem dX5_made32_2 : decode cX5_made32 2 = .ok (.if_icmp .ne 22, 3) := by decide +kernel
theorem dX5_made32_5 : decode cX5_made32 5 = .ok (.iload_n 0, 1) := by decide +kernel
theorem dX5_made32_6 : decode cX5_made32 6 = .ok (.iload_n 1, 1) := by decide +kernel
theorem dX5_made32_7 : decode cX5_made32 7 = .ok (.lload_n 2, 1) := by decide +kernel
theorem dX5_made32_8 : decode cX5_made32 8 = .ok (.ldc2_w 164, 3) := by decide +kernel
theorem dX5_made32_11 : decode cX5_made32 11 = .ok (.land, 1) := by decide +kernel
theorem dX5_made32_12 : decode cX5_made32 12 = .ok (.lload 4, 2) := by decide +kernel
theorem dX5_made32_14 : decode cX5_made32 14 = .ok (.ldc2_w 164, 3) := by decide +kernel
theorem dX5_made32_17 : decode cX5_made32 17 = .ok (.land, 1) := by decide +kernel
theorem dX5_made32_18 : decode cX5_made32 18 = .ok (.invokestatic 120, 3) := by decide +kernel
theorem dX5_made32_21 : decode cX5_made32 21 = .ok (.l2i, 1) := by decide +kernel
theorem dX5_made32_22 : decode cX5_made32 22 = .ok (.i2l, 1) := by decide +kernel
theorem dX5_made32_23 : decode cX5_made32 23 = .ok (.lreturn, 1) := by decide +kernel
theorem dX5_made32_24 : decode cX5_made32 24 = .ok (.lload_n 2, 1) := by decide +kernel
theorem dX5_made32_25 : decode cX5_made32 25 = .ok (.l2i, 1) := by decide +kernel
theorem dX5_made32_26 : decode cX5_made32 26 = .ok (.istore 6, 2) := by decide +kernel
theorem dX5_made32_28 : decode cX5_made32 28 = .ok (.lload 4, 2) := by decide +kernel
theorem dX5_made32_30 : decode cX5_made32 30 = .ok (.l2i, 1) := by decide +kernel
theorem dX5_made32_31 : decode cX5_made32 31 = .ok (.bipush 31, 2) := by decide +kernel
theorem dX5_made32_33 : decode cX5_made32 33 = .ok (.iand, 1) := by decide +kernel
theorem dX5_made32_34 : decode cX5_made32 34 = .ok (.istore 7, 2) := by decide +kernel
theorem dX5_made32_36 : decode cX5_made32 36 = .ok (.iload_n 0, 1) := by decide +kernel
theorem dX5_made32_37 : decode cX5_made32 37 = .ok (.lookupswitch 58 #[(0, 27), (1, 51)], 27) := by decide +kernel
theorem dX5_made32_64 : decode cX5_made32 64 = .ok (.iload_n 1, 1) := by decide +kernel
theorem dX5_made32_65 : decode cX5_made32 65 = .ok (.bipush 32, 2) := by decide +kernel
theorem dX5_made32_67 : decode cX5_made32 67 = .ok (.if_icmp .ne 13, 3) := by decide +kernel
theorem dX5_made32_70 : decode cX5_made32 70 = .ok (.iload 6, 2) := by decide +kernel
theorem dX5_made32_72 : decode cX5_made32 72 = .ok (.lload 4, 2) := by decide +kernel
theorem dX5_made32_74 : decode cX5_made32 74 = .ok (.l2i, 1) := by decide +kernel
theorem dX5_made32_75 : decode cX5_made32 75 = .ok (.isub, 1) := by decide +kernel
theorem dX5_made32_76 : decode cX5_made32 76 = .ok (.i2l, 1) := by decide +kernel
theorem dX5_made32_77 : decode cX5_made32 77 = .ok (.goto 10, 3) := by decide +kernel
theorem dX5_made32_80 : decode cX5_made32 80 = .ok (.iload 6, 2) := by decide +kernel
theorem dX5_made32_82 : decode cX5_made32 82 = .ok (.lload 4, 2) := by decide +kernel
theorem dX5_made32_84 : decode cX5_made32 84 = .ok (.l2i, 1) := by decide +kernel
theorem dX5_made32_85 : decode cX5_made32 85 = .ok (.iadd, 1) := by decide +kernel
theorem dX5_made32_86 : decode cX5_made32 86 = .ok (.i2l, 1) := by decide +kernel
theorem dX5_made32_87 : decode cX5_made32 87 = .ok (.lreturn, 1) := by decide +kernel
theorem dX5_made32_88 : decode cX5_made32 88 = .ok (.iload 6, 2) := by decide +kernel
theorem dX5_made32_90 : decode cX5_made32 90 = .ok (.iload 7, 2) := by decide +kernel
theorem dX5_made32_92 : decode cX5_made32 92 = .ok (.ishl, 1) := by decide +kernel
theorem dX5_made32_93 : decode cX5_made32 93 = .ok (.i2l, 1) := by decide +kernel
theorem dX5_made32_94 : decode cX5_made32 94 = .ok (.lreturn, 1) := by decide +kernel
theorem dX5_made32_95 : decode cX5_made32 95 = .ok (.iload_n 1, 1) := by decide +kernel
theorem dX5_made32_96 : decode cX5_made32 96 = .ok (.bipush 32, 2) := by decide +kernel
theorem dX5_made32_98 : decode cX5_made32 98 = .ok (.if_icmp .ne 12, 3) := by decide +kernel
theorem dX5_made32_101 : decode cX5_made32 101 = .ok (.iload 6, 2) := by decide +kernel
theorem dX5_made32_103 : decode cX5_made32 103 = .ok (.iload 7, 2) := by decide +kernel
theorem dX5_made32_105 : decode cX5_made32 105 = .ok (.ishr, 1) := by decide +kernel
theorem dX5_made32_106 : decode cX5_made32 106 = .ok (.i2l, 1) := by decide +kernel
theorem dX5_made32_107 : decode cX5_made32 107 = .ok (.goto 9, 3) := by decide +kernel
theorem dX5_made32_110 : decode cX5_made32 110 = .ok (.iload 6, 2) := by decide +kernel
theorem dX5_made32_112 : decode cX5_made32 112 = .ok (.iload 7, 2) := by decide +kernel
theorem dX5_made32_114 : decode cX5_made32 114 = .ok (.iushr, 1) := by decide +kernel
theorem dX5_made32_115 : decode cX5_made32 115 = .ok (.i2l, 1) := by decide +kernel
theorem dX5_made32_116 : decode cX5_made32 116 = .ok (.lreturn, 1) := by decide +kernel
theorem dX6_init_0 : decode cX6_init 0 = .ok (.aload_n 0, 1) := by decide +kernel
theorem dX6_init_1 : decode cX6_init 1 = .ok (.invokespecial 1, 3) := by decide +kernel
theorem dX6_init_4 : decode cX6_init 4 = .ok (.aload_n 0, 1) := by decide +kernel
theorem dX6_init_5 : decode cX6_init 5 = .ok (.sipush 4096, 3) := by decide +kernel
theorem dX6_init_8 : decode cX6_init 8 = .ok (.newarray .byte, 2) := by decide +kernel
theorem dX6_init_10 : decode cX6_init 10 = .ok (.putfield 9, 3) := by decide +kernel
theorem dX6_init_13 : decode cX6_init 13 = .ok (.aload_n 0, 1) := by decide +kernel
theorem dX6_init_14 : decode cX6_init 14 = .ok (.bipush 16, 2) := by decide +kernel
theorem dX6_init_16 : decode cX6_init 16 = .ok (.newarray .int, 2) := by decide +kernel
theorem dX6_init_18 : decode cX6_init 18 = .ok (.putfield 13, 3) := by decide +kernel
theorem dX6_init_21 : decode cX6_init 21 = .ok (.return_, 1) := by decide +kernel
theorem dX6_add_0 : decode cX6_add 0 = .ok (.aload_n 0, 1) := by decide +kernel
theorem dX6_add_1 : decode cX6_add 1 = .ok (.getfield 17, 3) := by decide +kernel
theorem dX6_add_4 : decode cX6_add 4 = .ok (.bipush 16, 2) := by decide +kernel
theorem dX6_add_6 : decode cX6_add 6 = .ok (.if_icmp .lt 5, 3) := by decide +kernel
theorem dX6_add_9 : decode cX6_add 9 = .ok (.iconst (-1), 1) := by decide +kernel
theorem dX6_add_10 : decode cX6_add 10 = .ok (.ireturn, 1) := by decide +kernel
theorem dX6_add_11 : decode cX6_add 11 = .ok (.aload_n 1, 1) := by decide +kernel
theorem dX6_add_12 : decode cX6_add 12 = .ok (.getfield 21, 3) := by decide +kernel
theorem dX6_add_15 : decode cX6_add 15 = .ok (.sipush 256, 3) := by decide +kernel
theorem dX6_add_18 : decode cX6_add 18 = .ok (.if_icmp .le 6, 3) := by decide +kernel
theorem dX6_add_21 : decode cX6_add 21 = .ok (.bipush (-2), 2) := by decide +kernel
theorem dX6_add_23 : decode cX6_add 23 = .ok (.ireturn, 1) := by decide +kernel
theorem dX6_add_24 : decode cX6_add 24 = .ok (.iconst 0, 1) := by decide +kernel
theorem dX6_add_25 : decode cX6_add 25 = .ok (.istore_n 2, 1) := by decide +kernel
theorem dX6_add_26 : decode cX6_add 26 = .ok (.iload_n 2, 1) := by decide +kernel
theorem dX6_add_27 : decode cX6_add 27 = .ok (.aload_n 1, 1) := by decide +kernel
theorem dX6_add_28 : decode cX6_add 28 = .ok (.getfield 21, 3) := by decide +kernel
theorem dX6_add_31 : decode cX6_add 31 = .ok (.if_icmp .ge 30, 3) := by decide +kernel
theorem dX6_add_34 : decode cX6_add 34 = .ok (.aload_n 0, 1) := by decide +kernel
theorem dX6_add_35 : decode cX6_add 35 = .ok (.getfield 9, 3) := by decide +kernel
theorem dX6_add_38 : decode cX6_add 38 = .ok (.aload_n 0, 1) := by decide +kernel
theorem dX6_add_39 : decode cX6_add 39 = .ok (.getfield 17, 3) := by decide +kernel
theorem dX6_add_42 : decode cX6_add 42 = .ok (.sipush 256, 3) := by decide +kernel
theorem dX6_add_45 : decode cX6_add 45 = .ok (.imul, 1) := by decide +kernel
theorem dX6_add_46 : decode cX6_add 46 = .ok (.iload_n 2, 1) := by decide +kernel
theorem dX6_add_47 : decode cX6_add 47 = .ok (.iadd, 1) := by decide +kernel
theorem dX6_add_48 : decode cX6_add 48 = .ok (.aload_n 1, 1) := by decide +kernel
theorem dX6_add_49 : decode cX6_add 49 = .ok (.iload_n 2, 1) := by decide +kernel
theorem dX6_add_50 : decode cX6_add 50 = .ok (.invokevirtual 26, 3) := by decide +kernel
theorem dX6_add_53 : decode cX6_add 53 = .ok (.i2b, 1) := by decide +kernel
theorem dX6_add_54 : decode cX6_add 54 = .ok (.bastore, 1) := by decide +kernel
theorem dX6_add_55 : decode cX6_add 55 = .ok (.iinc 2 1, 3) := by decide +kernel
theorem dX6_add_58 : decode cX6_add 58 = .ok (.goto (-32), 3) := by decide +kernel
theorem dX6_add_61 : decode cX6_add 61 = .ok (.aload_n 0, 1) := by decide +kernel
theorem dX6_add_62 : decode cX6_add 62 = .ok (.getfield 13, 3) := by decide +kernel
theorem dX6_add_65 : decode cX6_add 65 = .ok (.aload_n 0, 1) := by decide +kernel
theorem dX6_add_66 : decode cX6_add 66 = .ok (.getfield 17, 3) := by decide +kernel
theorem dX6_add_69 : decode cX6_add 69 = .ok (.aload_n 1, 1) := by decide +kernel
theorem dX6_add_70 : decode cX6_add 70 = .ok (.getfield 21, 3) := by decide +kernel
theorem dX6_add_73 : decode cX6_add 73 = .ok (.iastore, 1) := by decide +kernel
theorem dX6_add_74 : decode cX6_add 74 = .ok (.aload_n 0, 1) := by decide +kernel
theorem dX6_add_75 : decode cX6_add 75 = .ok (.dup, 1) := by decide +kernel
theorem dX6_add_76 : decode cX6_add 76 = .ok (.getfield 17, 3) := by decide +kernel
theorem dX6_add_79 : decode cX6_add 79 = .ok (.iconst 1, 1) := by decide +kernel
theorem dX6_add_80 : decode cX6_add 80 = .ok (.iadd, 1) := by decide +kernel
theorem dX6_add_81 : decode cX6_add 81 = .ok (.putfield 17, 3) := by decide +kernel
theorem dX6_add_84 : decode cX6_add 84 = .ok (.aload_n 0, 1) := by decide +kernel
theorem dX6_add_85 : decode cX6_add 85 = .ok (.getfield 17, 3) := by decide +kernel
theorem dX6_add_88 : decode cX6_add 88 = .ok (.iconst 1, 1) := by decide +kernel
theorem dX6_add_89 : decode cX6_add 89 = .ok (.isub, 1) := by decide +kernel
theorem dX6_add_90 : decode cX6_add 90 = .ok (.ireturn, 1) := by decide +kernel
theorem dX6_lengthOf_0 : decode cX6_lengthOf 0 = .ok (.iload_n 1, 1) := by decide +kernel
theorem dX6_lengthOf_1 : decode cX6_lengthOf 1 = .ok (.ifCond .lt 11, 3) := by decide +kernel
theorem dX6_lengthOf_4 : decode cX6_lengthOf 4 = .ok (.iload_n 1, 1) := by decide +kernel
theorem dX6_lengthOf_5 : decode cX6_lengthOf 5 = .ok (.aload_n 0, 1) := by decide +kernel
theorem dX6_lengthOf_6 : decode cX6_lengthOf 6 = .ok (.getfield 17, 3) := by decide +kernel
theorem dX6_lengthOf_9 : decode cX6_lengthOf 9 = .ok (.if_icmp .lt 7, 3) := by decide +kernel
theorem dX6_lengthOf_12 : decode cX6_lengthOf 12 = .ok (.iconst (-1), 1) := by decide +kernel
theorem dX6_lengthOf_13 : decode cX6_lengthOf 13 = .ok (.goto 9, 3) := by decide +kernel
theorem dX6_lengthOf_16 : decode cX6_lengthOf 16 = .ok (.aload_n 0, 1) := by decide +kernel
theorem dX6_lengthOf_17 : decode cX6_lengthOf 17 = .ok (.getfield 13, 3) := by decide +kernel
theorem dX6_lengthOf_20 : decode cX6_lengthOf 20 = .ok (.iload_n 1, 1) := by decide +kernel
theorem dX6_lengthOf_21 : decode cX6_lengthOf 21 = .ok (.iaload, 1) := by decide +kernel
theorem dX6_lengthOf_22 : decode cX6_lengthOf 22 = .ok (.ireturn, 1) := by decide +kernel
theorem dX6_at_0 : decode cX6_at 0 = .ok (.lload_n 2, 1) := by decide +kernel
theorem dX6_at_1 : decode cX6_at 1 = .ok (.lconst 0, 1) := by decide +kernel
theorem dX6_at_2 : decode cX6_at 2 = .ok (.lcmp, 1) := by decide +kernel
theorem dX6_at_3 : decode cX6_at 3 = .ok (.ifCond .lt 14, 3) := by decide +kernel
theorem dX6_at_6 : decode cX6_at 6 = .ok (.lload_n 2, 1) := by decide +kernel
theorem dX6_at_7 : decode cX6_at 7 = .ok (.aload_n 0, 1) := by decide +kernel
theorem dX6_at_8 : decode cX6_at 8 = .ok (.iload_n 1, 1) := by decide +kernel
theorem dX6_at_9 : decode cX6_at 9 = .ok (.invokevirtual 30, 3) := by decide +kernel
theorem dX6_at_12 : decode cX6_at 12 = .ok (.i2l, 1) := by decide +kernel
theorem dX6_at_13 : decode cX6_at 13 = .ok (.lcmp, 1) := by decide +kernel
theorem dX6_at_14 : decode cX6_at 14 = .ok (.ifCond .lt 7, 3) := by decide +kernel
theorem dX6_at_17 : decode cX6_at 17 = .ok (.iconst (-1), 1) := by decide +kernel
theorem dX6_at_18 : decode cX6_at 18 = .ok (.goto 20, 3) := by decide +kernel
theorem dX6_at_21 : decode cX6_at 21 = .ok (.aload_n 0, 1) := by decide +kernel
theorem dX6_at_22 : decode cX6_at 22 = .ok (.getfield 9, 3) := by decide +kernel
theorem dX6_at_25 : decode cX6_at 25 = .ok (.iload_n 1, 1) := by decide +kernel
theorem dX6_at_26 : decode cX6_at 26 = .ok (.sipush 256, 3) := by decide +kernel
theorem dX6_at_29 : decode cX6_at 29 = .ok (.imul, 1) := by decide +kernel
theorem dX6_at_30 : decode cX6_at 30 = .ok (.lload_n 2, 1) := by decide +kernel
theorem dX6_at_31 : decode cX6_at 31 = .ok (.l2i, 1) := by decide +kernel
theorem dX6_at_32 : decode cX6_at 32 = .ok (.iadd, 1) := by decide +kernel
theorem dX6_at_33 : decode cX6_at 33 = .ok (.baload, 1) := by decide +kernel
theorem dX6_at_34 : decode cX6_at 34 = .ok (.sipush 255, 3) := by decide +kernel
theorem dX6_at_37 : decode cX6_at 37 = .ok (.iand, 1) := by decide +kernel
theorem dX6_at_38 : decode cX6_at 38 = .ok (.ireturn, 1) := by decide +kernel
theorem dX6_eightFrom_0 : decode cX6_eightFrom 0 = .ok (.aload_n 0, 1) := by decide +kernel
theorem dX6_eightFrom_1 : decode cX6_eightFrom 1 = .ok (.iload_n 1, 1) := by decide +kernel
theorem dX6_eightFrom_2 : decode cX6_eightFrom 2 = .ok (.iload_n 2, 1) := by decide +kernel
theorem dX6_eightFrom_3 : decode cX6_eightFrom 3 = .ok (.i2l, 1) := by decide +kernel
theorem dX6_eightFrom_4 : decode cX6_eightFrom 4 = .ok (.invokevirtual 33, 3) := by decide +kernel
theorem dX6_eightFrom_7 : decode cX6_eightFrom 7 = .ok (.ifCond .ge 7, 3) := by decide +kernel
theorem dX6_eightFrom_10 : decode cX6_eightFrom 10 = .ok (.ldc2_w 36, 3) := by decide +kernel
theorem dX6_eightFrom_13 : decode cX6_eightFrom 13 = .ok (.lreturn, 1) := by decide +kernel
theorem dX6_eightFrom_14 : decode cX6_eightFrom 14 = .ok (.lconst 0, 1) := by decide +kernel
theorem dX6_eightFrom_15 : decode cX6_eightFrom 15 = .ok (.lstore_n 3, 1) := by decide +kernel
theorem dX6_eightFrom_16 : decode cX6_eightFrom 16 = .ok (.iconst 0, 1) := by decide +kernel
theorem dX6_eightFrom_17 : decode cX6_eightFrom 17 = .ok (.istore 5, 2) := by decide +kernel
theorem dX6_eightFrom_19 : decode cX6_eightFrom 19 = .ok (.iload 5, 2) := by decide +kernel
theorem dX6_eightFrom_21 : decode cX6_eightFrom 21 = .ok (.bipush 8, 2) := by decide +kernel
theorem dX6_eightFrom_23 : decode cX6_eightFrom 23 = .ok (.if_icmp .ge 40, 3) := by decide +kernel
theorem dX6_eightFrom_26 : decode cX6_eightFrom 26 = .ok (.aload_n 0, 1) := by decide +kernel
theorem dX6_eightFrom_27 : decode cX6_eightFrom 27 = .ok (.iload_n 1, 1) := by decide +kernel
theorem dX6_eightFrom_28 : decode cX6_eightFrom 28 = .ok (.iload_n 2, 1) := by decide +kernel
theorem dX6_eightFrom_29 : decode cX6_eightFrom 29 = .ok (.i2l, 1) := by decide +kernel
theorem dX6_eightFrom_30 : decode cX6_eightFrom 30 = .ok (.iload 5, 2) := by decide +kernel
theorem dX6_eightFrom_32 : decode cX6_eightFrom 32 = .ok (.i2l, 1) := by decide +kernel
theorem dX6_eightFrom_33 : decode cX6_eightFrom 33 = .ok (.ladd, 1) := by decide +kernel
theorem dX6_eightFrom_34 : decode cX6_eightFrom 34 = .ok (.invokevirtual 33, 3) := by decide +kernel
theorem dX6_eightFrom_37 : decode cX6_eightFrom 37 = .ok (.istore 6, 2) := by decide +kernel
theorem dX6_eightFrom_39 : decode cX6_eightFrom 39 = .ok (.lload_n 3, 1) := by decide +kernel
theorem dX6_eightFrom_40 : decode cX6_eightFrom 40 = .ok (.bipush 8, 2) := by decide +kernel
theorem dX6_eightFrom_42 : decode cX6_eightFrom 42 = .ok (.lshl, 1) := by decide +kernel
theorem dX6_eightFrom_43 : decode cX6_eightFrom 43 = .ok (.iload 6, 2) := by decide +kernel
theorem dX6_eightFrom_45 : decode cX6_eightFrom 45 = .ok (.ifCond .ge 7, 3) := by decide +kernel
theorem dX6_eightFrom_48 : decode cX6_eightFrom 48 = .ok (.iconst 0, 1) := by decide +kernel
theorem dX6_eightFrom_49 : decode cX6_eightFrom 49 = .ok (.goto 5, 3) := by decide +kernel
theorem dX6_eightFrom_52 : decode cX6_eightFrom 52 = .ok (.iload 6, 2) := by decide +kernel
theorem dX6_eightFrom_54 : decode cX6_eightFrom 54 = .ok (.i2l, 1) := by decide +kernel
theorem dX6_eightFrom_55 : decode cX6_eightFrom 55 = .ok (.lor, 1) := by decide +kernel
theorem dX6_eightFrom_56 : decode cX6_eightFrom 56 = .ok (.lstore_n 3, 1) := by decide +kernel
theorem dX6_eightFrom_57 : decode cX6_eightFrom 57 = .ok (.iinc 5 1, 3) := by decide +kernel
theorem dX6_eightFrom_60 : decode cX6_eightFrom 60 = .ok (.goto (-41), 3) := by decide +kernel
theorem dX6_eightFrom_63 : decode cX6_eightFrom 63 = .ok (.lload_n 3, 1) := by decide +kernel
theorem dX6_eightFrom_64 : decode cX6_eightFrom 64 = .ok (.lreturn, 1) := by decide +kernel
theorem dX6_read_0 : decode cX6_read 0 = .ok (.lload_n 2, 1) := by decide +kernel
theorem dX6_read_1 : decode cX6_read 1 = .ok (.lconst 0, 1) := by decide +kernel
theorem dX6_read_2 : decode cX6_read 2 = .ok (.lcmp, 1) := by decide +kernel
theorem dX6_read_3 : decode cX6_read 3 = .ok (.ifCond .lt 18, 3) := by decide +kernel
theorem dX6_read_6 : decode cX6_read 6 = .ok (.lload_n 2, 1) := by decide +kernel
theorem dX6_read_7 : decode cX6_read 7 = .ok (.iload 4, 2) := by decide +kernel
theorem dX6_read_9 : decode cX6_read 9 = .ok (.i2l, 1) := by decide +kernel
theorem dX6_read_10 : decode cX6_read 10 = .ok (.ladd, 1) := by decide +kernel
theorem dX6_read_11 : decode cX6_read 11 = .ok (.aload_n 0, 1) := by decide +kernel
theorem dX6_read_12 : decode cX6_read 12 = .ok (.iload_n 1, 1) := by decide +kernel
theorem dX6_read_13 : decode cX6_read 13 = .ok (.invokevirtual 30, 3) := by decide +kernel
theorem dX6_read_16 : decode cX6_read 16 = .ok (.i2l, 1) := by decide +kernel
theorem dX6_read_17 : decode cX6_read 17 = .ok (.lcmp, 1) := by decide +kernel
theorem dX6_read_18 : decode cX6_read 18 = .ok (.ifCond .le 7, 3) := by decide +kernel
theorem dX6_read_21 : decode cX6_read 21 = .ok (.ldc2_w 36, 3) := by decide +kernel
theorem dX6_read_24 : decode cX6_read 24 = .ok (.lreturn, 1) := by decide +kernel
theorem dX6_read_25 : decode cX6_read 25 = .ok (.lconst 0, 1) := by decide +kernel
theorem dX6_read_26 : decode cX6_read 26 = .ok (.lstore 5, 2) := by decide +kernel
theorem dX6_read_28 : decode cX6_read 28 = .ok (.iconst 0, 1) := by decide +kernel
theorem dX6_read_29 : decode cX6_read 29 = .ok (.istore 7, 2) := by decide +kernel
theorem dX6_read_31 : decode cX6_read 31 = .ok (.iload 7, 2) := by decide +kernel
theorem dX6_read_33 : decode cX6_read 33 = .ok (.iload 4, 2) := by decide +kernel
theorem dX6_read_35 : decode cX6_read 35 = .ok (.if_icmp .ge 28, 3) := by decide +kernel
theorem dX6_read_38 : decode cX6_read 38 = .ok (.lload 5, 2) := by decide +kernel
theorem dX6_read_40 : decode cX6_read 40 = .ok (.bipush 8, 2) := by decide +kernel
theorem dX6_read_42 : decode cX6_read 42 = .ok (.lshl, 1) := by decide +kernel
theorem dX6_read_43 : decode cX6_read 43 = .ok (.aload_n 0, 1) := by decide +kernel
theorem dX6_read_44 : decode cX6_read 44 = .ok (.iload_n 1, 1) := by decide +kernel
theorem dX6_read_45 : decode cX6_read 45 = .ok (.lload_n 2, 1) := by decide +kernel
theorem dX6_read_46 : decode cX6_read 46 = .ok (.iload 7, 2) := by decide +kernel
theorem dX6_read_48 : decode cX6_read 48 = .ok (.i2l, 1) := by decide +kernel
theorem dX6_read_49 : decode cX6_read 49 = .ok (.ladd, 1) := by decide +kernel
theorem dX6_read_50 : decode cX6_read 50 = .ok (.invokevirtual 33, 3) := by decide +kernel
theorem dX6_read_53 : decode cX6_read 53 = .ok (.i2l, 1) := by decide +kernel
theorem dX6_read_54 : decode cX6_read 54 = .ok (.lor, 1) := by decide +kernel
theorem dX6_read_55 : decode cX6_read 55 = .ok (.lstore 5, 2) := by decide +kernel
theorem dX6_read_57 : decode cX6_read 57 = .ok (.iinc 7 1, 3) := by decide +kernel
theorem dX6_read_60 : decode cX6_read 60 = .ok (.goto (-29), 3) := by decide +kernel
theorem dX6_read_63 : decode cX6_read 63 = .ok (.lload 5, 2) := by decide +kernel
theorem dX6_read_65 : decode cX6_read 65 = .ok (.lreturn, 1) := by decide +kernel
theorem dX7_init_0 : decode cX7_init 0 = .ok (.aload_n 0, 1) := by decide +kernel
theorem dX7_init_1 : decode cX7_init 1 = .ok (.invokespecial 3, 3) := by decide +kernel
theorem dX7_init_4 : decode cX7_init 4 = .ok (.aload_n 0, 1) := by decide +kernel
theorem dX7_init_5 : decode cX7_init 5 = .ok (.sipush 4000, 3) := by decide +kernel
theorem dX7_init_8 : decode cX7_init 8 = .ok (.newarray .long, 2) := by decide +kernel
theorem dX7_init_10 : decode cX7_init 10 = .ok (.putfield 11, 3) := by decide +kernel
theorem dX7_init_13 : decode cX7_init 13 = .ok (.return_, 1) := by decide +kernel
theorem dX7_takeTape_0 : decode cX7_takeTape 0 = .ok (.aload_n 1, 1) := by decide +kernel
theorem dX7_takeTape_1 : decode cX7_takeTape 1 = .ok (.getfield 15, 3) := by decide +kernel
theorem dX7_takeTape_4 : decode cX7_takeTape 4 = .ok (.ifCond .eq 13, 3) := by decide +kernel
theorem dX7_takeTape_7 : decode cX7_takeTape 7 = .ok (.aload_n 1, 1) := by decide +kernel
theorem dX7_takeTape_8 : decode cX7_takeTape 8 = .ok (.getfield 15, 3) := by decide +kernel
theorem dX7_takeTape_11 : decode cX7_takeTape 11 = .ok (.bipush 8, 2) := by decide +kernel
theorem dX7_takeTape_13 : decode cX7_takeTape 13 = .ok (.irem, 1) := by decide +kernel
theorem dX7_takeTape_14 : decode cX7_takeTape 14 = .ok (.ifCond .eq 5, 3) := by decide +kernel
theorem dX7_takeTape_17 : decode cX7_takeTape 17 = .ok (.iconst (-1), 1) := by decide +kernel
theorem dX7_takeTape_18 : decode cX7_takeTape 18 = .ok (.ireturn, 1) := by decide +kernel
theorem dX7_takeTape_19 : decode cX7_takeTape 19 = .ok (.aload_n 0, 1) := by decide +kernel
theorem dX7_takeTape_20 : decode cX7_takeTape 20 = .ok (.aload_n 1, 1) := by decide +kernel
theorem dX7_takeTape_21 : decode cX7_takeTape 21 = .ok (.getfield 15, 3) := by decide +kernel
theorem dX7_takeTape_24 : decode cX7_takeTape 24 = .ok (.bipush 8, 2) := by decide +kernel
theorem dX7_takeTape_26 : decode cX7_takeTape 26 = .ok (.idiv, 1) := by decide +kernel
theorem dX7_takeTape_27 : decode cX7_takeTape 27 = .ok (.putfield 21, 3) := by decide +kernel
theorem dX7_takeTape_30 : decode cX7_takeTape 30 = .ok (.iconst 0, 1) := by decide +kernel
theorem dX7_takeTape_31 : decode cX7_takeTape 31 = .ok (.istore_n 2, 1) := by decide +kernel
theorem dX7_takeTape_32 : decode cX7_takeTape 32 = .ok (.iload_n 2, 1) := by decide +kernel
theorem dX7_takeTape_33 : decode cX7_takeTape 33 = .ok (.aload_n 0, 1) := by decide +kernel
theorem dX7_takeTape_34 : decode cX7_takeTape 34 = .ok (.getfield 21, 3) := by decide +kernel
theorem dX7_takeTape_37 : decode cX7_takeTape 37 = .ok (.if_icmp .ge 25, 3) := by decide +kernel
theorem dX7_takeTape_40 : decode cX7_takeTape 40 = .ok (.aload_n 0, 1) := by decide +kernel
theorem dX7_takeTape_41 : decode cX7_takeTape 41 = .ok (.getfield 11, 3) := by decide +kernel
theorem dX7_takeTape_44 : decode cX7_takeTape 44 = .ok (.iload_n 2, 1) := by decide +kernel
theorem dX7_takeTape_45 : decode cX7_takeTape 45 = .ok (.aload_n 1, 1) := by decide +kernel
theorem dX7_takeTape_46 : decode cX7_takeTape 46 = .ok (.bipush 8, 2) := by decide +kernel
theorem dX7_takeTape_48 : decode cX7_takeTape 48 = .ok (.iload_n 2, 1) := by decide +kernel
theorem dX7_takeTape_49 : decode cX7_takeTape 49 = .ok (.imul, 1) := by decide +kernel
theorem dX7_takeTape_50 : decode cX7_takeTape 50 = .ok (.bipush 8, 2) := by decide +kernel
theorem dX7_takeTape_52 : decode cX7_takeTape 52 = .ok (.invokevirtual 22, 3) := by decide +kernel
theorem dX7_takeTape_55 : decode cX7_takeTape 55 = .ok (.lastore, 1) := by decide +kernel
theorem dX7_takeTape_56 : decode cX7_takeTape 56 = .ok (.iinc 2 1, 3) := by decide +kernel
theorem dX7_takeTape_59 : decode cX7_takeTape 59 = .ok (.goto (-27), 3) := by decide +kernel
theorem dX7_takeTape_62 : decode cX7_takeTape 62 = .ok (.aload_n 0, 1) := by decide +kernel
theorem dX7_takeTape_63 : decode cX7_takeTape 63 = .ok (.getfield 21, 3) := by decide +kernel
theorem dX7_takeTape_66 : decode cX7_takeTape 66 = .ok (.ireturn, 1) := by decide +kernel
theorem dX7_at_0 : decode cX7_at 0 = .ok (.iload_n 1, 1) := by decide +kernel
theorem dX7_at_1 : decode cX7_at 1 = .ok (.ifCond .lt 11, 3) := by decide +kernel
theorem dX7_at_4 : decode cX7_at 4 = .ok (.iload_n 1, 1) := by decide +kernel
theorem dX7_at_5 : decode cX7_at 5 = .ok (.aload_n 0, 1) := by decide +kernel
theorem dX7_at_6 : decode cX7_at 6 = .ok (.getfield 21, 3) := by decide +kernel
theorem dX7_at_9 : decode cX7_at 9 = .ok (.if_icmp .lt 7, 3) := by decide +kernel
theorem dX7_at_12 : decode cX7_at 12 = .ok (.lconst 0, 1) := by decide +kernel
theorem dX7_at_13 : decode cX7_at 13 = .ok (.goto 9, 3) := by decide +kernel
theorem dX7_at_16 : decode cX7_at 16 = .ok (.aload_n 0, 1) := by decide +kernel
theorem dX7_at_17 : decode cX7_at 17 = .ok (.getfield 11, 3) := by decide +kernel
theorem dX7_at_20 : decode cX7_at 20 = .ok (.iload_n 1, 1) := by decide +kernel
theorem dX7_at_21 : decode cX7_at 21 = .ok (.laload, 1) := by decide +kernel
theorem dX7_at_22 : decode cX7_at 22 = .ok (.lreturn, 1) := by decide +kernel
theorem dX7_codeOf_0 : decode cX7_codeOf 0 = .ok (.lload_n 0, 1) := by decide +kernel
theorem dX7_codeOf_1 : decode cX7_codeOf 1 = .ok (.l2i, 1) := by decide +kernel
theorem dX7_codeOf_2 : decode cX7_codeOf 2 = .ok (.sipush 255, 3) := by decide +kernel
theorem dX7_codeOf_5 : decode cX7_codeOf 5 = .ok (.iand, 1) := by decide +kernel
theorem dX7_codeOf_6 : decode cX7_codeOf 6 = .ok (.ireturn, 1) := by decide +kernel
theorem dX7_dOf_0 : decode cX7_dOf 0 = .ok (.lload_n 0, 1) := by decide +kernel
theorem dX7_dOf_1 : decode cX7_dOf 1 = .ok (.l2i, 1) := by decide +kernel
theorem dX7_dOf_2 : decode cX7_dOf 2 = .ok (.bipush 8, 2) := by decide +kernel
theorem dX7_dOf_4 : decode cX7_dOf 4 = .ok (.ishr, 1) := by decide +kernel
theorem dX7_dOf_5 : decode cX7_dOf 5 = .ok (.bipush 15, 2) := by decide +kernel
theorem dX7_dOf_7 : decode cX7_dOf 7 = .ok (.iand, 1) := by decide +kernel
theorem dX7_dOf_8 : decode cX7_dOf 8 = .ok (.ireturn, 1) := by decide +kernel
theorem dX7_sOf_0 : decode cX7_sOf 0 = .ok (.lload_n 0, 1) := by decide +kernel
theorem dX7_sOf_1 : decode cX7_sOf 1 = .ok (.l2i, 1) := by decide +kernel
theorem dX7_sOf_2 : decode cX7_sOf 2 = .ok (.bipush 12, 2) := by decide +kernel
theorem dX7_sOf_4 : decode cX7_sOf 4 = .ok (.ishr, 1) := by decide +kernel
theorem dX7_sOf_5 : decode cX7_sOf 5 = .ok (.bipush 15, 2) := by decide +kernel
theorem dX7_sOf_7 : decode cX7_sOf 7 = .ok (.iand, 1) := by decide +kernel
theorem dX7_sOf_8 : decode cX7_sOf 8 = .ok (.ireturn, 1) := by decide +kernel
theorem dX7_offOf_0 : decode cX7_offOf 0 = .ok (.lload_n 0, 1) := by decide +kernel
theorem dX7_offOf_1 : decode cX7_offOf 1 = .ok (.bipush 16, 2) := by decide +kernel
theorem dX7_offOf_3 : decode cX7_offOf 3 = .ok (.lshr, 1) := by decide +kernel
theorem dX7_offOf_4 : decode cX7_offOf 4 = .ok (.l2i, 1) := by decide +kernel
theorem dX7_offOf_5 : decode cX7_offOf 5 = .ok (.i2s, 1) := by decide +kernel
theorem dX7_offOf_6 : decode cX7_offOf 6 = .ok (.ireturn, 1) := by decide +kernel
theorem dX7_kOf_0 : decode cX7_kOf 0 = .ok (.lload_n 0, 1) := by decide +kernel
theorem dX7_kOf_1 : decode cX7_kOf 1 = .ok (.bipush 32, 2) := by decide +kernel
theorem dX7_kOf_3 : decode cX7_kOf 3 = .ok (.lshr, 1) := by decide +kernel
theorem dX7_kOf_4 : decode cX7_kOf 4 = .ok (.l2i, 1) := by decide +kernel
theorem dX7_kOf_5 : decode cX7_kOf 5 = .ok (.ireturn, 1) := by decide +kernel
theorem dX7_isWide_0 : decode cX7_isWide 0 = .ok (.iload_n 0, 1) := by decide +kernel
theorem dX7_isWide_1 : decode cX7_isWide 1 = .ok (.bipush 7, 2) := by decide +kernel
theorem dX7_isWide_3 : decode cX7_isWide 3 = .ok (.iand, 1) := by decide +kernel
theorem dX7_isWide_4 : decode cX7_isWide 4 = .ok (.bipush 7, 2) := by decide +kernel
theorem dX7_isWide_6 : decode cX7_isWide 6 = .ok (.if_icmp .eq 11, 3) := by decide +kernel
theorem dX7_isWide_9 : decode cX7_isWide 9 = .ok (.iload_n 0, 1) := by decide +kernel
theorem dX7_isWide_10 : decode cX7_isWide 10 = .ok (.bipush 7, 2) := by decide +kernel
theorem dX7_isWide_12 : decode cX7_isWide 12 = .ok (.iand, 1) := by decide +kernel
theorem dX7_isWide_13 : decode cX7_isWide 13 = .ok (.iconst 5, 1) := by decide +kernel
theorem dX7_isWide_14 : decode cX7_isWide 14 = .ok (.if_icmp .ne 7, 3) := by decide +kernel
theorem dX7_isWide_17 : decode cX7_isWide 17 = .ok (.iconst 1, 1) := by decide +kernel
theorem dX7_isWide_18 : decode cX7_isWide 18 = .ok (.goto 4, 3) := by decide +kernel
theorem dX7_isWide_21 : decode cX7_isWide 21 = .ok (.iconst 0, 1) := by decide +kernel
theorem dX7_isWide_22 : decode cX7_isWide 22 = .ok (.ireturn, 1) := by decide +kernel
theorem dX7_isOp_0 : decode cX7_isOp 0 = .ok (.iload_n 0, 1) := by decide +kernel
theorem dX7_isOp_1 : decode cX7_isOp 1 = .ok (.bipush 7, 2) := by decide +kernel
theorem dX7_isOp_3 : decode cX7_isOp 3 = .ok (.iand, 1) := by decide +kernel
theorem dX7_isOp_4 : decode cX7_isOp 4 = .ok (.bipush 7, 2) := by decide +kernel
theorem dX7_isOp_6 : decode cX7_isOp 6 = .ok (.if_icmp .eq 11, 3) := by decide +kernel
theorem dX7_isOp_9 : decode cX7_isOp 9 = .ok (.iload_n 0, 1) := by decide +kernel
theorem dX7_isOp_10 : decode cX7_isOp 10 = .ok (.bipush 7, 2) := by decide +kernel
theorem dX7_isOp_12 : decode cX7_isOp 12 = .ok (.iand, 1) := by decide +kernel
theorem dX7_isOp_13 : decode cX7_isOp 13 = .ok (.iconst 4, 1) := by decide +kernel
theorem dX7_isOp_14 : decode cX7_isOp 14 = .ok (.if_icmp .ne 7, 3) := by decide +kernel
theorem dX7_isOp_17 : decode cX7_isOp 17 = .ok (.iconst 1, 1) := by decide +kernel
theorem dX7_isOp_18 : decode cX7_isOp 18 = .ok (.goto 4, 3) := by decide +kernel
theorem dX7_isOp_21 : decode cX7_isOp 21 = .ok (.iconst 0, 1) := by decide +kernel
theorem dX7_isOp_22 : decode cX7_isOp 22 = .ok (.ireturn, 1) := by decide +kernel
theorem dX7_isJump_0 : decode cX7_isJump 0 = .ok (.iload_n 0, 1) := by decide +kernel
theorem dX7_isJump_1 : decode cX7_isJump 1 = .ok (.bipush 7, 2) := by decide +kernel
theorem dX7_isJump_3 : decode cX7_isJump 3 = .ok (.iand, 1) := by decide +kernel
theorem dX7_isJump_4 : decode cX7_isJump 4 = .ok (.iconst 5, 1) := by decide +kernel
theorem dX7_isJump_5 : decode cX7_isJump 5 = .ok (.if_icmp .eq 12, 3) := by decide +kernel
theorem dX7_isJump_8 : decode cX7_isJump 8 = .ok (.iload_n 0, 1) := by decide +kernel
theorem dX7_isJump_9 : decode cX7_isJump 9 = .ok (.bipush 7, 2) := by decide +kernel
theorem dX7_isJump_11 : decode cX7_isJump 11 = .ok (.iand, 1) := by decide +kernel
theorem dX7_isJump_12 : decode cX7_isJump 12 = .ok (.bipush 6, 2) := by decide +kernel
theorem dX7_isJump_14 : decode cX7_isJump 14 = .ok (.if_icmp .ne 7, 3) := by decide +kernel
theorem dX7_isJump_17 : decode cX7_isJump 17 = .ok (.iconst 1, 1) := by decide +kernel
theorem dX7_isJump_18 : decode cX7_isJump 18 = .ok (.goto 4, 3) := by decide +kernel
theorem dX7_isJump_21 : decode cX7_isJump 21 = .ok (.iconst 0, 1) := by decide +kernel
theorem dX7_isJump_22 : decode cX7_isJump 22 = .ok (.ireturn, 1) := by decide +kernel
theorem dX7_hasS_0 : decode cX7_hasS 0 = .ok (.iload_n 0, 1) := by decide +kernel
theorem dX7_hasS_1 : decode cX7_hasS 1 = .ok (.bipush 8, 2) := by decide +kernel
theorem dX7_hasS_3 : decode cX7_hasS 3 = .ok (.iand, 1) := by decide +kernel
theorem dX7_hasS_4 : decode cX7_hasS 4 = .ok (.ifCond .eq 7, 3) := by decide +kernel
theorem dX7_hasS_7 : decode cX7_hasS 7 = .ok (.iconst 1, 1) := by decide +kernel
theorem dX7_hasS_8 : decode cX7_hasS 8 = .ok (.goto 4, 3) := by decide +kernel
theorem dX7_hasS_11 : decode cX7_hasS 11 = .ok (.iconst 0, 1) := by decide +kernel
theorem dX7_hasS_12 : decode cX7_hasS 12 = .ok (.ireturn, 1) := by decide +kernel
theorem dX7_isLoad_0 : decode cX7_isLoad 0 = .ok (.iload_n 0, 1) := by decide +kernel
theorem dX7_isLoad_1 : decode cX7_isLoad 1 = .ok (.bipush 97, 2) := by decide +kernel
theorem dX7_isLoad_3 : decode cX7_isLoad 3 = .ok (.if_icmp .eq 21, 3) := by decide +kernel
theorem dX7_isLoad_6 : decode cX7_isLoad 6 = .ok (.iload_n 0, 1) := by decide +kernel
theorem dX7_isLoad_7 : decode cX7_isLoad 7 = .ok (.bipush 105, 2) := by decide +kernel
theorem dX7_isLoad_9 : decode cX7_isLoad 9 = .ok (.if_icmp .eq 15, 3) := by decide +kernel
theorem dX7_isLoad_12 : decode cX7_isLoad 12 = .ok (.iload_n 0, 1) := by decide +kernel
theorem dX7_isLoad_13 : decode cX7_isLoad 13 = .ok (.bipush 113, 2) := by decide +kernel
theorem dX7_isLoad_15 : decode cX7_isLoad 15 = .ok (.if_icmp .eq 9, 3) := by decide +kernel
theorem dX7_isLoad_18 : decode cX7_isLoad 18 = .ok (.iload_n 0, 1) := by decide +kernel
theorem dX7_isLoad_19 : decode cX7_isLoad 19 = .ok (.bipush 121, 2) := by decide +kernel
theorem dX7_isLoad_21 : decode cX7_isLoad 21 = .ok (.if_icmp .ne 7, 3) := by decide +kernel
theorem dX7_isLoad_24 : decode cX7_isLoad 24 = .ok (.iconst 1, 1) := by decide +kernel
theorem dX7_isLoad_25 : decode cX7_isLoad 25 = .ok (.goto 4, 3) := by decide +kernel
theorem dX7_isLoad_28 : decode cX7_isLoad 28 = .ok (.iconst 0, 1) := by decide +kernel
theorem dX7_isLoad_29 : decode cX7_isLoad 29 = .ok (.ireturn, 1) := by decide +kernel
theorem dX7_isStore_0 : decode cX7_isStore 0 = .ok (.iload_n 0, 1) := by decide +kernel
theorem dX7_isStore_1 : decode cX7_isStore 1 = .ok (.bipush 98, 2) := by decide +kernel
theorem dX7_isStore_3 : decode cX7_isStore 3 = .ok (.if_icmp .eq 45, 3) := by decide +kernel
theorem dX7_isStore_6 : decode cX7_isStore 6 = .ok (.iload_n 0, 1) := by decide +kernel
theorem dX7_isStore_7 : decode cX7_isStore 7 = .ok (.bipush 99, 2) := by decide +kernel
theorem dX7_isStore_9 : decode cX7_isStore 9 = .ok (.if_icmp .eq 39, 3) := by decide +kernel
theorem dX7_isStore_12 : decode cX7_isStore 12 = .ok (.iload_n 0, 1) := by decide +kernel
theorem dX7_isStore_13 : decode cX7_isStore 13 = .ok (.bipush 106, 2) := by decide +kernel
theorem dX7_isStore_15 : decode cX7_isStore 15 = .ok (.if_icmp .eq 33, 3) := by decide +kernel
theorem dX7_isStore_18 : decode cX7_isStore 18 = .ok (.iload_n 0, 1) := by decide +kernel
theorem dX7_isStore_19 : decode cX7_isStore 19 = .ok (.bipush 107, 2) := by decide +kernel
theorem dX7_isStore_21 : decode cX7_isStore 21 = .ok (.if_icmp .eq 27, 3) := by decide +kernel
theorem dX7_isStore_24 : decode cX7_isStore 24 = .ok (.iload_n 0, 1) := by decide +kernel
theorem dX7_isStore_25 : decode cX7_isStore 25 = .ok (.bipush 114, 2) := by decide +kernel
theorem dX7_isStore_27 : decode cX7_isStore 27 = .ok (.if_icmp .eq 21, 3) := by decide +kernel
theorem dX7_isStore_30 : decode cX7_isStore 30 = .ok (.iload_n 0, 1) := by decide +kernel
theorem dX7_isStore_31 : decode cX7_isStore 31 = .ok (.bipush 115, 2) := by decide +kernel
theorem dX7_isStore_33 : decode cX7_isStore 33 = .ok (.if_icmp .eq 15, 3) := by decide +kernel
theorem dX7_isStore_36 : decode cX7_isStore 36 = .ok (.iload_n 0, 1) := by decide +kernel
theorem dX7_isStore_37 : decode cX7_isStore 37 = .ok (.bipush 122, 2) := by decide +kernel
theorem dX7_isStore_39 : decode cX7_isStore 39 = .ok (.if_icmp .eq 9, 3) := by decide +kernel
theorem dX7_isStore_42 : decode cX7_isStore 42 = .ok (.iload_n 0, 1) := by decide +kernel
theorem dX7_isStore_43 : decode cX7_isStore 43 = .ok (.bipush 123, 2) := by decide +kernel
theorem dX7_isStore_45 : decode cX7_isStore 45 = .ok (.if_icmp .ne 7, 3) := by decide +kernel
theorem dX7_isStore_48 : decode cX7_isStore 48 = .ok (.iconst 1, 1) := by decide +kernel
theorem dX7_isStore_49 : decode cX7_isStore 49 = .ok (.goto 4, 3) := by decide +kernel
theorem dX7_isStore_52 : decode cX7_isStore 52 = .ok (.iconst 0, 1) := by decide +kernel
theorem dX7_isStore_53 : decode cX7_isStore 53 = .ok (.ireturn, 1) := by decide +kernel
theorem dX7_isRead_0 : decode cX7_isRead 0 = .ok (.iload_n 0, 1) := by decide +kernel
theorem dX7_isRead_1 : decode cX7_isRead 1 = .ok (.bipush 32, 2) := by decide +kernel
theorem dX7_isRead_3 : decode cX7_isRead 3 = .ok (.if_icmp .eq 33, 3) := by decide +kernel
theorem dX7_isRead_6 : decode cX7_isRead 6 = .ok (.iload_n 0, 1) := by decide +kernel
theorem dX7_isRead_7 : decode cX7_isRead 7 = .ok (.bipush 40, 2) := by decide +kernel
theorem dX7_isRead_9 : decode cX7_isRead 9 = .ok (.if_icmp .eq 27, 3) := by decide +kernel
theorem dX7_isRead_12 : decode cX7_isRead 12 = .ok (.iload_n 0, 1) := by decide +kernel
theorem dX7_isRead_13 : decode cX7_isRead 13 = .ok (.bipush 48, 2) := by decide +kernel
theorem dX7_isRead_15 : decode cX7_isRead 15 = .ok (.if_icmp .eq 21, 3) := by decide +kernel
theorem dX7_isRead_18 : decode cX7_isRead 18 = .ok (.iload_n 0, 1) := by decide +kernel
theorem dX7_isRead_19 : decode cX7_isRead 19 = .ok (.bipush 64, 2) := by decide +kernel
theorem dX7_isRead_21 : decode cX7_isRead 21 = .ok (.if_icmp .eq 15, 3) := by decide +kernel
theorem dX7_isRead_24 : decode cX7_isRead 24 = .ok (.iload_n 0, 1) := by decide +kernel
theorem dX7_isRead_25 : decode cX7_isRead 25 = .ok (.bipush 72, 2) := by decide +kernel
theorem dX7_isRead_27 : decode cX7_isRead 27 = .ok (.if_icmp .eq 9, 3) := by decide +kernel
theorem dX7_isRead_30 : decode cX7_isRead 30 = .ok (.iload_n 0, 1) := by decide +kernel
theorem dX7_isRead_31 : decode cX7_isRead 31 = .ok (.bipush 80, 2) := by decide +kernel
theorem dX7_isRead_33 : decode cX7_isRead 33 = .ok (.if_icmp .ne 7, 3) := by decide +kernel
theorem dX7_isRead_36 : decode cX7_isRead 36 = .ok (.iconst 1, 1) := by decide +kernel
theorem dX7_isRead_37 : decode cX7_isRead 37 = .ok (.goto 4, 3) := by decide +kernel
theorem dX7_isRead_40 : decode cX7_isRead 40 = .ok (.iconst 0, 1) := by decide +kernel
theorem dX7_isRead_41 : decode cX7_isRead 41 = .ok (.ireturn, 1) := by decide +kernel
theorem dX7_sizeOf_0 : decode cX7_sizeOf 0 = .ok (.iload_n 0, 1) := by decide +kernel
theorem dX7_sizeOf_1 : decode cX7_sizeOf 1 = .ok (.iconst 3, 1) := by decide +kernel
theorem dX7_sizeOf_2 : decode cX7_sizeOf 2 = .ok (.ishr, 1) := by decide +kernel
theorem dX7_sizeOf_3 : decode cX7_sizeOf 3 = .ok (.iconst 3, 1) := by decide +kernel
theorem dX7_sizeOf_4 : decode cX7_sizeOf 4 = .ok (.iand, 1) := by decide +kernel
theorem dX7_sizeOf_5 : decode cX7_sizeOf 5 = .ok (.tableswitch 33 0 2 #[27, 29, 31], 27) := by decide +kernel
theorem dX7_sizeOf_32 : decode cX7_sizeOf 32 = .ok (.iconst 4, 1) := by decide +kernel
theorem dX7_sizeOf_33 : decode cX7_sizeOf 33 = .ok (.ireturn, 1) := by decide +kernel
theorem dX7_sizeOf_34 : decode cX7_sizeOf 34 = .ok (.iconst 2, 1) := by decide +kernel
theorem dX7_sizeOf_35 : decode cX7_sizeOf 35 = .ok (.ireturn, 1) := by decide +kernel
theorem dX7_sizeOf_36 : decode cX7_sizeOf 36 = .ok (.iconst 1, 1) := by decide +kernel
theorem dX7_sizeOf_37 : decode cX7_sizeOf 37 = .ok (.ireturn, 1) := by decide +kernel
theorem dX7_sizeOf_38 : decode cX7_sizeOf 38 = .ok (.bipush 8, 2) := by decide +kernel
theorem dX7_sizeOf_40 : decode cX7_sizeOf 40 = .ok (.ireturn, 1) := by decide +kernel
theorem dX7_partsOf_0 : decode cX7_partsOf 0 = .ok (.iload_n 0, 1) := by decide +kernel
theorem dX7_partsOf_1 : decode cX7_partsOf 1 = .ok (.invokestatic 26, 3) := by decide +kernel
theorem dX7_partsOf_4 : decode cX7_partsOf 4 = .ok (.ifCond .eq 8, 3) := by decide +kernel
theorem dX7_partsOf_7 : decode cX7_partsOf 7 = .ok (.iload_n 0, 1) := by decide +kernel
theorem dX7_partsOf_8 : decode cX7_partsOf 8 = .ok (.invokestatic 30, 3) := by decide +kernel
theorem dX7_partsOf_11 : decode cX7_partsOf 11 = .ok (.ireturn, 1) := by decide +kernel
theorem dX7_partsOf_12 : decode cX7_partsOf 12 = .ok (.iload_n 0, 1) := by decide +kernel
theorem dX7_partsOf_13 : decode cX7_partsOf 13 = .ok (.invokestatic 34, 3) := by decide +kernel
theorem dX7_partsOf_16 : decode cX7_partsOf 16 = .ok (.ifCond .eq 8, 3) := by decide +kernel
theorem dX7_partsOf_19 : decode cX7_partsOf 19 = .ok (.iload_n 0, 1) := by decide +kernel
theorem dX7_partsOf_20 : decode cX7_partsOf 20 = .ok (.invokestatic 37, 3) := by decide +kernel
theorem dX7_partsOf_23 : decode cX7_partsOf 23 = .ok (.ireturn, 1) := by decide +kernel
theorem dX7_partsOf_24 : decode cX7_partsOf 24 = .ok (.iload_n 0, 1) := by decide +kernel
theorem dX7_partsOf_25 : decode cX7_partsOf 25 = .ok (.invokestatic 40, 3) := by decide +kernel
theorem dX7_partsOf_28 : decode cX7_partsOf 28 = .ok (.ifCond .eq 6, 3) := by decide +kernel
theorem dX7_partsOf_31 : decode cX7_partsOf 31 = .ok (.bipush 7, 2) := by decide +kernel
theorem dX7_partsOf_33 : decode cX7_partsOf 33 = .ok (.ireturn, 1) := by decide +kernel
theorem dX7_partsOf_34 : decode cX7_partsOf 34 = .ok (.iload_n 0, 1) := by decide +kernel
theorem dX7_partsOf_35 : decode cX7_partsOf 35 = .ok (.invokestatic 43, 3) := by decide +kernel
theorem dX7_partsOf_38 : decode cX7_partsOf 38 = .ok (.ifCond .eq 18, 3) := by decide +kernel
theorem dX7_partsOf_41 : decode cX7_partsOf 41 = .ok (.iconst 5, 1) := by decide +kernel
theorem dX7_partsOf_42 : decode cX7_partsOf 42 = .ok (.iload_n 0, 1) := by decide +kernel
theorem dX7_partsOf_43 : decode cX7_partsOf 43 = .ok (.iconst 1, 1) := by decide +kernel
theorem dX7_partsOf_44 : decode cX7_partsOf 44 = .ok (.iand, 1) := by decide +kernel
theorem dX7_partsOf_45 : decode cX7_partsOf 45 = .ok (.ifCond .eq 7, 3) := by decide +kernel
theorem dX7_partsOf_48 : decode cX7_partsOf 48 = .ok (.iconst 2, 1) := by decide +kernel
theorem dX7_partsOf_49 : decode cX7_partsOf 49 = .ok (.goto 5, 3) := by decide +kernel
theorem dX7_partsOf_52 : decode cX7_partsOf 52 = .ok (.bipush 8, 2) := by decide +kernel
theorem dX7_partsOf_54 : decode cX7_partsOf 54 = .ok (.ior, 1) := by decide +kernel
theorem dX7_partsOf_55 : decode cX7_partsOf 55 = .ok (.ireturn, 1) := by decide +kernel
theorem dX7_partsOf_56 : decode cX7_partsOf 56 = .ok (.iload_n 0, 1) := by decide +kernel
theorem dX7_partsOf_57 : decode cX7_partsOf 57 = .ok (.invokestatic 46, 3) := by decide +kernel
theorem dX7_partsOf_60 : decode cX7_partsOf 60 = .ok (.ifCond .eq 17, 3) := by decide +kernel
theorem dX7_partsOf_63 : decode cX7_partsOf 63 = .ok (.iload_n 0, 1) := by decide +kernel
theorem dX7_partsOf_64 : decode cX7_partsOf 64 = .ok (.bipush 64, 2) := by decide +kernel
theorem dX7_partsOf_66 : decode cX7_partsOf 66 = .ok (.if_icmp .ge 8, 3) := by decide +kernel
theorem dX7_partsOf_69 : decode cX7_partsOf 69 = .ok (.bipush 8, 2) := by decide +kernel
theorem dX7_partsOf_71 : decode cX7_partsOf 71 = .ok (.goto 5, 3) := by decide +kernel
theorem dX7_partsOf_74 : decode cX7_partsOf 74 = .ok (.bipush 10, 2) := by decide +kernel
theorem dX7_partsOf_76 : decode cX7_partsOf 76 = .ok (.ireturn, 1) := by decide +kernel
theorem dX7_partsOf_77 : decode cX7_partsOf 77 = .ok (.iconst (-1), 1) := by decide +kernel
theorem dX7_partsOf_78 : decode cX7_partsOf 78 = .ok (.ireturn, 1) := by decide +kernel
theorem dX7_partsOfOp_0 : decode cX7_partsOfOp 0 = .ok (.iload_n 0, 1) := by decide +kernel
theorem dX7_partsOfOp_1 : decode cX7_partsOfOp 1 = .ok (.iconst 4, 1) := by decide +kernel
theorem dX7_partsOfOp_2 : decode cX7_partsOfOp 2 = .ok (.ishr, 1) := by decide +kernel
theorem dX7_partsOfOp_3 : decode cX7_partsOfOp 3 = .ok (.istore_n 1, 1) := by decide +kernel
theorem dX7_partsOfOp_4 : decode cX7_partsOfOp 4 = .ok (.iload_n 1, 1) := by decide +kernel
theorem dX7_partsOfOp_5 : decode cX7_partsOfOp 5 = .ok (.bipush 12, 2) := by decide +kernel
theorem dX7_partsOfOp_7 : decode cX7_partsOfOp 7 = .ok (.if_icmp .gt 16, 3) := by decide +kernel
theorem dX7_partsOfOp_10 : decode cX7_partsOfOp 10 = .ok (.iload_n 1, 1) := by decide +kernel
theorem dX7_partsOfOp_11 : decode cX7_partsOfOp 11 = .ok (.bipush 8, 2) := by decide +kernel
theorem dX7_partsOfOp_13 : decode cX7_partsOfOp 13 = .ok (.if_icmp .ne 12, 3) := by decide +kernel
theorem dX7_partsOfOp_16 : decode cX7_partsOfOp 16 = .ok (.iload_n 0, 1) := by decide +kernel
theorem dX7_partsOfOp_17 : decode cX7_partsOfOp 17 = .ok (.invokestatic 49, 3) := by decide +kernel
theorem dX7_partsOfOp_20 : decode cX7_partsOfOp 20 = .ok (.ifCond .eq 5, 3) := by decide +kernel
theorem dX7_partsOfOp_23 : decode cX7_partsOfOp 23 = .ok (.iconst (-1), 1) := by decide +kernel
theorem dX7_partsOfOp_24 : decode cX7_partsOfOp 24 = .ok (.ireturn, 1) := by decide +kernel
theorem dX7_partsOfOp_25 : decode cX7_partsOfOp 25 = .ok (.iload_n 1, 1) := by decide +kernel
theorem dX7_partsOfOp_26 : decode cX7_partsOfOp 26 = .ok (.bipush 8, 2) := by decide +kernel
theorem dX7_partsOfOp_28 : decode cX7_partsOfOp 28 = .ok (.if_icmp .ne 7, 3) := by decide +kernel
theorem dX7_partsOfOp_31 : decode cX7_partsOfOp 31 = .ok (.iconst 1, 1) := by decide +kernel
theorem dX7_partsOfOp_32 : decode cX7_partsOfOp 32 = .ok (.goto 16, 3) := by decide +kernel
theorem dX7_partsOfOp_35 : decode cX7_partsOfOp 35 = .ok (.iload_n 0, 1) := by decide +kernel
theorem dX7_partsOfOp_36 : decode cX7_partsOfOp 36 = .ok (.invokestatic 49, 3) := by decide +kernel
theorem dX7_partsOfOp_39 : decode cX7_partsOfOp 39 = .ok (.ifCond .eq 7, 3) := by decide +kernel
theorem dX7_partsOfOp_42 : decode cX7_partsOfOp 42 = .ok (.iconst 3, 1) := by decide +kernel
theorem dX7_partsOfOp_43 : decode cX7_partsOfOp 43 = .ok (.goto 5, 3) := by decide +kernel
theorem dX7_partsOfOp_46 : decode cX7_partsOfOp 46 = .ok (.bipush 9, 2) := by decide +kernel
theorem dX7_partsOfOp_48 : decode cX7_partsOfOp 48 = .ok (.ireturn, 1) := by decide +kernel
theorem dX7_partsOfJump_0 : decode cX7_partsOfJump 0 = .ok (.iload_n 0, 1) := by decide +kernel
theorem dX7_partsOfJump_1 : decode cX7_partsOfJump 1 = .ok (.iconst 4, 1) := by decide +kernel
theorem dX7_partsOfJump_2 : decode cX7_partsOfJump 2 = .ok (.ishr, 1) := by decide +kernel
theorem dX7_partsOfJump_3 : decode cX7_partsOfJump 3 = .ok (.istore_n 1, 1) := by decide +kernel
theorem dX7_partsOfJump_4 : decode cX7_partsOfJump 4 = .ok (.iload_n 0, 1) := by decide +kernel
theorem dX7_partsOfJump_5 : decode cX7_partsOfJump 5 = .ok (.sipush 149, 3) := by decide +kernel
theorem dX7_partsOfJump_8 : decode cX7_partsOfJump 8 = .ok (.if_icmp .ne 5, 3) := by decide +kernel
theorem dX7_partsOfJump_11 : decode cX7_partsOfJump 11 = .ok (.iconst 0, 1) := by decide +kernel
theorem dX7_partsOfJump_12 : decode cX7_partsOfJump 12 = .ok (.ireturn, 1) := by decide +kernel
theorem dX7_partsOfJump_13 : decode cX7_partsOfJump 13 = .ok (.iload_n 1, 1) := by decide +kernel
theorem dX7_partsOfJump_14 : decode cX7_partsOfJump 14 = .ok (.ifCond .ne 14, 3) := by decide +kernel
theorem dX7_partsOfJump_17 : decode cX7_partsOfJump 17 = .ok (.iload_n 0, 1) := by decide +kernel
theorem dX7_partsOfJump_18 : decode cX7_partsOfJump 18 = .ok (.iconst 5, 1) := by decide +kernel
theorem dX7_partsOfJump_19 : decode cX7_partsOfJump 19 = .ok (.if_icmp .ne 7, 3) := by decide +kernel
theorem dX7_partsOfJump_22 : decode cX7_partsOfJump 22 = .ok (.iconst 4, 1) := by decide +kernel
theorem dX7_partsOfJump_23 : decode cX7_partsOfJump 23 = .ok (.goto 4, 3) := by decide +kernel
theorem dX7_partsOfJump_26 : decode cX7_partsOfJump 26 = .ok (.iconst (-1), 1) := by decide +kernel
theorem dX7_partsOfJump_27 : decode cX7_partsOfJump 27 = .ok (.ireturn, 1) := by decide +kernel
theorem dX7_partsOfJump_28 : decode cX7_partsOfJump 28 = .ok (.iload_n 1, 1) := by decide +kernel
theorem dX7_partsOfJump_29 : decode cX7_partsOfJump 29 = .ok (.bipush 8, 2) := by decide +kernel
theorem dX7_partsOfJump_31 : decode cX7_partsOfJump 31 = .ok (.if_icmp .eq 15, 3) := by decide +kernel
theorem dX7_partsOfJump_34 : decode cX7_partsOfJump 34 = .ok (.iload_n 1, 1) := by decide +kernel
theorem dX7_partsOfJump_35 : decode cX7_partsOfJump 35 = .ok (.bipush 9, 2) := by decide +kernel
theorem dX7_partsOfJump_37 : decode cX7_partsOfJump 37 = .ok (.if_icmp .eq 9, 3) := by decide +kernel
theorem dX7_partsOfJump_40 : decode cX7_partsOfJump 40 = .ok (.iload_n 1, 1) := by decide +kernel
theorem dX7_partsOfJump_41 : decode cX7_partsOfJump 41 = .ok (.bipush 13, 2) := by decide +kernel
theorem dX7_partsOfJump_43 : decode cX7_partsOfJump 43 = .ok (.if_icmp .le 5, 3) := by decide +kernel
theorem dX7_partsOfJump_46 : decode cX7_partsOfJump 46 = .ok (.iconst (-1), 1) := by decide +kernel
theorem dX7_partsOfJump_47 : decode cX7_partsOfJump 47 = .ok (.ireturn, 1) := by decide +kernel
theorem dX7_partsOfJump_48 : decode cX7_partsOfJump 48 = .ok (.iconst 5, 1) := by decide +kernel
theorem dX7_partsOfJump_49 : decode cX7_partsOfJump 49 = .ok (.iload_n 0, 1) := by decide +kernel
theorem dX7_partsOfJump_50 : decode cX7_partsOfJump 50 = .ok (.invokestatic 49, 3) := by decide +kernel
theorem dX7_partsOfJump_53 : decode cX7_partsOfJump 53 = .ok (.ifCond .eq 7, 3) := by decide +kernel
theorem dX7_partsOfJump_56 : decode cX7_partsOfJump 56 = .ok (.iconst 2, 1) := by decide +kernel
theorem dX7_partsOfJump_57 : decode cX7_partsOfJump 57 = .ok (.goto 5, 3) := by decide +kernel
theorem dX7_partsOfJump_60 : decode cX7_partsOfJump 60 = .ok (.bipush 8, 2) := by decide +kernel
theorem dX7_partsOfJump_62 : decode cX7_partsOfJump 62 = .ok (.ior, 1) := by decide +kernel
theorem dX7_partsOfJump_63 : decode cX7_partsOfJump 63 = .ok (.ireturn, 1) := by decide +kernel
theorem dX7_exists_0 : decode cX7_exists 0 = .ok (.lload_n 0, 1) := by decide +kernel
theorem dX7_exists_1 : decode cX7_exists 1 = .ok (.invokestatic 52, 3) := by decide +kernel
theorem dX7_exists_4 : decode cX7_exists 4 = .ok (.invokestatic 56, 3) := by decide +kernel
theorem dX7_exists_7 : decode cX7_exists 7 = .ok (.istore_n 2, 1) := by decide +kernel
theorem dX7_exists_8 : decode cX7_exists 8 = .ok (.lload_n 0, 1) := by decide +kernel
theorem dX7_exists_9 : decode cX7_exists 9 = .ok (.invokestatic 59, 3) := by decide +kernel
theorem dX7_exists_12 : decode cX7_exists 12 = .ok (.istore_n 3, 1) := by decide +kernel
theorem dX7_exists_13 : decode cX7_exists 13 = .ok (.lload_n 0, 1) := by decide +kernel
theorem dX7_exists_14 : decode cX7_exists 14 = .ok (.invokestatic 62, 3) := by decide +kernel
theorem dX7_exists_17 : decode cX7_exists 17 = .ok (.istore 4, 2) := by decide +kernel
theorem dX7_exists_19 : decode cX7_exists 19 = .ok (.iload_n 2, 1) := by decide +kernel
theorem dX7_exists_20 : decode cX7_exists 20 = .ok (.ifCond .lt 68, 3) := by decide +kernel
theorem dX7_exists_23 : decode cX7_exists 23 = .ok (.iload_n 3, 1) := by decide +kernel
theorem dX7_exists_24 : decode cX7_exists 24 = .ok (.bipush 10, 2) := by decide +kernel
theorem dX7_exists_26 : decode cX7_exists 26 = .ok (.if_icmp .gt 62, 3) := by decide +kernel
theorem dX7_exists_29 : decode cX7_exists 29 = .ok (.iload 4, 2) := by decide +kernel
theorem dX7_exists_31 : decode cX7_exists 31 = .ok (.bipush 10, 2) := by decide +kernel
theorem dX7_exists_33 : decode cX7_exists 33 = .ok (.if_icmp .gt 55, 3) := by decide +kernel
theorem dX7_exists_36 : decode cX7_exists 36 = .ok (.iload_n 2, 1) := by decide +kernel
theorem dX7_exists_37 : decode cX7_exists 37 = .ok (.iconst 1, 1) := by decide +kernel
theorem dX7_exists_38 : decode cX7_exists 38 = .ok (.iand, 1) := by decide +kernel
theorem dX7_exists_39 : decode cX7_exists 39 = .ok (.ifCond .ne 7, 3) := by decide +kernel
theorem dX7_exists_42 : decode cX7_exists 42 = .ok (.iload_n 3, 1) := by decide +kernel
theorem dX7_exists_43 : decode cX7_exists 43 = .ok (.ifCond .ne 45, 3) := by decide +kernel
theorem dX7_exists_46 : decode cX7_exists 46 = .ok (.iload_n 2, 1) := by decide +kernel
theorem dX7_exists_47 : decode cX7_exists 47 = .ok (.iconst 2, 1) := by decide +kernel
theorem dX7_exists_48 : decode cX7_exists 48 = .ok (.iand, 1) := by decide +kernel
theorem dX7_exists_49 : decode cX7_exists 49 = .ok (.ifCond .ne 8, 3) := by decide +kernel
theorem dX7_exists_52 : decode cX7_exists 52 = .ok (.iload 4, 2) := by decide +kernel
theorem dX7_exists_54 : decode cX7_exists 54 = .ok (.ifCond .ne 34, 3) := by decide +kernel
theorem dX7_exists_57 : decode cX7_exists 57 = .ok (.iload_n 2, 1) := by decide +kernel
theorem dX7_exists_58 : decode cX7_exists 58 = .ok (.iconst 4, 1) := by decide +kernel
theorem dX7_exists_59 : decode cX7_exists 59 = .ok (.iand, 1) := by decide +kernel
theorem dX7_exists_60 : decode cX7_exists 60 = .ok (.ifCond .ne 10, 3) := by decide +kernel
theorem dX7_exists_63 : decode cX7_exists 63 = .ok (.lload_n 0, 1) := by decide +kernel
theorem dX7_exists_64 : decode cX7_exists 64 = .ok (.invokestatic 65, 3) := by decide +kernel
theorem dX7_exists_67 : decode cX7_exists 67 = .ok (.ifCond .ne 21, 3) := by decide +kernel
theorem dX7_exists_70 : decode cX7_exists 70 = .ok (.iload_n 2, 1) := by decide +kernel
theorem dX7_exists_71 : decode cX7_exists 71 = .ok (.bipush 8, 2) := by decide +kernel
theorem dX7_exists_73 : decode cX7_exists 73 = .ok (.iand, 1) := by decide +kernel
theorem dX7_exists_74 : decode cX7_exists 74 = .ok (.ifCond .ne 10, 3) := by decide +kernel
theorem dX7_exists_77 : decode cX7_exists 77 = .ok (.lload_n 0, 1) := by decide +kernel
theorem dX7_exists_78 : decode cX7_exists 78 = .ok (.invokestatic 68, 3) := by decide +kernel
theorem dX7_exists_81 : decode cX7_exists 81 = .ok (.ifCond .ne 7, 3) := by decide +kernel
theorem dX7_exists_84 : decode cX7_exists 84 = .ok (.iconst 1, 1) := by decide +kernel
theorem dX7_exists_85 : decode cX7_exists 85 = .ok (.goto 4, 3) := by decide +kernel
theorem dX7_exists_88 : decode cX7_exists 88 = .ok (.iconst 0, 1) := by decide +kernel
theorem dX7_exists_89 : decode cX7_exists 89 = .ok (.ireturn, 1) := by decide +kernel
theorem dX7_perform_0 : decode cX7_perform 0 = .ok (.aload_n 1, 1) := by decide +kernel
theorem dX7_perform_1 : decode cX7_perform 1 = .ok (.bipush 11, 2) := by decide +kernel
theorem dX7_perform_3 : decode cX7_perform 3 = .ok (.iload_n 2, 1) := by decide +kernel
theorem dX7_perform_4 : decode cX7_perform 4 = .ok (.invokevirtual 71, 3) := by decide +kernel
theorem dX7_perform_7 : decode cX7_perform 7 = .ok (.aload_n 1, 1) := by decide +kernel
theorem dX7_perform_8 : decode cX7_perform 8 = .ok (.iconst 1, 1) := by decide +kernel
theorem dX7_perform_9 : decode cX7_perform 9 = .ok (.iload_n 3, 1) := by decide +kernel
theorem dX7_perform_10 : decode cX7_perform 10 = .ok (.i2l, 1) := by decide +kernel
theorem dX7_perform_11 : decode cX7_perform 11 = .ok (.invokevirtual 77, 3) := by decide +kernel
theorem dX7_perform_14 : decode cX7_perform 14 = .ok (.aload_n 1, 1) := by decide +kernel
theorem dX7_perform_15 : decode cX7_perform 15 = .ok (.bipush 10, 2) := by decide +kernel
theorem dX7_perform_17 : decode cX7_perform 17 = .ok (.ldc2_w 81, 3) := by decide +kernel
theorem dX7_perform_20 : decode cX7_perform 20 = .ok (.invokevirtual 77, 3) := by decide +kernel
theorem dX7_perform_23 : decode cX7_perform 23 = .ok (.iconst 0, 1) := by decide +kernel
theorem dX7_perform_24 : decode cX7_perform 24 = .ok (.istore 4, 2) := by decide +kernel
theorem dX7_perform_26 : decode cX7_perform 26 = .ok (.aload_n 1, 1) := by decide +kernel
theorem dX7_perform_27 : decode cX7_perform 27 = .ok (.getfield 83, 3) := by decide +kernel
theorem dX7_perform_30 : decode cX7_perform 30 = .ok (.ifCond .ne 47, 3) := by decide +kernel
theorem dX7_perform_33 : decode cX7_perform 33 = .ok (.iload 4, 2) := by decide +kernel
theorem dX7_perform_35 : decode cX7_perform 35 = .ok (.sipush 10000, 3) := by decide +kernel
theorem dX7_perform_38 : decode cX7_perform 38 = .ok (.if_icmp .gt 39, 3) := by decide +kernel
theorem dX7_perform_41 : decode cX7_perform 41 = .ok (.iload 4, 2) := by decide +kernel
theorem dX7_perform_43 : decode cX7_perform 43 = .ok (.sipush 10000, 3) := by decide +kernel
theorem dX7_perform_46 : decode cX7_perform 46 = .ok (.if_icmp .ne 12, 3) := by decide +kernel
theorem dX7_perform_49 : decode cX7_perform 49 = .ok (.aload_n 1, 1) := by decide +kernel
theorem dX7_perform_50 : decode cX7_perform 50 = .ok (.bipush 9, 2) := by decide +kernel
theorem dX7_perform_52 : decode cX7_perform 52 = .ok (.invokevirtual 87, 3) := by decide +kernel
theorem dX7_perform_55 : decode cX7_perform 55 = .ok (.goto 16, 3) := by decide +kernel
theorem dX7_perform_58 : decode cX7_perform 58 = .ok (.aload_n 0, 1) := by decide +kernel
theorem dX7_perform_59 : decode cX7_perform 59 = .ok (.aload_n 1, 1) := by decide +kernel
theorem dX7_perform_60 : decode cX7_perform 60 = .ok (.invokevirtual 91, 3) := by decide +kernel
theorem dX7_perform_63 : decode cX7_perform 63 = .ok (.aload_n 1, 1) := by decide +kernel
theorem dX7_perform_64 : decode cX7_perform 64 = .ok (.aload_n 0, 1) := by decide +kernel
theorem dX7_perform_65 : decode cX7_perform 65 = .ok (.getfield 21, 3) := by decide +kernel
theorem dX7_perform_68 : decode cX7_perform 68 = .ok (.invokevirtual 95, 3) := by decide +kernel
theorem dX7_perform_71 : decode cX7_perform 71 = .ok (.iinc 4 1, 3) := by decide +kernel
theorem dX7_perform_74 : decode cX7_perform 74 = .ok (.goto (-48), 3) := by decide +kernel
theorem dX7_perform_77 : decode cX7_perform 77 = .ok (.aload_n 1, 1) := by decide +kernel
theorem dX7_perform_78 : decode cX7_perform 78 = .ok (.getfield 98, 3) := by decide +kernel
theorem dX7_perform_81 : decode cX7_perform 81 = .ok (.ifCond .ne 11, 3) := by decide +kernel
theorem dX7_perform_84 : decode cX7_perform 84 = .ok (.aload_n 1, 1) := by decide +kernel
theorem dX7_perform_85 : decode cX7_perform 85 = .ok (.iconst 0, 1) := by decide +kernel
theorem dX7_perform_86 : decode cX7_perform 86 = .ok (.invokevirtual 101, 3) := by decide +kernel
theorem dX7_perform_89 : decode cX7_perform 89 = .ok (.goto 4, 3) := by decide +kernel
theorem dX7_perform_92 : decode cX7_perform 92 = .ok (.lconst 0, 1) := by decide +kernel
theorem dX7_perform_93 : decode cX7_perform 93 = .ok (.lreturn, 1) := by decide +kernel
theorem dX7_step_0 : decode cX7_step 0 = .ok (.aload_n 0, 1) := by decide +kernel
theorem dX7_step_1 : decode cX7_step 1 = .ok (.aload_n 1, 1) := by decide +kernel
theorem dX7_step_2 : decode cX7_step 2 = .ok (.getfield 105, 3) := by decide +kernel
theorem dX7_step_5 : decode cX7_step 5 = .ok (.invokevirtual 108, 3) := by decide +kernel
theorem dX7_step_8 : decode cX7_step 8 = .ok (.lstore_n 2, 1) := by decide +kernel
theorem dX7_step_9 : decode cX7_step 9 = .ok (.lload_n 2, 1) := by decide +kernel
theorem dX7_step_10 : decode cX7_step 10 = .ok (.invokestatic 52, 3) := by decide +kernel
theorem dX7_step_13 : decode cX7_step 13 = .ok (.istore 4, 2) := by decide +kernel
theorem dX7_step_15 : decode cX7_step 15 = .ok (.lload_n 2, 1) := by decide +kernel
theorem dX7_step_16 : decode cX7_step 16 = .ok (.invokestatic 111, 3) := by decide +kernel
theorem dX7_step_19 : decode cX7_step 19 = .ok (.ifCond .ne 11, 3) := by decide +kernel
theorem dX7_step_22 : decode cX7_step 22 = .ok (.aload_n 1, 1) := by decide +kernel
theorem dX7_step_23 : decode cX7_step 23 = .ok (.iconst 1, 1) := by decide +kernel
theorem dX7_step_24 : decode cX7_step 24 = .ok (.invokevirtual 87, 3) := by decide +kernel
theorem dX7_step_27 : decode cX7_step 27 = .ok (.goto 146, 3) := by decide +kernel
theorem dX7_step_30 : decode cX7_step 30 = .ok (.iload 4, 2) := by decide +kernel
theorem dX7_step_32 : decode cX7_step 32 = .ok (.invokestatic 26, 3) := by decide +kernel
theorem dX7_step_35 : decode cX7_step 35 = .ok (.ifCond .eq 41, 3) := by decide +kernel
theorem dX7_step_38 : decode cX7_step 38 = .ok (.lload_n 2, 1) := by decide +kernel
theorem dX7_step_39 : decode cX7_step 39 = .ok (.invokestatic 59, 3) := by decide +kernel
theorem dX7_step_42 : decode cX7_step 42 = .ok (.istore 5, 2) := by decide +kernel
theorem dX7_step_44 : decode cX7_step 44 = .ok (.aload_n 1, 1) := by decide +kernel
theorem dX7_step_45 : decode cX7_step 45 = .ok (.iload 5, 2) := by decide +kernel
theorem dX7_step_47 : decode cX7_step 47 = .ok (.iload 4, 2) := by decide +kernel
theorem dX7_step_49 : decode cX7_step 49 = .ok (.iconst 4, 1) := by decide +kernel
theorem dX7_step_50 : decode cX7_step 50 = .ok (.ishr, 1) := by decide +kernel
theorem dX7_step_51 : decode cX7_step 51 = .ok (.iload 4, 2) := by decide +kernel
theorem dX7_step_53 : decode cX7_step 53 = .ok (.invokestatic 115, 3) := by decide +kernel
theorem dX7_step_56 : decode cX7_step 56 = .ok (.aload_n 1, 1) := by decide +kernel
theorem dX7_step_57 : decode cX7_step 57 = .ok (.iload 5, 2) := by decide +kernel
theorem dX7_step_59 : decode cX7_step 59 = .ok (.invokevirtual 101, 3) := by decide +kernel
theorem dX7_step_62 : decode cX7_step 62 = .ok (.lload_n 2, 1) := by decide +kernel
theorem dX7_step_63 : decode cX7_step 63 = .ok (.aload_n 1, 1) := by decide +kernel
theorem dX7_step_64 : decode cX7_step 64 = .ok (.invokestatic 118, 3) := by decide +kernel
theorem dX7_step_67 : decode cX7_step 67 = .ok (.invokestatic 122, 3) := by decide +kernel
theorem dX7_step_70 : decode cX7_step 70 = .ok (.invokevirtual 77, 3) := by decide +kernel
theorem dX7_step_73 : decode cX7_step 73 = .ok (.goto 100, 3) := by decide +kernel
theorem dX7_step_76 : decode cX7_step 76 = .ok (.iload 4, 2) := by decide +kernel
theorem dX7_step_78 : decode cX7_step 78 = .ok (.sipush 149, 3) := by decide +kernel
theorem dX7_step_81 : decode cX7_step 81 = .ok (.if_icmp .ne 11, 3) := by decide +kernel
theorem dX7_step_84 : decode cX7_step 84 = .ok (.aload_n 1, 1) := by decide +kernel
theorem dX7_step_85 : decode cX7_step 85 = .ok (.iconst 1, 1) := by decide +kernel
theorem dX7_step_86 : decode cX7_step 86 = .ok (.putfield 83, 3) := by decide +kernel
theorem dX7_step_89 : decode cX7_step 89 = .ok (.goto 84, 3) := by decide +kernel
theorem dX7_step_92 : decode cX7_step 92 = .ok (.iload 4, 2) := by decide +kernel
theorem dX7_step_94 : decode cX7_step 94 = .ok (.invokestatic 34, 3) := by decide +kernel
theorem dX7_step_97 : decode cX7_step 97 = .ok (.ifCond .eq 55, 3) := by decide +kernel
theorem dX7_step_100 : decode cX7_step 100 = .ok (.aload_n 1, 1) := by decide +kernel
theorem dX7_step_101 : decode cX7_step 101 = .ok (.lload_n 2, 1) := by decide +kernel
theorem dX7_step_102 : decode cX7_step 102 = .ok (.invokestatic 59, 3) := by decide +kernel
theorem dX7_step_105 : decode cX7_step 105 = .ok (.invokevirtual 101, 3) := by decide +kernel
theorem dX7_step_108 : decode cX7_step 108 = .ok (.lstore 5, 2) := by decide +kernel
theorem dX7_step_110 : decode cX7_step 110 = .ok (.iload 4, 2) := by decide +kernel
theorem dX7_step_112 : decode cX7_step 112 = .ok (.iconst 4, 1) := by decide +kernel
theorem dX7_step_113 : decode cX7_step 113 = .ok (.ishr, 1) := by decide +kernel
theorem dX7_step_114 : decode cX7_step 114 = .ok (.iload 4, 2) := by decide +kernel
theorem dX7_step_116 : decode cX7_step 116 = .ok (.invokestatic 115, 3) := by decide +kernel
theorem dX7_step_119 : decode cX7_step 119 = .ok (.lload 5, 2) := by decide +kernel
theorem dX7_step_121 : decode cX7_step 121 = .ok (.lload_n 2, 1) := by decide +kernel
theorem dX7_step_122 : decode cX7_step 122 = .ok (.aload_n 1, 1) := by decide +kernel
theorem dX7_step_123 : decode cX7_step 123 = .ok (.invokestatic 118, 3) := by decide +kernel
theorem dX7_step_126 : decode cX7_step 126 = .ok (.invokestatic 126, 3) := by decide +kernel
theorem dX7_step_129 : decode cX7_step 129 = .ok (.ifCond .eq 20, 3) := by decide +kernel
theorem dX7_step_132 : decode cX7_step 132 = .ok (.aload_n 1, 1) := by decide +kernel
theorem dX7_step_133 : decode cX7_step 133 = .ok (.aload_n 1, 1) := by decide +kernel
theorem dX7_step_134 : decode cX7_step 134 = .ok (.getfield 105, 3) := by decide +kernel
theorem dX7_step_137 : decode cX7_step 137 = .ok (.i2l, 1) := by decide +kernel
theorem dX7_step_138 : decode cX7_step 138 = .ok (.lconst 1, 1) := by decide +kernel
theorem dX7_step_139 : decode cX7_step 139 = .ok (.ladd, 1) := by decide +kernel
theorem dX7_step_140 : decode cX7_step 140 = .ok (.lload_n 2, 1) := by decide +kernel
theorem dX7_step_141 : decode cX7_step 141 = .ok (.invokestatic 65, 3) := by decide +kernel
theorem dX7_step_144 : decode cX7_step 144 = .ok (.i2l, 1) := by decide +kernel
theorem dX7_step_145 : decode cX7_step 145 = .ok (.ladd, 1) := by decide +kernel
theorem dX7_step_146 : decode cX7_step 146 = .ok (.putfield 130, 3) := by decide +kernel
theorem dX7_step_149 : decode cX7_step 149 = .ok (.goto 24, 3) := by decide +kernel
theorem dX7_step_152 : decode cX7_step 152 = .ok (.iload 4, 2) := by decide +kernel
theorem dX7_step_154 : decode cX7_step 154 = .ok (.invokestatic 46, 3) := by decide +kernel
theorem dX7_step_157 : decode cX7_step 157 = .ok (.ifCond .eq 11, 3) := by decide +kernel
theorem dX7_step_160 : decode cX7_step 160 = .ok (.lload_n 2, 1) := by decide +kernel
theorem dX7_step_161 : decode cX7_step 161 = .ok (.aload_n 1, 1) := by decide +kernel
theorem dX7_step_162 : decode cX7_step 162 = .ok (.invokestatic 134, 3) := by decide +kernel
theorem dX7_step_165 : decode cX7_step 165 = .ok (.goto 8, 3) := by decide +kernel
theorem dX7_step_168 : decode cX7_step 168 = .ok (.lload_n 2, 1) := by decide +kernel
theorem dX7_step_169 : decode cX7_step 169 = .ok (.aload_n 1, 1) := by decide +kernel
theorem dX7_step_170 : decode cX7_step 170 = .ok (.invokestatic 138, 3) := by decide +kernel
theorem dX7_step_173 : decode cX7_step 173 = .ok (.return_, 1) := by decide +kernel
theorem dX7_sideOf_0 : decode cX7_sideOf 0 = .ok (.lload_n 0, 1) := by decide +kernel
theorem dX7_sideOf_1 : decode cX7_sideOf 1 = .ok (.invokestatic 52, 3) := by decide +kernel
theorem dX7_sideOf_4 : decode cX7_sideOf 4 = .ok (.istore_n 3, 1) := by decide +kernel
theorem dX7_sideOf_5 : decode cX7_sideOf 5 = .ok (.iload_n 3, 1) := by decide +kernel
theorem dX7_sideOf_6 : decode cX7_sideOf 6 = .ok (.invokestatic 43, 3) := by decide +kernel
theorem dX7_sideOf_9 : decode cX7_sideOf 9 = .ok (.ifCond .eq 17, 3) := by decide +kernel
theorem dX7_sideOf_12 : decode cX7_sideOf 12 = .ok (.iload_n 3, 1) := by decide +kernel
theorem dX7_sideOf_13 : decode cX7_sideOf 13 = .ok (.iconst 1, 1) := by decide +kernel
theorem dX7_sideOf_14 : decode cX7_sideOf 14 = .ok (.iand, 1) := by decide +kernel
theorem dX7_sideOf_15 : decode cX7_sideOf 15 = .ok (.ifCond .eq 7, 3) := by decide +kernel
theorem dX7_sideOf_18 : decode cX7_sideOf 18 = .ok (.iconst 1, 1) := by decide +kernel
theorem dX7_sideOf_19 : decode cX7_sideOf 19 = .ok (.goto 11, 3) := by decide +kernel
theorem dX7_sideOf_22 : decode cX7_sideOf 22 = .ok (.iconst 0, 1) := by decide +kernel
theorem dX7_sideOf_23 : decode cX7_sideOf 23 = .ok (.goto 7, 3) := by decide +kernel
theorem dX7_sideOf_26 : decode cX7_sideOf 26 = .ok (.iload_n 3, 1) := by decide +kernel
theorem dX7_sideOf_27 : decode cX7_sideOf 27 = .ok (.invokestatic 49, 3) := by decide +kernel
theorem dX7_sideOf_30 : decode cX7_sideOf 30 = .ok (.istore 4, 2) := by decide +kernel
theorem dX7_sideOf_32 : decode cX7_sideOf 32 = .ok (.iload 4, 2) := by decide +kernel
theorem dX7_sideOf_34 : decode cX7_sideOf 34 = .ok (.ifCond .eq 14, 3) := by decide +kernel
theorem dX7_sideOf_37 : decode cX7_sideOf 37 = .ok (.aload_n 2, 1) := by decide +kernel
theorem dX7_sideOf_38 : decode cX7_sideOf 38 = .ok (.lload_n 0, 1) := by decide +kernel
theorem dX7_sideOf_39 : decode cX7_sideOf 39 = .ok (.invokestatic 62, 3) := by decide +kernel
theorem dX7_sideOf_42 : decode cX7_sideOf 42 = .ok (.invokevirtual 101, 3) := by decide +kernel
theorem dX7_sideOf_45 : decode cX7_sideOf 45 = .ok (.goto 8, 3) := by decide +kernel
theorem dX7_sideOf_48 : decode cX7_sideOf 48 = .ok (.lload_n 0, 1) := by decide +kernel
theorem dX7_sideOf_49 : decode cX7_sideOf 49 = .ok (.invokestatic 68, 3) := by decide +kernel
theorem dX7_sideOf_52 : decode cX7_sideOf 52 = .ok (.i2l, 1) := by decide +kernel
theorem dX7_sideOf_53 : decode cX7_sideOf 53 = .ok (.lreturn, 1) := by decide +kernel
theorem dX7_readPacket_0 : decode cX7_readPacket 0 = .ok (.lload_n 0, 1) := by decide +kernel
theorem dX7_readPacket_1 : decode cX7_readPacket 1 = .ok (.invokestatic 52, 3) := by decide +kernel
theorem dX7_readPacket_4 : decode cX7_readPacket 4 = .ok (.istore_n 3, 1) := by decide +kernel
theorem dX7_readPacket_5 : decode cX7_readPacket 5 = .ok (.iload_n 3, 1) := by decide +kernel
theorem dX7_readPacket_6 : decode cX7_readPacket 6 = .ok (.bipush 64, 2) := by decide +kernel
theorem dX7_readPacket_8 : decode cX7_readPacket 8 = .ok (.if_icmp .ge 7, 3) := by decide +kernel
theorem dX7_readPacket_11 : decode cX7_readPacket 11 = .ok (.lconst 0, 1) := by decide +kernel
theorem dX7_readPacket_12 : decode cX7_readPacket 12 = .ok (.goto 11, 3) := by decide +kernel
theorem dX7_readPacket_15 : decode cX7_readPacket 15 = .ok (.aload_n 2, 1) := by decide +kernel
theorem dX7_readPacket_16 : decode cX7_readPacket 16 = .ok (.lload_n 0, 1) := by decide +kernel
theorem dX7_readPacket_17 : decode cX7_readPacket 17 = .ok (.invokestatic 62, 3) := by decide +kernel
theorem dX7_readPacket_20 : decode cX7_readPacket 20 = .ok (.invokevirtual 101, 3) := by decide +kernel
theorem dX7_readPacket_23 : decode cX7_readPacket 23 = .ok (.lstore 4, 2) := by decide +kernel
theorem dX7_readPacket_25 : decode cX7_readPacket 25 = .ok (.aload_n 2, 1) := by decide +kernel
theorem dX7_readPacket_26 : decode cX7_readPacket 26 = .ok (.lload_n 0, 1) := by decide +kernel
theorem dX7_readPacket_27 : decode cX7_readPacket 27 = .ok (.invokestatic 68, 3) := by decide +kernel
theorem dX7_readPacket_30 : decode cX7_readPacket 30 = .ok (.i2l, 1) := by decide +kernel
theorem dX7_readPacket_31 : decode cX7_readPacket 31 = .ok (.lload 4, 2) := by decide +kernel
theorem dX7_readPacket_33 : decode cX7_readPacket 33 = .ok (.ladd, 1) := by decide +kernel
theorem dX7_readPacket_34 : decode cX7_readPacket 34 = .ok (.ldc2_w 141, 3) := by decide +kernel
theorem dX7_readPacket_37 : decode cX7_readPacket 37 = .ok (.land, 1) := by decide +kernel
theorem dX7_readPacket_38 : decode cX7_readPacket 38 = .ok (.iload_n 3, 1) := by decide +kernel
theorem dX7_readPacket_39 : decode cX7_readPacket 39 = .ok (.invokestatic 143, 3) := by decide +kernel
theorem dX7_readPacket_42 : decode cX7_readPacket 42 = .ok (.invokevirtual 146, 3) := by decide +kernel
theorem dX7_readPacket_45 : decode cX7_readPacket 45 = .ok (.lstore 6, 2) := by decide +kernel
theorem dX7_readPacket_47 : decode cX7_readPacket 47 = .ok (.aload_n 2, 1) := by decide +kernel
theorem dX7_readPacket_48 : decode cX7_readPacket 48 = .ok (.iconst 0, 1) := by decide +kernel
theorem dX7_readPacket_49 : decode cX7_readPacket 49 = .ok (.lload 6, 2) := by decide +kernel
theorem dX7_readPacket_51 : decode cX7_readPacket 51 = .ok (.lconst 0, 1) := by decide +kernel
theorem dX7_readPacket_52 : decode cX7_readPacket 52 = .ok (.lcmp, 1) := by decide +kernel
theorem dX7_readPacket_53 : decode cX7_readPacket 53 = .ok (.ifCond .ge 7, 3) := by decide +kernel
theorem dX7_readPacket_56 : decode cX7_readPacket 56 = .ok (.lconst 0, 1) := by decide +kernel
theorem dX7_readPacket_57 : decode cX7_readPacket 57 = .ok (.goto 5, 3) := by decide +kernel
theorem dX7_readPacket_60 : decode cX7_readPacket 60 = .ok (.lload 6, 2) := by decide +kernel
theorem dX7_readPacket_62 : decode cX7_readPacket 62 = .ok (.invokevirtual 77, 3) := by decide +kernel
theorem dX7_readPacket_65 : decode cX7_readPacket 65 = .ok (.lload 6, 2) := by decide +kernel
theorem dX7_readPacket_67 : decode cX7_readPacket 67 = .ok (.lconst 0, 1) := by decide +kernel
theorem dX7_readPacket_68 : decode cX7_readPacket 68 = .ok (.lcmp, 1) := by decide +kernel
theorem dX7_readPacket_69 : decode cX7_readPacket 69 = .ok (.ifCond .ge 8, 3) := by decide +kernel
theorem dX7_readPacket_72 : decode cX7_readPacket 72 = .ok (.aload_n 2, 1) := by decide +kernel
theorem dX7_readPacket_73 : decode cX7_readPacket 73 = .ok (.iconst 1, 1) := by decide +kernel
theorem dX7_readPacket_74 : decode cX7_readPacket 74 = .ok (.putfield 83, 3) := by decide +kernel
theorem dX7_readPacket_77 : decode cX7_readPacket 77 = .ok (.return_, 1) := by decide +kernel
theorem dX7_useMemory_0 : decode cX7_useMemory 0 = .ok (.lload_n 0, 1) := by decide +kernel
theorem dX7_useMemory_1 : decode cX7_useMemory 1 = .ok (.invokestatic 52, 3) := by decide +kernel
theorem dX7_useMemory_4 : decode cX7_useMemory 4 = .ok (.istore_n 3, 1) := by decide +kernel
theorem dX7_useMemory_5 : decode cX7_useMemory 5 = .ok (.iload_n 3, 1) := by decide +kernel
theorem dX7_useMemory_6 : decode cX7_useMemory 6 = .ok (.invokestatic 40, 3) := by decide +kernel
theorem dX7_useMemory_9 : decode cX7_useMemory 9 = .ok (.istore 4, 2) := by decide +kernel
theorem dX7_useMemory_11 : decode cX7_useMemory 11 = .ok (.iload 4, 2) := by decide +kernel
theorem dX7_useMemory_13 : decode cX7_useMemory 13 = .ok (.ifCond .eq 10, 3) := by decide +kernel
theorem dX7_useMemory_16 : decode cX7_useMemory 16 = .ok (.lload_n 0, 1) := by decide +kernel
theorem dX7_useMemory_17 : decode cX7_useMemory 17 = .ok (.invokestatic 62, 3) := by decide +kernel
theorem dX7_useMemory_20 : decode cX7_useMemory 20 = .ok (.goto 7, 3) := by decide +kernel
theorem dX7_useMemory_23 : decode cX7_useMemory 23 = .ok (.lload_n 0, 1) := by decide +kernel
theorem dX7_useMemory_24 : decode cX7_useMemory 24 = .ok (.invokestatic 59, 3) := by decide +kernel
theorem dX7_useMemory_27 : decode cX7_useMemory 27 = .ok (.istore 5, 2) := by decide +kernel
theorem dX7_useMemory_29 : decode cX7_useMemory 29 = .ok (.aload_n 2, 1) := by decide +kernel
theorem dX7_useMemory_30 : decode cX7_useMemory 30 = .ok (.iload 5, 2) := by decide +kernel
theorem dX7_useMemory_32 : decode cX7_useMemory 32 = .ok (.invokevirtual 101, 3) := by decide +kernel
theorem dX7_useMemory_35 : decode cX7_useMemory 35 = .ok (.lload_n 0, 1) := by decide +kernel
theorem dX7_useMemory_36 : decode cX7_useMemory 36 = .ok (.invokestatic 65, 3) := by decide +kernel
theorem dX7_useMemory_39 : decode cX7_useMemory 39 = .ok (.i2l, 1) := by decide +kernel
theorem dX7_useMemory_40 : decode cX7_useMemory 40 = .ok (.ladd, 1) := by decide +kernel
theorem dX7_useMemory_41 : decode cX7_useMemory 41 = .ok (.lstore 6, 2) := by decide +kernel
theorem dX7_useMemory_43 : decode cX7_useMemory 43 = .ok (.aload_n 2, 1) := by decide +kernel
theorem dX7_useMemory_44 : decode cX7_useMemory 44 = .ok (.lload 6, 2) := by decide +kernel
theorem dX7_useMemory_46 : decode cX7_useMemory 46 = .ok (.iload_n 3, 1) := by decide +kernel
theorem dX7_useMemory_47 : decode cX7_useMemory 47 = .ok (.invokestatic 143, 3) := by decide +kernel
theorem dX7_useMemory_50 : decode cX7_useMemory 50 = .ok (.invokevirtual 149, 3) := by decide +kernel
theorem dX7_useMemory_53 : decode cX7_useMemory 53 = .ok (.ifCond .ne 12, 3) := by decide +kernel
theorem dX7_useMemory_56 : decode cX7_useMemory 56 = .ok (.aload_n 2, 1) := by decide +kernel
theorem dX7_useMemory_57 : decode cX7_useMemory 57 = .ok (.bipush 7, 2) := by decide +kernel
theorem dX7_useMemory_59 : decode cX7_useMemory 59 = .ok (.invokevirtual 87, 3) := by decide +kernel
theorem dX7_useMemory_62 : decode cX7_useMemory 62 = .ok (.goto 44, 3) := by decide +kernel
theorem dX7_useMemory_65 : decode cX7_useMemory 65 = .ok (.iload 4, 2) := by decide +kernel
theorem dX7_useMemory_67 : decode cX7_useMemory 67 = .ok (.ifCond .eq 24, 3) := by decide +kernel
theorem dX7_useMemory_70 : decode cX7_useMemory 70 = .ok (.aload_n 2, 1) := by decide +kernel
theorem dX7_useMemory_71 : decode cX7_useMemory 71 = .ok (.lload_n 0, 1) := by decide +kernel
theorem dX7_useMemory_72 : decode cX7_useMemory 72 = .ok (.invokestatic 59, 3) := by decide +kernel
theorem dX7_useMemory_75 : decode cX7_useMemory 75 = .ok (.aload_n 2, 1) := by decide +kernel
theorem dX7_useMemory_76 : decode cX7_useMemory 76 = .ok (.lload 6, 2) := by decide +kernel
theorem dX7_useMemory_78 : decode cX7_useMemory 78 = .ok (.iload_n 3, 1) := by decide +kernel
theorem dX7_useMemory_79 : decode cX7_useMemory 79 = .ok (.invokestatic 143, 3) := by decide +kernel
theorem dX7_useMemory_82 : decode cX7_useMemory 82 = .ok (.invokevirtual 153, 3) := by decide +kernel
theorem dX7_useMemory_85 : decode cX7_useMemory 85 = .ok (.invokevirtual 77, 3) := by decide +kernel
theorem dX7_useMemory_88 : decode cX7_useMemory 88 = .ok (.goto 18, 3) := by decide +kernel
theorem dX7_useMemory_91 : decode cX7_useMemory 91 = .ok (.aload_n 2, 1) := by decide +kernel
theorem dX7_useMemory_92 : decode cX7_useMemory 92 = .ok (.lload 6, 2) := by decide +kernel
theorem dX7_useMemory_94 : decode cX7_useMemory 94 = .ok (.iload_n 3, 1) := by decide +kernel
theorem dX7_useMemory_95 : decode cX7_useMemory 95 = .ok (.invokestatic 143, 3) := by decide +kernel
theorem dX7_useMemory_98 : decode cX7_useMemory 98 = .ok (.lload_n 0, 1) := by decide +kernel
theorem dX7_useMemory_99 : decode cX7_useMemory 99 = .ok (.aload_n 2, 1) := by decide +kernel
theorem dX7_useMemory_100 : decode cX7_useMemory 100 = .ok (.invokestatic 118, 3) := by decide +kernel
theorem dX7_useMemory_103 : decode cX7_useMemory 103 = .ok (.invokevirtual 156, 3) := by decide +kernel
theorem dX7_useMemory_106 : decode cX7_useMemory 106 = .ok (.return_, 1) := by decide +kernel
theorem dX8_init_0 : decode cX8_init 0 = .ok (.aload_n 0, 1) := by decide +kernel
theorem dX8_init_1 : decode cX8_init 1 = .ok (.invokespecial 3, 3) := by decide +kernel
theorem dX8_init_4 : decode cX8_init 4 = .ok (.aload_n 0, 1) := by decide +kernel
theorem dX8_init_5 : decode cX8_init 5 = .ok (.aload_n 1, 1) := by decide +kernel
theorem dX8_init_6 : decode cX8_init 6 = .ok (.putfield 9, 3) := by decide +kernel
theorem dX8_init_9 : decode cX8_init 9 = .ok (.aload_n 0, 1) := by decide +kernel
theorem dX8_init_10 : decode cX8_init 10 = .ok (.aload_n 2, 1) := by decide +kernel
theorem dX8_init_11 : decode cX8_init 11 = .ok (.putfield 15, 3) := by decide +kernel
theorem dX8_init_14 : decode cX8_init 14 = .ok (.return_, 1) := by decide +kernel
theorem dX8_begin_0 : decode cX8_begin 0 = .ok (.aload_n 0, 1) := by decide +kernel
theorem dX8_begin_1 : decode cX8_begin 1 = .ok (.aload_n 1, 1) := by decide +kernel
theorem dX8_begin_2 : decode cX8_begin 2 = .ok (.putfield 15, 3) := by decide +kernel
theorem dX8_begin_5 : decode cX8_begin 5 = .ok (.aload_n 0, 1) := by decide +kernel
theorem dX8_begin_6 : decode cX8_begin 6 = .ok (.getfield 15, 3) := by decide +kernel
theorem dX8_begin_9 : decode cX8_begin 9 = .ok (.invokevirtual 19, 3) := by decide +kernel
theorem dX8_begin_12 : decode cX8_begin 12 = .ok (.aload_n 0, 1) := by decide +kernel
theorem dX8_begin_13 : decode cX8_begin 13 = .ok (.iconst 0, 1) := by decide +kernel
theorem dX8_begin_14 : decode cX8_begin 14 = .ok (.putfield 24, 3) := by decide +kernel
theorem dX8_begin_17 : decode cX8_begin 17 = .ok (.aload_n 0, 1) := by decide +kernel
theorem dX8_begin_18 : decode cX8_begin 18 = .ok (.iconst (-1), 1) := by decide +kernel
theorem dX8_begin_19 : decode cX8_begin 19 = .ok (.putfield 28, 3) := by decide +kernel
theorem dX8_begin_22 : decode cX8_begin 22 = .ok (.aload_n 0, 1) := by decide +kernel
theorem dX8_begin_23 : decode cX8_begin 23 = .ok (.iconst 1, 1) := by decide +kernel
theorem dX8_begin_24 : decode cX8_begin 24 = .ok (.putfield 31, 3) := by decide +kernel
theorem dX8_begin_27 : decode cX8_begin 27 = .ok (.aload_n 0, 1) := by decide +kernel
theorem dX8_begin_28 : decode cX8_begin 28 = .ok (.invokevirtual 34, 3) := by decide +kernel
theorem dX8_begin_31 : decode cX8_begin 31 = .ok (.return_, 1) := by decide +kernel
theorem dX8_wrongPlace_0 : decode cX8_wrongPlace 0 = .ok (.aload_n 0, 1) := by decide +kernel
theorem dX8_wrongPlace_1 : decode cX8_wrongPlace 1 = .ok (.getfield 31, 3) := by decide +kernel
theorem dX8_wrongPlace_4 : decode cX8_wrongPlace 4 = .ok (.iconst 1, 1) := by decide +kernel
theorem dX8_wrongPlace_5 : decode cX8_wrongPlace 5 = .ok (.if_icmp .eq 7, 3) := by decide +kernel
theorem dX8_wrongPlace_8 : decode cX8_wrongPlace 8 = .ok (.aload_n 0, 1) := by decide +kernel
theorem dX8_wrongPlace_9 : decode cX8_wrongPlace 9 = .ok (.invokevirtual 37, 3) := by decide +kernel
theorem dX8_wrongPlace_12 : decode cX8_wrongPlace 12 = .ok (.aload_n 0, 1) := by decide +kernel
theorem dX8_wrongPlace_13 : decode cX8_wrongPlace 13 = .ok (.getfield 28, 3) := by decide +kernel
theorem dX8_wrongPlace_16 : decode cX8_wrongPlace 16 = .ok (.ireturn, 1) := by decide +kernel
theorem dX8_fail_0 : decode cX8_fail 0 = .ok (.aload_n 0, 1) := by decide +kernel
theorem dX8_fail_1 : decode cX8_fail 1 = .ok (.getfield 28, 3) := by decide +kernel
theorem dX8_fail_4 : decode cX8_fail 4 = .ok (.ifCond .ge 11, 3) := by decide +kernel
theorem dX8_fail_7 : decode cX8_fail 7 = .ok (.aload_n 0, 1) := by decide +kernel
theorem dX8_fail_8 : decode cX8_fail 8 = .ok (.aload_n 0, 1) := by decide +kernel
theorem dX8_fail_9 : decode cX8_fail 9 = .ok (.getfield 40, 3) := by decide +kernel
theorem dX8_fail_12 : decode cX8_fail 12 = .ok (.putfield 28, 3) := by decide +kernel
theorem dX8_fail_15 : decode cX8_fail 15 = .ok (.aload_n 0, 1) := by decide +kernel
theorem dX8_fail_16 : decode cX8_fail 16 = .ok (.iconst 3, 1) := by decide +kernel
theorem dX8_fail_17 : decode cX8_fail 17 = .ok (.putfield 31, 3) := by decide +kernel
theorem dX8_fail_20 : decode cX8_fail 20 = .ok (.return_, 1) := by decide +kernel
theorem dX8_next_0 : decode cX8_next 0 = .ok (.aload_n 0, 1) := by decide +kernel
theorem dX8_next_1 : decode cX8_next 1 = .ok (.getfield 28, 3) := by decide +kernel
theorem dX8_next_4 : decode cX8_next 4 = .ok (.ifCond .lt 4, 3) := by decide +kernel
theorem dX8_next_7 : decode cX8_next 7 = .ok (.return_, 1) := by decide +kernel
theorem dX8_next_8 : decode cX8_next 8 = .ok (.aload_n 0, 1) := by decide +kernel
theorem dX8_next_9 : decode cX8_next 9 = .ok (.aload_n 0, 1) := by decide +kernel
theorem dX8_next_10 : decode cX8_next 10 = .ok (.aload_n 0, 1) := by decide +kernel
theorem dX8_next_11 : decode cX8_next 11 = .ok (.getfield 24, 3) := by decide +kernel
theorem dX8_next_14 : decode cX8_next 14 = .ok (.invokevirtual 43, 3) := by decide +kernel
theorem dX8_next_17 : decode cX8_next 17 = .ok (.putfield 40, 3) := by decide +kernel
theorem dX8_next_20 : decode cX8_next 20 = .ok (.aload_n 0, 1) := by decide +kernel
theorem dX8_next_21 : decode cX8_next 21 = .ok (.aload_n 0, 1) := by decide +kernel
theorem dX8_next_22 : decode cX8_next 22 = .ok (.getfield 40, 3) := by decide +kernel
theorem dX8_next_25 : decode cX8_next 25 = .ok (.iconst 1, 1) := by decide +kernel
theorem dX8_next_26 : decode cX8_next 26 = .ok (.iadd, 1) := by decide +kernel
theorem dX8_next_27 : decode cX8_next 27 = .ok (.putfield 24, 3) := by decide +kernel
theorem dX8_next_30 : decode cX8_next 30 = .ok (.aload_n 0, 1) := by decide +kernel
theorem dX8_next_31 : decode cX8_next 31 = .ok (.getfield 9, 3) := by decide +kernel
theorem dX8_next_34 : decode cX8_next 34 = .ok (.aload_n 0, 1) := by decide +kernel
theorem dX8_next_35 : decode cX8_next 35 = .ok (.getfield 40, 3) := by decide +kernel
theorem dX8_next_38 : decode cX8_next 38 = .ok (.invokevirtual 47, 3) := by decide +kernel
theorem dX8_next_41 : decode cX8_next 41 = .ok (.istore_n 1, 1) := by decide +kernel
theorem dX8_next_42 : decode cX8_next 42 = .ok (.iload_n 1, 1) := by decide +kernel
theorem dX8_next_43 : decode cX8_next 43 = .ok (.ifCond .ge 11, 3) := by decide +kernel
theorem dX8_next_46 : decode cX8_next 46 = .ok (.aload_n 0, 1) := by decide +kernel
theorem dX8_next_47 : decode cX8_next 47 = .ok (.iconst 1, 1) := by decide +kernel
theorem dX8_next_48 : decode cX8_next 48 = .ok (.putfield 31, 3) := by decide +kernel
theorem dX8_next_51 : decode cX8_next 51 = .ok (.goto 71, 3) := by decide +kernel
theorem dX8_next_54 : decode cX8_next 54 = .ok (.iload_n 1, 1) := by decide +kernel
theorem dX8_next_55 : decode cX8_next 55 = .ok (.invokestatic 52, 3) := by decide +kernel
theorem dX8_next_58 : decode cX8_next 58 = .ok (.ifCond .eq 23, 3) := by decide +kernel
theorem dX8_next_61 : decode cX8_next 61 = .ok (.aload_n 0, 1) := by decide +kernel
theorem dX8_next_62 : decode cX8_next 62 = .ok (.iconst 2, 1) := by decide +kernel
theorem dX8_next_63 : decode cX8_next 63 = .ok (.putfield 31, 3) := by decide +kernel
theorem dX8_next_66 : decode cX8_next 66 = .ok (.aload_n 0, 1) := by decide +kernel
theorem dX8_next_67 : decode cX8_next 67 = .ok (.aload_n 0, 1) := by decide +kernel
theorem dX8_next_68 : decode cX8_next 68 = .ok (.aload_n 0, 1) := by decide +kernel
theorem dX8_next_69 : decode cX8_next 69 = .ok (.getfield 40, 3) := by decide +kernel
theorem dX8_next_72 : decode cX8_next 72 = .ok (.invokevirtual 56, 3) := by decide +kernel
theorem dX8_next_75 : decode cX8_next 75 = .ok (.putfield 24, 3) := by decide +kernel
theorem dX8_next_78 : decode cX8_next 78 = .ok (.goto 44, 3) := by decide +kernel
theorem dX8_next_81 : decode cX8_next 81 = .ok (.aload_n 0, 1) := by decide +kernel
theorem dX8_next_82 : decode cX8_next 82 = .ok (.iload_n 1, 1) := by decide +kernel
theorem dX8_next_83 : decode cX8_next 83 = .ok (.aload_n 0, 1) := by decide +kernel
theorem dX8_next_84 : decode cX8_next 84 = .ok (.getfield 9, 3) := by decide +kernel
theorem dX8_next_87 : decode cX8_next 87 = .ok (.aload_n 0, 1) := by decide +kernel
theorem dX8_next_88 : decode cX8_next 88 = .ok (.getfield 40, 3) := by decide +kernel
theorem dX8_next_91 : decode cX8_next 91 = .ok (.iconst 1, 1) := by decide +kernel
theorem dX8_next_92 : decode cX8_next 92 = .ok (.iadd, 1) := by decide +kernel
theorem dX8_next_93 : decode cX8_next 93 = .ok (.invokevirtual 47, 3) := by decide +kernel
theorem dX8_next_96 : decode cX8_next 96 = .ok (.invokestatic 59, 3) := by decide +kernel
theorem dX8_next_99 : decode cX8_next 99 = .ok (.putfield 31, 3) := by decide +kernel
theorem dX8_next_102 : decode cX8_next 102 = .ok (.aload_n 0, 1) := by decide +kernel
theorem dX8_next_103 : decode cX8_next 103 = .ok (.getfield 31, 3) := by decide +kernel
theorem dX8_next_106 : decode cX8_next 106 = .ok (.sipush 256, 3) := by decide +kernel
theorem dX8_next_109 : decode cX8_next 109 = .ok (.if_icmp .lt 13, 3) := by decide +kernel
theorem dX8_next_112 : decode cX8_next 112 = .ok (.aload_n 0, 1) := by decide +kernel
theorem dX8_next_113 : decode cX8_next 113 = .ok (.aload_n 0, 1) := by decide +kernel
theorem dX8_next_114 : decode cX8_next 114 = .ok (.getfield 40, 3) := by decide +kernel
theorem dX8_next_117 : decode cX8_next 117 = .ok (.iconst 2, 1) := by decide +kernel
theorem dX8_next_118 : decode cX8_next 118 = .ok (.iadd, 1) := by decide +kernel
theorem dX8_next_119 : decode cX8_next 119 = .ok (.putfield 24, 3) := by decide +kernel
theorem dX8_next_122 : decode cX8_next 122 = .ok (.aload_n 0, 1) := by decide +kernel
theorem dX8_next_123 : decode cX8_next 123 = .ok (.getfield 31, 3) := by decide +kernel
theorem dX8_next_126 : decode cX8_next 126 = .ok (.iconst 3, 1) := by decide +kernel
theorem dX8_next_127 : decode cX8_next 127 = .ok (.if_icmp .ne 7, 3) := by decide +kernel
theorem dX8_next_130 : decode cX8_next 130 = .ok (.aload_n 0, 1) := by decide +kernel
theorem dX8_next_131 : decode cX8_next 131 = .ok (.invokevirtual 37, 3) := by decide +kernel
theorem dX8_next_134 : decode cX8_next 134 = .ok (.return_, 1) := by decide +kernel
theorem dX8_behindBlanks_0 : decode cX8_behindBlanks 0 = .ok (.iload_n 1, 1) := by decide +kernel
theorem dX8_behindBlanks_1 : decode cX8_behindBlanks 1 = .ok (.istore_n 2, 1) := by decide +kernel
theorem dX8_behindBlanks_2 : decode cX8_behindBlanks 2 = .ok (.iload_n 2, 1) := by decide +kernel
theorem dX8_behindBlanks_3 : decode cX8_behindBlanks 3 = .ok (.aload_n 0, 1) := by decide +kernel
theorem dX8_behindBlanks_4 : decode cX8_behindBlanks 4 = .ok (.getfield 9, 3) := by decide +kernel
theorem dX8_behindBlanks_7 : decode cX8_behindBlanks 7 = .ok (.getfield 63, 3) := by decide +kernel
theorem dX8_behindBlanks_10 : decode cX8_behindBlanks 10 = .ok (.if_icmp .ge 35, 3) := by decide +kernel
theorem dX8_behindBlanks_13 : decode cX8_behindBlanks 13 = .ok (.aload_n 0, 1) := by decide +kernel
theorem dX8_behindBlanks_14 : decode cX8_behindBlanks 14 = .ok (.getfield 9, 3) := by decide +kernel
theorem dX8_behindBlanks_17 : decode cX8_behindBlanks 17 = .ok (.iload_n 2, 1) := by decide +kernel
theorem dX8_behindBlanks_18 : decode cX8_behindBlanks 18 = .ok (.invokevirtual 47, 3) := by decide +kernel
theorem dX8_behindBlanks_21 : decode cX8_behindBlanks 21 = .ok (.bipush 32, 2) := by decide +kernel
theorem dX8_behindBlanks_23 : decode cX8_behindBlanks 23 = .ok (.if_icmp .eq 16, 3) := by decide +kernel
theorem dX8_behindBlanks_26 : decode cX8_behindBlanks 26 = .ok (.aload_n 0, 1) := by decide +kernel
theorem dX8_behindBlanks_27 : decode cX8_behindBlanks 27 = .ok (.getfield 9, 3) := by decide +kernel
theorem dX8_behindBlanks_30 : decode cX8_behindBlanks 30 = .ok (.iload_n 2, 1) := by decide +kernel
theorem dX8_behindBlanks_31 : decode cX8_behindBlanks 31 = .ok (.invokevirtual 47, 3) := by decide +kernel
theorem dX8_behindBlanks_34 : decode cX8_behindBlanks 34 = .ok (.bipush 10, 2) := by decide +kernel
theorem dX8_behindBlanks_36 : decode cX8_behindBlanks 36 = .ok (.if_icmp .ne 9, 3) := by decide +kernel
theorem dX8_behindBlanks_39 : decode cX8_behindBlanks 39 = .ok (.iinc 2 1, 3) := by decide +kernel
theorem dX8_behindBlanks_42 : decode cX8_behindBlanks 42 = .ok (.goto (-40), 3) := by decide +kernel
theorem dX8_behindBlanks_45 : decode cX8_behindBlanks 45 = .ok (.iload_n 2, 1) := by decide +kernel
theorem dX8_behindBlanks_46 : decode cX8_behindBlanks 46 = .ok (.ireturn, 1) := by decide +kernel
theorem dX8_behindWord_0 : decode cX8_behindWord 0 = .ok (.iload_n 1, 1) := by decide +kernel
theorem dX8_behindWord_1 : decode cX8_behindWord 1 = .ok (.istore_n 2, 1) := by decide +kernel
theorem dX8_behindWord_2 : decode cX8_behindWord 2 = .ok (.iload_n 2, 1) := by decide +kernel
theorem dX8_behindWord_3 : decode cX8_behindWord 3 = .ok (.aload_n 0, 1) := by decide +kernel
theorem dX8_behindWord_4 : decode cX8_behindWord 4 = .ok (.getfield 9, 3) := by decide +kernel
theorem dX8_behindWord_7 : decode cX8_behindWord 7 = .ok (.getfield 63, 3) := by decide +kernel
theorem dX8_behindWord_10 : decode cX8_behindWord 10 = .ok (.if_icmp .ge 23, 3) := by decide +kernel
theorem dX8_behindWord_13 : decode cX8_behindWord 13 = .ok (.aload_n 0, 1) := by decide +kernel
theorem dX8_behindWord_14 : decode cX8_behindWord 14 = .ok (.getfield 9, 3) := by decide +kernel
theorem dX8_behindWord_17 : decode cX8_behindWord 17 = .ok (.iload_n 2, 1) := by decide +kernel
theorem dX8_behindWord_18 : decode cX8_behindWord 18 = .ok (.invokevirtual 47, 3) := by decide +kernel
theorem dX8_behindWord_21 : decode cX8_behindWord 21 = .ok (.invokestatic 52, 3) := by decide +kernel
theorem dX8_behindWord_24 : decode cX8_behindWord 24 = .ok (.ifCond .eq 9, 3) := by decide +kernel
theorem dX8_behindWord_27 : decode cX8_behindWord 27 = .ok (.iinc 2 1, 3) := by decide +kernel
theorem dX8_behindWord_30 : decode cX8_behindWord 30 = .ok (.goto (-28), 3) := by decide +kernel
theorem dX8_behindWord_33 : decode cX8_behindWord 33 = .ok (.iload_n 2, 1) := by decide +kernel
theorem dX8_behindWord_34 : decode cX8_behindWord 34 = .ok (.ireturn, 1) := by decide +kernel
theorem dX8_inWord_0 : decode cX8_inWord 0 = .ok (.iload_n 0, 1) := by decide +kernel
theorem dX8_inWord_1 : decode cX8_inWord 1 = .ok (.bipush 97, 2) := by decide +kernel
theorem dX8_inWord_3 : decode cX8_inWord 3 = .ok (.if_icmp .lt 9, 3) := by decide +kernel
theorem dX8_inWord_6 : decode cX8_inWord 6 = .ok (.iload_n 0, 1) := by decide +kernel
theorem dX8_inWord_7 : decode cX8_inWord 7 = .ok (.bipush 122, 2) := by decide +kernel
theorem dX8_inWord_9 : decode cX8_inWord 9 = .ok (.if_icmp .le 21, 3) := by decide +kernel
theorem dX8_inWord_12 : decode cX8_inWord 12 = .ok (.iload_n 0, 1) := by decide +kernel
theorem dX8_inWord_13 : decode cX8_inWord 13 = .ok (.bipush 48, 2) := by decide +kernel
theorem dX8_inWord_15 : decode cX8_inWord 15 = .ok (.if_icmp .lt 9, 3) := by decide +kernel
theorem dX8_inWord_18 : decode cX8_inWord 18 = .ok (.iload_n 0, 1) := by decide +kernel
theorem dX8_inWord_19 : decode cX8_inWord 19 = .ok (.bipush 57, 2) := by decide +kernel
theorem dX8_inWord_21 : decode cX8_inWord 21 = .ok (.if_icmp .le 9, 3) := by decide +kernel
theorem dX8_inWord_24 : decode cX8_inWord 24 = .ok (.iload_n 0, 1) := by decide +kernel
theorem dX8_inWord_25 : decode cX8_inWord 25 = .ok (.bipush 46, 2) := by decide +kernel
theorem dX8_inWord_27 : decode cX8_inWord 27 = .ok (.if_icmp .ne 7, 3) := by decide +kernel
theorem dX8_inWord_30 : decode cX8_inWord 30 = .ok (.iconst 1, 1) := by decide +kernel
theorem dX8_inWord_31 : decode cX8_inWord 31 = .ok (.goto 4, 3) := by decide +kernel
theorem dX8_inWord_34 : decode cX8_inWord 34 = .ok (.iconst 0, 1) := by decide +kernel
theorem dX8_inWord_35 : decode cX8_inWord 35 = .ok (.ireturn, 1) := by decide +kernel
theorem dX8_isDigit_0 : decode cX8_isDigit 0 = .ok (.iload_n 0, 1) := by decide +kernel
theorem dX8_isDigit_1 : decode cX8_isDigit 1 = .ok (.bipush 48, 2) := by decide +kernel
theorem dX8_isDigit_3 : decode cX8_isDigit 3 = .ok (.if_icmp .lt 13, 3) := by decide +kernel
theorem dX8_isDigit_6 : decode cX8_isDigit 6 = .ok (.iload_n 0, 1) := by decide +kernel
theorem dX8_isDigit_7 : decode cX8_isDigit 7 = .ok (.bipush 57, 2) := by decide +kernel
theorem dX8_isDigit_9 : decode cX8_isDigit 9 = .ok (.if_icmp .gt 7, 3) := by decide +kernel
theorem dX8_isDigit_12 : decode cX8_isDigit 12 = .ok (.iconst 1, 1) := by decide +kernel
theorem dX8_isDigit_13 : decode cX8_isDigit 13 = .ok (.goto 4, 3) := by decide +kernel
theorem dX8_isDigit_16 : decode cX8_isDigit 16 = .ok (.iconst 0, 1) := by decide +kernel
theorem dX8_isDigit_17 : decode cX8_isDigit 17 = .ok (.ireturn, 1) := by decide +kernel
theorem dX8_signKind_0 : decode cX8_signKind 0 = .ok (.iload_n 0, 1) := by decide +kernel
theorem dX8_signKind_1 : decode cX8_signKind 1 = .ok (.lookupswitch 231 #[(33, 215), (37, 229), (38, 229), (40, 229), (41, 229), (42, 229), (43, 229), (45, 229), (47, 229), (58, 229), (60, 163), (61, 229), (62, 189), (91, 229), (93, 229), (94, 229), (123, 229), (124, 229), (125, 229)], 163) := by decide +kernel
theorem dX8_signKind_164 : decode cX8_signKind 164 = .ok (.iload_n 1, 1) := by decide +kernel
theorem dX8_signKind_165 : decode cX8_signKind 165 = .ok (.bipush 60, 2) := by decide +kernel
theorem dX8_signKind_167 : decode cX8_signKind 167 = .ok (.if_icmp .ne 9, 3) := by decide +kernel
theorem dX8_signKind_170 : decode cX8_signKind 170 = .ok (.sipush 256, 3) := by decide +kernel
theorem dX8_signKind_173 : decode cX8_signKind 173 = .ok (.goto 16, 3) := by decide +kernel
theorem dX8_signKind_176 : decode cX8_signKind 176 = .ok (.iload_n 1, 1) := by decide +kernel
theorem dX8_signKind_177 : decode cX8_signKind 177 = .ok (.bipush 61, 2) := by decide +kernel
theorem dX8_signKind_179 : decode cX8_signKind 179 = .ok (.if_icmp .ne 9, 3) := by decide +kernel
theorem dX8_signKind_182 : decode cX8_signKind 182 = .ok (.sipush 259, 3) := by decide +kernel
theorem dX8_signKind_185 : decode cX8_signKind 185 = .ok (.goto 4, 3) := by decide +kernel
theorem dX8_signKind_188 : decode cX8_signKind 188 = .ok (.iload_n 0, 1) := by decide +kernel
theorem dX8_signKind_189 : decode cX8_signKind 189 = .ok (.ireturn, 1) := by decide +kernel
theorem dX8_signKind_190 : decode cX8_signKind 190 = .ok (.iload_n 1, 1) := by decide +kernel
theorem dX8_signKind_191 : decode cX8_signKind 191 = .ok (.bipush 62, 2) := by decide +kernel
theorem dX8_signKind_193 : decode cX8_signKind 193 = .ok (.if_icmp .ne 9, 3) := by decide +kernel
theorem dX8_signKind_196 : decode cX8_signKind 196 = .ok (.sipush 257, 3) := by decide +kernel
theorem dX8_signKind_199 : decode cX8_signKind 199 = .ok (.goto 16, 3) := by decide +kernel
theorem dX8_signKind_202 : decode cX8_signKind 202 = .ok (.iload_n 1, 1) := by decide +kernel
theorem dX8_signKind_203 : decode cX8_signKind 203 = .ok (.bipush 61, 2) := by decide +kernel
theorem dX8_signKind_205 : decode cX8_signKind 205 = .ok (.if_icmp .ne 9, 3) := by decide +kernel
theorem dX8_signKind_208 : decode cX8_signKind 208 = .ok (.sipush 260, 3) := by decide +kernel
theorem dX8_signKind_211 : decode cX8_signKind 211 = .ok (.goto 4, 3) := by decide +kernel
theorem dX8_signKind_214 : decode cX8_signKind 214 = .ok (.iload_n 0, 1) := by decide +kernel
theorem dX8_signKind_215 : decode cX8_signKind 215 = .ok (.ireturn, 1) := by decide +kernel
theorem dX8_signKind_216 : decode cX8_signKind 216 = .ok (.iload_n 1, 1) := by decide +kernel
theorem dX8_signKind_217 : decode cX8_signKind 217 = .ok (.bipush 61, 2) := by decide +kernel
theorem dX8_signKind_219 : decode cX8_signKind 219 = .ok (.if_icmp .ne 9, 3) := by decide +kernel
theorem dX8_signKind_222 : decode cX8_signKind 222 = .ok (.sipush 258, 3) := by decide +kernel
theorem dX8_signKind_225 : decode cX8_signKind 225 = .ok (.goto 4, 3) := by decide +kernel
theorem dX8_signKind_228 : decode cX8_signKind 228 = .ok (.iconst 3, 1) := by decide +kernel
theorem dX8_signKind_229 : decode cX8_signKind 229 = .ok (.ireturn, 1) := by decide +kernel
theorem dX8_signKind_230 : decode cX8_signKind 230 = .ok (.iload_n 0, 1) := by decide +kernel
theorem dX8_signKind_231 : decode cX8_signKind 231 = .ok (.ireturn, 1) := by decide +kernel
theorem dX8_signKind_232 : decode cX8_signKind 232 = .ok (.iconst 3, 1) := by decide +kernel
theorem dX8_signKind_233 : decode cX8_signKind 233 = .ok (.ireturn, 1) := by decide +kernel
theorem dX8_isWord_0 : decode cX8_isWord 0 = .ok (.aload_n 0, 1) := by decide +kernel
theorem dX8_isWord_1 : decode cX8_isWord 1 = .ok (.getfield 31, 3) := by decide +kernel
theorem dX8_isWord_4 : decode cX8_isWord 4 = .ok (.iconst 2, 1) := by decide +kernel
theorem dX8_isWord_5 : decode cX8_isWord 5 = .ok (.if_icmp .ne 19, 3) := by decide +kernel
theorem dX8_isWord_8 : decode cX8_isWord 8 = .ok (.aload_n 0, 1) := by decide +kernel
theorem dX8_isWord_9 : decode cX8_isWord 9 = .ok (.getfield 24, 3) := by decide +kernel
theorem dX8_isWord_12 : decode cX8_isWord 12 = .ok (.aload_n 0, 1) := by decide +kernel
theorem dX8_isWord_13 : decode cX8_isWord 13 = .ok (.getfield 40, 3) := by decide +kernel
theorem dX8_isWord_16 : decode cX8_isWord 16 = .ok (.isub, 1) := by decide +kernel
theorem dX8_isWord_17 : decode cX8_isWord 17 = .ok (.aload_n 1, 1) := by decide +kernel
theorem dX8_isWord_18 : decode cX8_isWord 18 = .ok (.invokevirtual 66, 3) := by decide +kernel
theorem dX8_isWord_21 : decode cX8_isWord 21 = .ok (.if_icmp .eq 5, 3) := by decide +kernel
theorem dX8_isWord_24 : decode cX8_isWord 24 = .ok (.iconst 0, 1) := by decide +kernel
theorem dX8_isWord_25 : decode cX8_isWord 25 = .ok (.ireturn, 1) := by decide +kernel
theorem dX8_isWord_26 : decode cX8_isWord 26 = .ok (.iconst 0, 1) := by decide +kernel
theorem dX8_isWord_27 : decode cX8_isWord 27 = .ok (.istore_n 2, 1) := by decide +kernel
theorem dX8_isWord_28 : decode cX8_isWord 28 = .ok (.iload_n 2, 1) := by decide +kernel
theorem dX8_isWord_29 : decode cX8_isWord 29 = .ok (.aload_n 1, 1) := by decide +kernel
theorem dX8_isWord_30 : decode cX8_isWord 30 = .ok (.invokevirtual 66, 3) := by decide +kernel
theorem dX8_isWord_33 : decode cX8_isWord 33 = .ok (.if_icmp .ge 32, 3) := by decide +kernel
theorem dX8_isWord_36 : decode cX8_isWord 36 = .ok (.aload_n 0, 1) := by decide +kernel
theorem dX8_isWord_37 : decode cX8_isWord 37 = .ok (.getfield 9, 3) := by decide +kernel
theorem dX8_isWord_40 : decode cX8_isWord 40 = .ok (.aload_n 0, 1) := by decide +kernel
theorem dX8_isWord_41 : decode cX8_isWord 41 = .ok (.getfield 40, 3) := by decide +kernel
theorem dX8_isWord_44 : decode cX8_isWord 44 = .ok (.iload_n 2, 1) := by decide +kernel
theorem dX8_isWord_45 : decode cX8_isWord 45 = .ok (.iadd, 1) := by decide +kernel
theorem dX8_isWord_46 : decode cX8_isWord 46 = .ok (.invokevirtual 47, 3) := by decide +kernel
theorem dX8_isWord_49 : decode cX8_isWord 49 = .ok (.aload_n 1, 1) := by decide +kernel
theorem dX8_isWord_50 : decode cX8_isWord 50 = .ok (.iload_n 2, 1) := by decide +kernel
theorem dX8_isWord_51 : decode cX8_isWord 51 = .ok (.invokevirtual 71, 3) := by decide +kernel
theorem dX8_isWord_54 : decode cX8_isWord 54 = .ok (.if_icmp .eq 5, 3) := by decide +kernel
theorem dX8_isWord_57 : decode cX8_isWord 57 = .ok (.iconst 0, 1) := by decide +kernel
theorem dX8_isWord_58 : decode cX8_isWord 58 = .ok (.ireturn, 1) := by decide +kernel
theorem dX8_isWord_59 : decode cX8_isWord 59 = .ok (.iinc 2 1, 3) := by decide +kernel
theorem dX8_isWord_62 : decode cX8_isWord 62 = .ok (.goto (-34), 3) := by decide +kernel
theorem dX8_isWord_65 : decode cX8_isWord 65 = .ok (.iconst 1, 1) := by decide +kernel
theorem dX8_isWord_66 : decode cX8_isWord 66 = .ok (.ireturn, 1) := by decide +kernel
theorem dX8_take_0 : decode cX8_take 0 = .ok (.aload_n 0, 1) := by decide +kernel
theorem dX8_take_1 : decode cX8_take 1 = .ok (.getfield 31, 3) := by decide +kernel
theorem dX8_take_4 : decode cX8_take 4 = .ok (.iload_n 1, 1) := by decide +kernel
theorem dX8_take_5 : decode cX8_take 5 = .ok (.if_icmp .eq 7, 3) := by decide +kernel
theorem dX8_take_8 : decode cX8_take 8 = .ok (.aload_n 0, 1) := by decide +kernel
theorem dX8_take_9 : decode cX8_take 9 = .ok (.invokevirtual 37, 3) := by decide +kernel
theorem dX8_take_12 : decode cX8_take 12 = .ok (.aload_n 0, 1) := by decide +kernel
theorem dX8_take_13 : decode cX8_take 13 = .ok (.invokevirtual 34, 3) := by decide +kernel
theorem dX8_take_16 : decode cX8_take 16 = .ok (.return_, 1) := by decide +kernel
theorem dX8_protocol_0 : decode cX8_protocol 0 = .ok (.aload_n 0, 1) := by decide +kernel
theorem dX8_protocol_1 : decode cX8_protocol 1 = .ok (.ldc 75, 2) := by decide +kernel
theorem dX8_protocol_3 : decode cX8_protocol 3 = .ok (.invokevirtual 77, 3) := by decide +kernel
theorem dX8_protocol_6 : decode cX8_protocol 6 = .ok (.ifCond .eq 7, 3) := by decide +kernel
theorem dX8_protocol_9 : decode cX8_protocol 9 = .ok (.iconst 0, 1) := by decide +kernel
theorem dX8_protocol_10 : decode cX8_protocol 10 = .ok (.goto 83, 3) := by decide +kernel
theorem dX8_protocol_13 : decode cX8_protocol 13 = .ok (.aload_n 0, 1) := by decide +kernel
theorem dX8_protocol_14 : decode cX8_protocol 14 = .ok (.ldc 81, 2) := by decide +kernel
theorem dX8_protocol_16 : decode cX8_protocol 16 = .ok (.invokevirtual 77, 3) := by decide +kernel
theorem dX8_protocol_19 : decode cX8_protocol 19 = .ok (.ifCond .eq 7, 3) := by decide +kernel
theorem dX8_protocol_22 : decode cX8_protocol 22 = .ok (.iconst 1, 1) := by decide +kernel
theorem dX8_protocol_23 : decode cX8_protocol 23 = .ok (.goto 70, 3) := by decide +kernel
theorem dX8_protocol_26 : decode cX8_protocol 26 = .ok (.aload_n 0, 1) := by decide +kernel
theorem dX8_protocol_27 : decode cX8_protocol 27 = .ok (.ldc 83, 2) := by decide +kernel
theorem dX8_protocol_29 : decode cX8_protocol 29 = .ok (.invokevirtual 77, 3) := by decide +kernel
theorem dX8_protocol_32 : decode cX8_protocol 32 = .ok (.ifCond .eq 7, 3) := by decide +kernel
theorem dX8_protocol_35 : decode cX8_protocol 35 = .ok (.iconst 2, 1) := by decide +kernel
theorem dX8_protocol_36 : decode cX8_protocol 36 = .ok (.goto 57, 3) := by decide +kernel
theorem dX8_protocol_39 : decode cX8_protocol 39 = .ok (.aload_n 0, 1) := by decide +kernel
theorem dX8_protocol_40 : decode cX8_protocol 40 = .ok (.ldc 85, 2) := by decide +kernel
theorem dX8_protocol_42 : decode cX8_protocol 42 = .ok (.invokevirtual 77, 3) := by decide +kernel
theorem dX8_protocol_45 : decode cX8_protocol 45 = .ok (.ifCond .eq 7, 3) := by decide +kernel
theorem dX8_protocol_48 : decode cX8_protocol 48 = .ok (.iconst 3, 1) := by decide +kernel
theorem dX8_protocol_49 : decode cX8_protocol 49 = .ok (.goto 44, 3) := by decide +kernel
theorem dX8_protocol_52 : decode cX8_protocol 52 = .ok (.aload_n 0, 1) := by decide +kernel
theorem dX8_protocol_53 : decode cX8_protocol 53 = .ok (.ldc 87, 2) := by decide +kernel
theorem dX8_protocol_55 : decode cX8_protocol 55 = .ok (.invokevirtual 77, 3) := by decide +kernel
theorem dX8_protocol_58 : decode cX8_protocol 58 = .ok (.ifCond .eq 7, 3) := by decide +kernel
theorem dX8_protocol_61 : decode cX8_protocol 61 = .ok (.iconst 4, 1) := by decide +kernel
theorem dX8_protocol_62 : decode cX8_protocol 62 = .ok (.goto 31, 3) := by decide +kernel
theorem dX8_protocol_65 : decode cX8_protocol 65 = .ok (.aload_n 0, 1) := by decide +kernel
theorem dX8_protocol_66 : decode cX8_protocol 66 = .ok (.ldc 89, 2) := by decide +kernel
theorem dX8_protocol_68 : decode cX8_protocol 68 = .ok (.invokevirtual 77, 3) := by decide +kernel
theorem dX8_protocol_71 : decode cX8_protocol 71 = .ok (.ifCond .eq 7, 3) := by decide +kernel
theorem dX8_protocol_74 : decode cX8_protocol 74 = .ok (.iconst 5, 1) := by decide +kernel
theorem dX8_protocol_75 : decode cX8_protocol 75 = .ok (.goto 18, 3) := by decide +kernel
theorem dX8_protocol_78 : decode cX8_protocol 78 = .ok (.aload_n 0, 1) := by decide +kernel
theorem dX8_protocol_79 : decode cX8_protocol 79 = .ok (.ldc 91, 2) := by decide +kernel
theorem dX8_protocol_81 : decode cX8_protocol 81 = .ok (.invokevirtual 77, 3) := by decide +kernel
theorem dX8_protocol_84 : decode cX8_protocol 84 = .ok (.ifCond .eq 8, 3) := by decide +kernel
theorem dX8_protocol_87 : decode cX8_protocol 87 = .ok (.bipush 6, 2) := by decide +kernel
theorem dX8_protocol_89 : decode cX8_protocol 89 = .ok (.goto 4, 3) := by decide +kernel
theorem dX8_protocol_92 : decode cX8_protocol 92 = .ok (.iconst (-1), 1) := by decide +kernel
theorem dX8_protocol_93 : decode cX8_protocol 93 = .ok (.ireturn, 1) := by decide +kernel
theorem dX8_number_0 : decode cX8_number 0 = .ok (.aload_n 0, 1) := by decide +kernel
theorem dX8_number_1 : decode cX8_number 1 = .ok (.getfield 31, 3) := by decide +kernel
theorem dX8_number_4 : decode cX8_number 4 = .ok (.iconst 2, 1) := by decide +kernel
theorem dX8_number_5 : decode cX8_number 5 = .ok (.if_icmp .eq 7, 3) := by decide +kernel
theorem dX8_number_8 : decode cX8_number 8 = .ok (.ldc2_w 93, 3) := by decide +kernel
theorem dX8_number_11 : decode cX8_number 11 = .ok (.lreturn, 1) := by decide +kernel
theorem dX8_number_12 : decode cX8_number 12 = .ok (.aload_n 0, 1) := by decide +kernel
theorem dX8_number_13 : decode cX8_number 13 = .ok (.getfield 9, 3) := by decide +kernel
theorem dX8_number_16 : decode cX8_number 16 = .ok (.aload_n 0, 1) := by decide +kernel
theorem dX8_number_17 : decode cX8_number 17 = .ok (.getfield 40, 3) := by decide +kernel
theorem dX8_number_20 : decode cX8_number 20 = .ok (.invokevirtual 47, 3) := by decide +kernel
theorem dX8_number_23 : decode cX8_number 23 = .ok (.bipush 48, 2) := by decide +kernel
theorem dX8_number_25 : decode cX8_number 25 = .ok (.if_icmp .ne 26, 3) := by decide +kernel
theorem dX8_number_28 : decode cX8_number 28 = .ok (.aload_n 0, 1) := by decide +kernel
theorem dX8_number_29 : decode cX8_number 29 = .ok (.getfield 9, 3) := by decide +kernel
theorem dX8_number_32 : decode cX8_number 32 = .ok (.aload_n 0, 1) := by decide +kernel
theorem dX8_number_33 : decode cX8_number 33 = .ok (.getfield 40, 3) := by decide +kernel
theorem dX8_number_36 : decode cX8_number 36 = .ok (.iconst 1, 1) := by decide +kernel
theorem dX8_number_37 : decode cX8_number 37 = .ok (.iadd, 1) := by decide +kernel
theorem dX8_number_38 : decode cX8_number 38 = .ok (.invokevirtual 47, 3) := by decide +kernel
theorem dX8_number_41 : decode cX8_number 41 = .ok (.bipush 120, 2) := by decide +kernel
theorem dX8_number_43 : decode cX8_number 43 = .ok (.if_icmp .ne 8, 3) := by decide +kernel
theorem dX8_number_46 : decode cX8_number 46 = .ok (.aload_n 0, 1) := by decide +kernel
theorem dX8_number_47 : decode cX8_number 47 = .ok (.invokevirtual 95, 3) := by decide +kernel
theorem dX8_number_50 : decode cX8_number 50 = .ok (.lreturn, 1) := by decide +kernel
theorem dX8_number_51 : decode cX8_number 51 = .ok (.aload_n 0, 1) := by decide +kernel
theorem dX8_number_52 : decode cX8_number 52 = .ok (.aload_n 0, 1) := by decide +kernel
theorem dX8_number_53 : decode cX8_number 53 = .ok (.getfield 40, 3) := by decide +kernel
theorem dX8_number_56 : decode cX8_number 56 = .ok (.aload_n 0, 1) := by decide +kernel
theorem dX8_number_57 : decode cX8_number 57 = .ok (.getfield 24, 3) := by decide +kernel
theorem dX8_number_60 : decode cX8_number 60 = .ok (.ldc2_w 99, 3) := by decide +kernel
theorem dX8_number_63 : decode cX8_number 63 = .ok (.invokevirtual 101, 3) := by decide +kernel
theorem dX8_number_66 : decode cX8_number 66 = .ok (.lreturn, 1) := by decide +kernel
theorem dX8_hexadecimal_0 : decode cX8_hexadecimal 0 = .ok (.aload_n 0, 1) := by decide +kernel
theorem dX8_hexadecimal_1 : decode cX8_hexadecimal 1 = .ok (.getfield 24, 3) := by decide +kernel
theorem dX8_hexadecimal_4 : decode cX8_hexadecimal 4 = .ok (.aload_n 0, 1) := by decide +kernel
theorem dX8_hexadecimal_5 : decode cX8_hexadecimal 5 = .ok (.getfield 40, 3) := by decide +kernel
theorem dX8_hexadecimal_8 : decode cX8_hexadecimal 8 = .ok (.isub, 1) := by decide +kernel
theorem dX8_hexadecimal_9 : decode cX8_hexadecimal 9 = .ok (.iconst 2, 1) := by decide +kernel
theorem dX8_hexadecimal_10 : decode cX8_hexadecimal 10 = .ok (.isub, 1) := by decide +kernel
theorem dX8_hexadecimal_11 : decode cX8_hexadecimal 11 = .ok (.istore_n 1, 1) := by decide +kernel
theorem dX8_hexadecimal_12 : decode cX8_hexadecimal 12 = .ok (.iload_n 1, 1) := by decide +kernel
theorem dX8_hexadecimal_13 : decode cX8_hexadecimal 13 = .ok (.iconst 1, 1) := by decide +kernel
theorem dX8_hexadecimal_14 : decode cX8_hexadecimal 14 = .ok (.if_icmp .lt 9, 3) := by decide +kernel
theorem dX8_hexadecimal_17 : decode cX8_hexadecimal 17 = .ok (.iload_n 1, 1) := by decide +kernel
theorem dX8_hexadecimal_18 : decode cX8_hexadecimal 18 = .ok (.bipush 8, 2) := by decide +kernel
theorem dX8_hexadecimal_20 : decode cX8_hexadecimal 20 = .ok (.if_icmp .le 7, 3) := by decide +kernel
theorem dX8_hexadecimal_23 : decode cX8_hexadecimal 23 = .ok (.ldc2_w 93, 3) := by decide +kernel
theorem dX8_hexadecimal_26 : decode cX8_hexadecimal 26 = .ok (.lreturn, 1) := by decide +kernel
theorem dX8_hexadecimal_27 : decode cX8_hexadecimal 27 = .ok (.lconst 0, 1) := by decide +kernel
theorem dX8_hexadecimal_28 : decode cX8_hexadecimal 28 = .ok (.lstore_n 2, 1) := by decide +kernel
theorem dX8_hexadecimal_29 : decode cX8_hexadecimal 29 = .ok (.aload_n 0, 1) := by decide +kernel
theorem dX8_hexadecimal_30 : decode cX8_hexadecimal 30 = .ok (.getfield 40, 3) := by decide +kernel
theorem dX8_hexadecimal_33 : decode cX8_hexadecimal 33 = .ok (.iconst 2, 1) := by decide +kernel
theorem dX8_hexadecimal_34 : decode cX8_hexadecimal 34 = .ok (.iadd, 1) := by decide +kernel
theorem dX8_hexadecimal_35 : decode cX8_hexadecimal 35 = .ok (.istore 4, 2) := by decide +kernel
theorem dX8_hexadecimal_37 : decode cX8_hexadecimal 37 = .ok (.iload 4, 2) := by decide +kernel
theorem dX8_hexadecimal_39 : decode cX8_hexadecimal 39 = .ok (.aload_n 0, 1) := by decide +kernel
theorem dX8_hexadecimal_40 : decode cX8_hexadecimal 40 = .ok (.getfield 24, 3) := by decide +kernel
theorem dX8_hexadecimal_43 : decode cX8_hexadecimal 43 = .ok (.if_icmp .ge 78, 3) := by decide +kernel
theorem dX8_hexadecimal_46 : decode cX8_hexadecimal 46 = .ok (.aload_n 0, 1) := by decide +kernel
theorem dX8_hexadecimal_47 : decode cX8_hexadecimal 47 = .ok (.getfield 9, 3) := by decide +kernel
theorem dX8_hexadecimal_50 : decode cX8_hexadecimal 50 = .ok (.iload 4, 2) := by decide +kernel
theorem dX8_hexadecimal_52 : decode cX8_hexadecimal 52 = .ok (.invokevirtual 47, 3) := by decide +kernel
theorem dX8_hexadecimal_55 : decode cX8_hexadecimal 55 = .ok (.istore 5, 2) := by decide +kernel
theorem dX8_hexadecimal_57 : decode cX8_hexadecimal 57 = .ok (.iload 5, 2) := by decide +kernel
theorem dX8_hexadecimal_59 : decode cX8_hexadecimal 59 = .ok (.invokestatic 105, 3) := by decide +kernel
theorem dX8_hexadecimal_62 : decode cX8_hexadecimal 62 = .ok (.ifCond .ne 21, 3) := by decide +kernel
theorem dX8_hexadecimal_65 : decode cX8_hexadecimal 65 = .ok (.iload 5, 2) := by decide +kernel
theorem dX8_hexadecimal_67 : decode cX8_hexadecimal 67 = .ok (.bipush 97, 2) := by decide +kernel
theorem dX8_hexadecimal_69 : decode cX8_hexadecimal 69 = .ok (.if_icmp .lt 10, 3) := by decide +kernel
theorem dX8_hexadecimal_72 : decode cX8_hexadecimal 72 = .ok (.iload 5, 2) := by decide +kernel
theorem dX8_hexadecimal_74 : decode cX8_hexadecimal 74 = .ok (.bipush 102, 2) := by decide +kernel
theorem dX8_hexadecimal_76 : decode cX8_hexadecimal 76 = .ok (.if_icmp .le 7, 3) := by decide +kernel
theorem dX8_hexadecimal_79 : decode cX8_hexadecimal 79 = .ok (.ldc2_w 93, 3) := by decide +kernel
theorem dX8_hexadecimal_82 : decode cX8_hexadecimal 82 = .ok (.lreturn, 1) := by decide +kernel
theorem dX8_hexadecimal_83 : decode cX8_hexadecimal 83 = .ok (.lload_n 2, 1) := by decide +kernel
theorem dX8_hexadecimal_84 : decode cX8_hexadecimal 84 = .ok (.ldc2_w 108, 3) := by decide +kernel
theorem dX8_hexadecimal_87 : decode cX8_hexadecimal 87 = .ok (.lmul, 1) := by decide +kernel
theorem dX8_hexadecimal_88 : decode cX8_hexadecimal 88 = .ok (.iload 5, 2) := by decide +kernel
theorem dX8_hexadecimal_90 : decode cX8_hexadecimal 90 = .ok (.invokestatic 105, 3) := by decide +kernel
theorem dX8_hexadecimal_93 : decode cX8_hexadecimal 93 = .ok (.ifCond .eq 11, 3) := by decide +kernel
theorem dX8_hexadecimal_96 : decode cX8_hexadecimal 96 = .ok (.iload 5, 2) := by decide +kernel
theorem dX8_hexadecimal_98 : decode cX8_hexadecimal 98 = .ok (.bipush 48, 2) := by decide +kernel
theorem dX8_hexadecimal_100 : decode cX8_hexadecimal 100 = .ok (.isub, 1) := by decide +kernel
theorem dX8_hexadecimal_101 : decode cX8_hexadecimal 101 = .ok (.goto 11, 3) := by decide +kernel
theorem dX8_hexadecimal_104 : decode cX8_hexadecimal 104 = .ok (.iload 5, 2) := by decide +kernel
theorem dX8_hexadecimal_106 : decode cX8_hexadecimal 106 = .ok (.bipush 97, 2) := by decide +kernel
theorem dX8_hexadecimal_108 : decode cX8_hexadecimal 108 = .ok (.isub, 1) := by decide +kernel
theorem dX8_hexadecimal_109 : decode cX8_hexadecimal 109 = .ok (.bipush 10, 2) := by decide +kernel
theorem dX8_hexadecimal_111 : decode cX8_hexadecimal 111 = .ok (.iadd, 1) := by decide +kernel
theorem dX8_hexadecimal_112 : decode cX8_hexadecimal 112 = .ok (.i2l, 1) := by decide +kernel
theorem dX8_hexadecimal_113 : decode cX8_hexadecimal 113 = .ok (.ladd, 1) := by decide +kernel
theorem dX8_hexadecimal_114 : decode cX8_hexadecimal 114 = .ok (.lstore_n 2, 1) := by decide +kernel
theorem dX8_hexadecimal_115 : decode cX8_hexadecimal 115 = .ok (.iinc 4 1, 3) := by decide +kernel
theorem dX8_hexadecimal_118 : decode cX8_hexadecimal 118 = .ok (.goto (-81), 3) := by decide +kernel
theorem dX8_hexadecimal_121 : decode cX8_hexadecimal 121 = .ok (.lload_n 2, 1) := by decide +kernel
theorem dX8_hexadecimal_122 : decode cX8_hexadecimal 122 = .ok (.lreturn, 1) := by decide +kernel
theorem dX8_digits_0 : decode cX8_digits 0 = .ok (.iload_n 1, 1) := by decide +kernel
theorem dX8_digits_1 : decode cX8_digits 1 = .ok (.iload_n 2, 1) := by decide +kernel
theorem dX8_digits_2 : decode cX8_digits 2 = .ok (.if_icmp .lt 7, 3) := by decide +kernel
theorem dX8_digits_5 : decode cX8_digits 5 = .ok (.ldc2_w 93, 3) := by decide +kernel
theorem dX8_digits_8 : decode cX8_digits 8 = .ok (.lreturn, 1) := by decide +kernel
theorem dX8_digits_9 : decode cX8_digits 9 = .ok (.lconst 0, 1) := by decide +kernel
theorem dX8_digits_10 : decode cX8_digits 10 = .ok (.lstore 5, 2) := by decide +kernel
theorem dX8_digits_12 : decode cX8_digits 12 = .ok (.iload_n 1, 1) := by decide +kernel
theorem dX8_digits_13 : decode cX8_digits 13 = .ok (.istore 7, 2) := by decide +kernel
theorem dX8_digits_15 : decode cX8_digits 15 = .ok (.iload 7, 2) := by decide +kernel
theorem dX8_digits_17 : decode cX8_digits 17 = .ok (.iload_n 2, 1) := by decide +kernel
theorem dX8_digits_18 : decode cX8_digits 18 = .ok (.if_icmp .ge 59, 3) := by decide +kernel
theorem dX8_digits_21 : decode cX8_digits 21 = .ok (.aload_n 0, 1) := by decide +kernel
theorem dX8_digits_22 : decode cX8_digits 22 = .ok (.getfield 9, 3) := by decide +kernel
theorem dX8_digits_25 : decode cX8_digits 25 = .ok (.iload 7, 2) := by decide +kernel
theorem dX8_digits_27 : decode cX8_digits 27 = .ok (.invokevirtual 47, 3) := by decide +kernel
theorem dX8_digits_30 : decode cX8_digits 30 = .ok (.istore 8, 2) := by decide +kernel
theorem dX8_digits_32 : decode cX8_digits 32 = .ok (.iload 8, 2) := by decide +kernel
theorem dX8_digits_34 : decode cX8_digits 34 = .ok (.invokestatic 105, 3) := by decide +kernel
theorem dX8_digits_37 : decode cX8_digits 37 = .ok (.ifCond .ne 7, 3) := by decide +kernel
theorem dX8_digits_40 : decode cX8_digits 40 = .ok (.ldc2_w 93, 3) := by decide +kernel
theorem dX8_digits_43 : decode cX8_digits 43 = .ok (.lreturn, 1) := by decide +kernel
theorem dX8_digits_44 : decode cX8_digits 44 = .ok (.lload 5, 2) := by decide +kernel
theorem dX8_digits_46 : decode cX8_digits 46 = .ok (.ldc2_w 110, 3) := by decide +kernel
theorem dX8_digits_49 : decode cX8_digits 49 = .ok (.lmul, 1) := by decide +kernel
theorem dX8_digits_50 : decode cX8_digits 50 = .ok (.iload 8, 2) := by decide +kernel
theorem dX8_digits_52 : decode cX8_digits 52 = .ok (.i2l, 1) := by decide +kernel
theorem dX8_digits_53 : decode cX8_digits 53 = .ok (.ladd, 1) := by decide +kernel
theorem dX8_digits_54 : decode cX8_digits 54 = .ok (.ldc2_w 112, 3) := by decide +kernel
theorem dX8_digits_57 : decode cX8_digits 57 = .ok (.lsub, 1) := by decide +kernel
theorem dX8_digits_58 : decode cX8_digits 58 = .ok (.lstore 5, 2) := by decide +kernel
theorem dX8_digits_60 : decode cX8_digits 60 = .ok (.lload 5, 2) := by decide +kernel
theorem dX8_digits_62 : decode cX8_digits 62 = .ok (.lload_n 3, 1) := by decide +kernel
theorem dX8_digits_63 : decode cX8_digits 63 = .ok (.lcmp, 1) := by decide +kernel
theorem dX8_digits_64 : decode cX8_digits 64 = .ok (.ifCond .le 7, 3) := by decide +kernel
theorem dX8_digits_67 : decode cX8_digits 67 = .ok (.ldc2_w 93, 3) := by decide +kernel
theorem dX8_digits_70 : decode cX8_digits 70 = .ok (.lreturn, 1) := by decide +kernel
theorem dX8_digits_71 : decode cX8_digits 71 = .ok (.iinc 7 1, 3) := by decide +kernel
theorem dX8_digits_74 : decode cX8_digits 74 = .ok (.goto (-59), 3) := by decide +kernel
theorem dX8_digits_77 : decode cX8_digits 77 = .ok (.lload 5, 2) := by decide +kernel
theorem dX8_digits_79 : decode cX8_digits 79 = .ok (.lreturn, 1) := by decide +kernel
theorem dX8_address_0 : decode cX8_address 0 = .ok (.aload_n 0, 1) := by decide +kernel
theorem dX8_address_1 : decode cX8_address 1 = .ok (.getfield 31, 3) := by decide +kernel
theorem dX8_address_4 : decode cX8_address 4 = .ok (.iconst 2, 1) := by decide +kernel
theorem dX8_address_5 : decode cX8_address 5 = .ok (.if_icmp .eq 7, 3) := by decide +kernel
theorem dX8_address_8 : decode cX8_address 8 = .ok (.ldc2_w 93, 3) := by decide +kernel
theorem dX8_address_11 : decode cX8_address 11 = .ok (.lreturn, 1) := by decide +kernel
theorem dX8_address_12 : decode cX8_address 12 = .ok (.lconst 0, 1) := by decide +kernel
theorem dX8_address_13 : decode cX8_address 13 = .ok (.lstore_n 1, 1) := by decide +kernel
theorem dX8_address_14 : decode cX8_address 14 = .ok (.aload_n 0, 1) := by decide +kernel
theorem dX8_address_15 : decode cX8_address 15 = .ok (.getfield 40, 3) := by decide +kernel
theorem dX8_address_18 : decode cX8_address 18 = .ok (.istore_n 3, 1) := by decide +kernel
theorem dX8_address_19 : decode cX8_address 19 = .ok (.iconst 0, 1) := by decide +kernel
theorem dX8_address_20 : decode cX8_address 20 = .ok (.istore 4, 2) := by decide +kernel
theorem dX8_address_22 : decode cX8_address 22 = .ok (.iload 4, 2) := by decide +kernel
theorem dX8_address_24 : decode cX8_address 24 = .ok (.iconst 4, 1) := by decide +kernel
theorem dX8_address_25 : decode cX8_address 25 = .ok (.if_icmp .ge 65, 3) := by decide +kernel
theorem dX8_address_28 : decode cX8_address 28 = .ok (.iload 4, 2) := by decide +kernel
theorem dX8_address_30 : decode cX8_address 30 = .ok (.iconst 3, 1) := by decide +kernel
theorem dX8_address_31 : decode cX8_address 31 = .ok (.if_icmp .ne 10, 3) := by decide +kernel
theorem dX8_address_34 : decode cX8_address 34 = .ok (.aload_n 0, 1) := by decide +kernel
theorem dX8_address_35 : decode cX8_address 35 = .ok (.getfield 24, 3) := by decide +kernel
theorem dX8_address_38 : decode cX8_address 38 = .ok (.goto 8, 3) := by decide +kernel
theorem dX8_address_41 : decode cX8_address 41 = .ok (.aload_n 0, 1) := by decide +kernel
theorem dX8_address_42 : decode cX8_address 42 = .ok (.iload_n 3, 1) := by decide +kernel
theorem dX8_address_43 : decode cX8_address 43 = .ok (.invokevirtual 114, 3) := by decide +kernel
theorem dX8_address_46 : decode cX8_address 46 = .ok (.istore 5, 2) := by decide +kernel
theorem dX8_address_48 : decode cX8_address 48 = .ok (.aload_n 0, 1) := by decide +kernel
theorem dX8_address_49 : decode cX8_address 49 = .ok (.iload_n 3, 1) := by decide +kernel
theorem dX8_address_50 : decode cX8_address 50 = .ok (.iload 5, 2) := by decide +kernel
theorem dX8_address_52 : decode cX8_address 52 = .ok (.ldc2_w 117, 3) := by decide +kernel
theorem dX8_address_55 : decode cX8_address 55 = .ok (.invokevirtual 101, 3) := by decide +kernel
theorem dX8_address_58 : decode cX8_address 58 = .ok (.lstore 6, 2) := by decide +kernel
theorem dX8_address_60 : decode cX8_address 60 = .ok (.lload 6, 2) := by decide +kernel
theorem dX8_address_62 : decode cX8_address 62 = .ok (.lconst 0, 1) := by decide +kernel
theorem dX8_address_63 : decode cX8_address 63 = .ok (.lcmp, 1) := by decide +kernel
theorem dX8_address_64 : decode cX8_address 64 = .ok (.ifCond .ge 7, 3) := by decide +kernel
theorem dX8_address_67 : decode cX8_address 67 = .ok (.ldc2_w 93, 3) := by decide +kernel
theorem dX8_address_70 : decode cX8_address 70 = .ok (.lreturn, 1) := by decide +kernel
theorem dX8_address_71 : decode cX8_address 71 = .ok (.lload_n 1, 1) := by decide +kernel
theorem dX8_address_72 : decode cX8_address 72 = .ok (.bipush 8, 2) := by decide +kernel
theorem dX8_address_74 : decode cX8_address 74 = .ok (.lshl, 1) := by decide +kernel
theorem dX8_address_75 : decode cX8_address 75 = .ok (.lload 6, 2) := by decide +kernel
theorem dX8_address_77 : decode cX8_address 77 = .ok (.lor, 1) := by decide +kernel
theorem dX8_address_78 : decode cX8_address 78 = .ok (.lstore_n 1, 1) := by decide +kernel
theorem dX8_address_79 : decode cX8_address 79 = .ok (.iload 5, 2) := by decide +kernel
theorem dX8_address_81 : decode cX8_address 81 = .ok (.iconst 1, 1) := by decide +kernel
theorem dX8_address_82 : decode cX8_address 82 = .ok (.iadd, 1) := by decide +kernel
theorem dX8_address_83 : decode cX8_address 83 = .ok (.istore_n 3, 1) := by decide +kernel
theorem dX8_address_84 : decode cX8_address 84 = .ok (.iinc 4 1, 3) := by decide +kernel
theorem dX8_address_87 : decode cX8_address 87 = .ok (.goto (-65), 3) := by decide +kernel
theorem dX8_address_90 : decode cX8_address 90 = .ok (.lload_n 1, 1) := by decide +kernel
theorem dX8_address_91 : decode cX8_address 91 = .ok (.lreturn, 1) := by decide +kernel
theorem dX8_dotFrom_0 : decode cX8_dotFrom 0 = .ok (.iload_n 1, 1) := by decide +kernel
theorem dX8_dotFrom_1 : decode cX8_dotFrom 1 = .ok (.istore_n 2, 1) := by decide +kernel
theorem dX8_dotFrom_2 : decode cX8_dotFrom 2 = .ok (.iload_n 2, 1) := by decide +kernel
theorem dX8_dotFrom_3 : decode cX8_dotFrom 3 = .ok (.aload_n 0, 1) := by decide +kernel
theorem dX8_dotFrom_4 : decode cX8_dotFrom 4 = .ok (.getfield 24, 3) := by decide +kernel
theorem dX8_dotFrom_7 : decode cX8_dotFrom 7 = .ok (.if_icmp .ge 24, 3) := by decide +kernel
theorem dX8_dotFrom_10 : decode cX8_dotFrom 10 = .ok (.aload_n 0, 1) := by decide +kernel
theorem dX8_dotFrom_11 : decode cX8_dotFrom 11 = .ok (.getfield 9, 3) := by decide +kernel
theorem dX8_dotFrom_14 : decode cX8_dotFrom 14 = .ok (.iload_n 2, 1) := by decide +kernel
theorem dX8_dotFrom_15 : decode cX8_dotFrom 15 = .ok (.invokevirtual 47, 3) := by decide +kernel
theorem dX8_dotFrom_18 : decode cX8_dotFrom 18 = .ok (.bipush 46, 2) := by decide +kernel
theorem dX8_dotFrom_20 : decode cX8_dotFrom 20 = .ok (.if_icmp .ne 5, 3) := by decide +kernel
theorem dX8_dotFrom_23 : decode cX8_dotFrom 23 = .ok (.iload_n 2, 1) := by decide +kernel
theorem dX8_dotFrom_24 : decode cX8_dotFrom 24 = .ok (.ireturn, 1) := by decide +kernel
theorem dX8_dotFrom_25 : decode cX8_dotFrom 25 = .ok (.iinc 2 1, 3) := by decide +kernel
theorem dX8_dotFrom_28 : decode cX8_dotFrom 28 = .ok (.goto (-26), 3) := by decide +kernel
theorem dX8_dotFrom_31 : decode cX8_dotFrom 31 = .ok (.aload_n 0, 1) := by decide +kernel
theorem dX8_dotFrom_32 : decode cX8_dotFrom 32 = .ok (.getfield 24, 3) := by decide +kernel
theorem dX8_dotFrom_35 : decode cX8_dotFrom 35 = .ok (.ireturn, 1) := by decide +kernel
theorem dX8_takeNumber_0 : decode cX8_takeNumber 0 = .ok (.aload_n 0, 1) := by decide +kernel
theorem dX8_takeNumber_1 : decode cX8_takeNumber 1 = .ok (.invokevirtual 119, 3) := by decide +kernel
theorem dX8_takeNumber_4 : decode cX8_takeNumber 4 = .ok (.lstore 5, 2) := by decide +kernel
theorem dX8_takeNumber_6 : decode cX8_takeNumber 6 = .ok (.lload 5, 2) := by decide +kernel
theorem dX8_takeNumber_8 : decode cX8_takeNumber 8 = .ok (.lload_n 1, 1) := by decide +kernel
theorem dX8_takeNumber_9 : decode cX8_takeNumber 9 = .ok (.lcmp, 1) := by decide +kernel
theorem dX8_takeNumber_10 : decode cX8_takeNumber 10 = .ok (.ifCond .lt 10, 3) := by decide +kernel
theorem dX8_takeNumber_13 : decode cX8_takeNumber 13 = .ok (.lload 5, 2) := by decide +kernel
theorem dX8_takeNumber_15 : decode cX8_takeNumber 15 = .ok (.lload_n 3, 1) := by decide +kernel
theorem dX8_takeNumber_16 : decode cX8_takeNumber 16 = .ok (.lcmp, 1) := by decide +kernel
theorem dX8_takeNumber_17 : decode cX8_takeNumber 17 = .ok (.ifCond .le 9, 3) := by decide +kernel
theorem dX8_takeNumber_20 : decode cX8_takeNumber 20 = .ok (.aload_n 0, 1) := by decide +kernel
theorem dX8_takeNumber_21 : decode cX8_takeNumber 21 = .ok (.invokevirtual 37, 3) := by decide +kernel
theorem dX8_takeNumber_24 : decode cX8_takeNumber 24 = .ok (.iconst 0, 1) := by decide +kernel
theorem dX8_takeNumber_25 : decode cX8_takeNumber 25 = .ok (.ireturn, 1) := by decide +kernel
theorem dX8_takeNumber_26 : decode cX8_takeNumber 26 = .ok (.aload_n 0, 1) := by decide +kernel
theorem dX8_takeNumber_27 : decode cX8_takeNumber 27 = .ok (.invokevirtual 34, 3) := by decide +kernel
theorem dX8_takeNumber_30 : decode cX8_takeNumber 30 = .ok (.lload 5, 2) := by decide +kernel
theorem dX8_takeNumber_32 : decode cX8_takeNumber 32 = .ok (.l2i, 1) := by decide +kernel
theorem dX8_takeNumber_33 : decode cX8_takeNumber 33 = .ok (.ireturn, 1) := by decide +kernel
theorem dX8_takeSize_0 : decode cX8_takeSize 0 = .ok (.aload_n 0, 1) := by decide +kernel
theorem dX8_takeSize_1 : decode cX8_takeSize 1 = .ok (.invokevirtual 119, 3) := by decide +kernel
theorem dX8_takeSize_4 : decode cX8_takeSize 4 = .ok (.lstore_n 1, 1) := by decide +kernel
theorem dX8_takeSize_5 : decode cX8_takeSize 5 = .ok (.lload_n 1, 1) := by decide +kernel
theorem dX8_takeSize_6 : decode cX8_takeSize 6 = .ok (.lconst 1, 1) := by decide +kernel
theorem dX8_takeSize_7 : decode cX8_takeSize 7 = .ok (.lcmp, 1) := by decide +kernel
theorem dX8_takeSize_8 : decode cX8_takeSize 8 = .ok (.ifCond .eq 25, 3) := by decide +kernel
theorem dX8_takeSize_11 : decode cX8_takeSize 11 = .ok (.lload_n 1, 1) := by decide +kernel
theorem dX8_takeSize_12 : decode cX8_takeSize 12 = .ok (.ldc2_w 122, 3) := by decide +kernel
theorem dX8_takeSize_15 : decode cX8_takeSize 15 = .ok (.lcmp, 1) := by decide +kernel
theorem dX8_takeSize_16 : decode cX8_takeSize 16 = .ok (.ifCond .eq 17, 3) := by decide +kernel
theorem dX8_takeSize_19 : decode cX8_takeSize 19 = .ok (.lload_n 1, 1) := by decide +kernel
theorem dX8_takeSize_20 : decode cX8_takeSize 20 = .ok (.ldc2_w 124, 3) := by decide +kernel
theorem dX8_takeSize_23 : decode cX8_takeSize 23 = .ok (.lcmp, 1) := by decide +kernel
theorem dX8_takeSize_24 : decode cX8_takeSize 24 = .ok (.ifCond .eq 9, 3) := by decide +kernel
theorem dX8_takeSize_27 : decode cX8_takeSize 27 = .ok (.aload_n 0, 1) := by decide +kernel
theorem dX8_takeSize_28 : decode cX8_takeSize 28 = .ok (.invokevirtual 37, 3) := by decide +kernel
theorem dX8_takeSize_31 : decode cX8_takeSize 31 = .ok (.iconst 1, 1) := by decide +kernel
theorem dX8_takeSize_32 : decode cX8_takeSize 32 = .ok (.ireturn, 1) := by decide +kernel
theorem dX8_takeSize_33 : decode cX8_takeSize 33 = .ok (.aload_n 0, 1) := by decide +kernel
theorem dX8_takeSize_34 : decode cX8_takeSize 34 = .ok (.invokevirtual 34, 3) := by decide +kernel
theorem dX8_takeSize_37 : decode cX8_takeSize 37 = .ok (.lload_n 1, 1) := by decide +kernel
theorem dX8_takeSize_38 : decode cX8_takeSize 38 = .ok (.l2i, 1) := by decide +kernel
theorem dX8_takeSize_39 : decode cX8_takeSize 39 = .ok (.ireturn, 1) := by decide +kernel
theorem dX8_takeAddress_0 : decode cX8_takeAddress 0 = .ok (.aload_n 0, 1) := by decide +kernel
theorem dX8_takeAddress_1 : decode cX8_takeAddress 1 = .ok (.invokevirtual 126, 3) := by decide +kernel
theorem dX8_takeAddress_4 : decode cX8_takeAddress 4 = .ok (.lstore_n 1, 1) := by decide +kernel
theorem dX8_takeAddress_5 : decode cX8_takeAddress 5 = .ok (.lload_n 1, 1) := by decide +kernel
theorem dX8_takeAddress_6 : decode cX8_takeAddress 6 = .ok (.lconst 0, 1) := by decide +kernel
theorem dX8_takeAddress_7 : decode cX8_takeAddress 7 = .ok (.lcmp, 1) := by decide +kernel
theorem dX8_takeAddress_8 : decode cX8_takeAddress 8 = .ok (.ifCond .ge 9, 3) := by decide +kernel
theorem dX8_takeAddress_11 : decode cX8_takeAddress 11 = .ok (.aload_n 0, 1) := by decide +kernel
theorem dX8_takeAddress_12 : decode cX8_takeAddress 12 = .ok (.invokevirtual 37, 3) := by decide +kernel
theorem dX8_takeAddress_15 : decode cX8_takeAddress 15 = .ok (.iconst 0, 1) := by decide +kernel
theorem dX8_takeAddress_16 : decode cX8_takeAddress 16 = .ok (.ireturn, 1) := by decide +kernel
theorem dX8_takeAddress_17 : decode cX8_takeAddress 17 = .ok (.aload_n 0, 1) := by decide +kernel
theorem dX8_takeAddress_18 : decode cX8_takeAddress 18 = .ok (.invokevirtual 34, 3) := by decide +kernel
theorem dX8_takeAddress_21 : decode cX8_takeAddress 21 = .ok (.lload_n 1, 1) := by decide +kernel
theorem dX8_takeAddress_22 : decode cX8_takeAddress 22 = .ok (.l2i, 1) := by decide +kernel
theorem dX8_takeAddress_23 : decode cX8_takeAddress 23 = .ok (.ireturn, 1) := by decide +kernel
theorem dX8_readFilter_0 : decode cX8_readFilter 0 = .ok (.iconst 1, 1) := by decide +kernel
theorem dX8_readFilter_1 : decode cX8_readFilter 1 = .ok (.istore 4, 2) := by decide +kernel
theorem dX8_readFilter_3 : decode cX8_readFilter 3 = .ok (.iconst 0, 1) := by decide +kernel
theorem dX8_readFilter_4 : decode cX8_readFilter 4 = .ok (.istore 5, 2) := by decide +kernel
theorem dX8_readFilter_6 : decode cX8_readFilter 6 = .ok (.iload 4, 2) := by decide +kernel
theorem dX8_readFilter_8 : decode cX8_readFilter 8 = .ok (.ifCond .eq 73, 3) := by decide +kernel
theorem dX8_readFilter_11 : decode cX8_readFilter 11 = .ok (.iload 5, 2) := by decide +kernel
theorem dX8_readFilter_13 : decode cX8_readFilter 13 = .ok (.sipush 2000, 3) := by decide +kernel
theorem dX8_readFilter_16 : decode cX8_readFilter 16 = .ok (.if_icmp .ge 65, 3) := by decide +kernel
theorem dX8_readFilter_19 : decode cX8_readFilter 19 = .ok (.aload_n 0, 1) := by decide +kernel
theorem dX8_readFilter_20 : decode cX8_readFilter 20 = .ok (.getfield 15, 3) := by decide +kernel
theorem dX8_readFilter_23 : decode cX8_readFilter 23 = .ok (.invokevirtual 129, 3) := by decide +kernel
theorem dX8_readFilter_26 : decode cX8_readFilter 26 = .ok (.istore 6, 2) := by decide +kernel
theorem dX8_readFilter_28 : decode cX8_readFilter 28 = .ok (.aload_n 0, 1) := by decide +kernel
theorem dX8_readFilter_29 : decode cX8_readFilter 29 = .ok (.iload_n 1, 1) := by decide +kernel
theorem dX8_readFilter_30 : decode cX8_readFilter 30 = .ok (.iload 6, 2) := by decide +kernel
theorem dX8_readFilter_32 : decode cX8_readFilter 32 = .ok (.iload_n 3, 1) := by decide +kernel
theorem dX8_readFilter_33 : decode cX8_readFilter 33 = .ok (.invokevirtual 132, 3) := by decide +kernel
theorem dX8_readFilter_36 : decode cX8_readFilter 36 = .ok (.aload_n 0, 1) := by decide +kernel
theorem dX8_readFilter_37 : decode cX8_readFilter 37 = .ok (.ldc 136, 2) := by decide +kernel
theorem dX8_readFilter_39 : decode cX8_readFilter 39 = .ok (.invokevirtual 77, 3) := by decide +kernel
theorem dX8_readFilter_42 : decode cX8_readFilter 42 = .ok (.istore 4, 2) := by decide +kernel
theorem dX8_readFilter_44 : decode cX8_readFilter 44 = .ok (.iload 4, 2) := by decide +kernel
theorem dX8_readFilter_46 : decode cX8_readFilter 46 = .ok (.ifCond .eq 19, 3) := by decide +kernel
theorem dX8_readFilter_49 : decode cX8_readFilter 49 = .ok (.aload_n 0, 1) := by decide +kernel
theorem dX8_readFilter_50 : decode cX8_readFilter 50 = .ok (.getfield 15, 3) := by decide +kernel
theorem dX8_readFilter_53 : decode cX8_readFilter 53 = .ok (.iload 6, 2) := by decide +kernel
theorem dX8_readFilter_55 : decode cX8_readFilter 55 = .ok (.invokevirtual 138, 3) := by decide +kernel
theorem dX8_readFilter_58 : decode cX8_readFilter 58 = .ok (.aload_n 0, 1) := by decide +kernel
theorem dX8_readFilter_59 : decode cX8_readFilter 59 = .ok (.invokevirtual 34, 3) := by decide +kernel
theorem dX8_readFilter_62 : decode cX8_readFilter 62 = .ok (.goto 13, 3) := by decide +kernel
theorem dX8_readFilter_65 : decode cX8_readFilter 65 = .ok (.aload_n 0, 1) := by decide +kernel
theorem dX8_readFilter_66 : decode cX8_readFilter 66 = .ok (.getfield 15, 3) := by decide +kernel
theorem dX8_readFilter_69 : decode cX8_readFilter 69 = .ok (.iload 6, 2) := by decide +kernel
theorem dX8_readFilter_71 : decode cX8_readFilter 71 = .ok (.iload_n 2, 1) := by decide +kernel
theorem dX8_readFilter_72 : decode cX8_readFilter 72 = .ok (.invokevirtual 142, 3) := by decide +kernel
theorem dX8_readFilter_75 : decode cX8_readFilter 75 = .ok (.iinc 5 1, 3) := by decide +kernel
theorem dX8_readFilter_78 : decode cX8_readFilter 78 = .ok (.goto (-72), 3) := by decide +kernel
theorem dX8_readFilter_81 : decode cX8_readFilter 81 = .ok (.return_, 1) := by decide +kernel
theorem dX8_readRow_0 : decode cX8_readRow 0 = .ok (.iconst 1, 1) := by decide +kernel
theorem dX8_readRow_1 : decode cX8_readRow 1 = .ok (.istore 4, 2) := by decide +kernel
theorem dX8_readRow_3 : decode cX8_readRow 3 = .ok (.iconst 0, 1) := by decide +kernel
theorem dX8_readRow_4 : decode cX8_readRow 4 = .ok (.istore 5, 2) := by decide +kernel
theorem dX8_readRow_6 : decode cX8_readRow 6 = .ok (.iload 4, 2) := by decide +kernel
theorem dX8_readRow_8 : decode cX8_readRow 8 = .ok (.ifCond .eq 73, 3) := by decide +kernel
theorem dX8_readRow_11 : decode cX8_readRow 11 = .ok (.iload 5, 2) := by decide +kernel
theorem dX8_readRow_13 : decode cX8_readRow 13 = .ok (.sipush 2000, 3) := by decide +kernel
theorem dX8_readRow_16 : decode cX8_readRow 16 = .ok (.if_icmp .ge 65, 3) := by decide +kernel
theorem dX8_readRow_19 : decode cX8_readRow 19 = .ok (.aload_n 0, 1) := by decide +kernel
theorem dX8_readRow_20 : decode cX8_readRow 20 = .ok (.getfield 15, 3) := by decide +kernel
theorem dX8_readRow_23 : decode cX8_readRow 23 = .ok (.invokevirtual 129, 3) := by decide +kernel
theorem dX8_readRow_26 : decode cX8_readRow 26 = .ok (.istore 6, 2) := by decide +kernel
theorem dX8_readRow_28 : decode cX8_readRow 28 = .ok (.aload_n 0, 1) := by decide +kernel
theorem dX8_readRow_29 : decode cX8_readRow 29 = .ok (.iload 6, 2) := by decide +kernel
theorem dX8_readRow_31 : decode cX8_readRow 31 = .ok (.iload_n 2, 1) := by decide +kernel
theorem dX8_readRow_32 : decode cX8_readRow 32 = .ok (.iload_n 3, 1) := by decide +kernel
theorem dX8_readRow_33 : decode cX8_readRow 33 = .ok (.invokevirtual 146, 3) := by decide +kernel
theorem dX8_readRow_36 : decode cX8_readRow 36 = .ok (.aload_n 0, 1) := by decide +kernel
theorem dX8_readRow_37 : decode cX8_readRow 37 = .ok (.ldc 149, 2) := by decide +kernel
theorem dX8_readRow_39 : decode cX8_readRow 39 = .ok (.invokevirtual 77, 3) := by decide +kernel
theorem dX8_readRow_42 : decode cX8_readRow 42 = .ok (.istore 4, 2) := by decide +kernel
theorem dX8_readRow_44 : decode cX8_readRow 44 = .ok (.iload 4, 2) := by decide +kernel
theorem dX8_readRow_46 : decode cX8_readRow 46 = .ok (.ifCond .eq 19, 3) := by decide +kernel
theorem dX8_readRow_49 : decode cX8_readRow 49 = .ok (.aload_n 0, 1) := by decide +kernel
theorem dX8_readRow_50 : decode cX8_readRow 50 = .ok (.getfield 15, 3) := by decide +kernel
theorem dX8_readRow_53 : decode cX8_readRow 53 = .ok (.iload 6, 2) := by decide +kernel
theorem dX8_readRow_55 : decode cX8_readRow 55 = .ok (.invokevirtual 138, 3) := by decide +kernel
theorem dX8_readRow_58 : decode cX8_readRow 58 = .ok (.aload_n 0, 1) := by decide +kernel
theorem dX8_readRow_59 : decode cX8_readRow 59 = .ok (.invokevirtual 34, 3) := by decide +kernel
theorem dX8_readRow_62 : decode cX8_readRow 62 = .ok (.goto 13, 3) := by decide +kernel
theorem dX8_readRow_65 : decode cX8_readRow 65 = .ok (.aload_n 0, 1) := by decide +kernel
theorem dX8_readRow_66 : decode cX8_readRow 66 = .ok (.getfield 15, 3) := by decide +kernel
theorem dX8_readRow_69 : decode cX8_readRow 69 = .ok (.iload 6, 2) := by decide +kernel
theorem dX8_readRow_71 : decode cX8_readRow 71 = .ok (.iload_n 1, 1) := by decide +kernel
theorem dX8_readRow_72 : decode cX8_readRow 72 = .ok (.invokevirtual 142, 3) := by decide +kernel
theorem dX8_readRow_75 : decode cX8_readRow 75 = .ok (.iinc 5 1, 3) := by decide +kernel
theorem dX8_readRow_78 : decode cX8_readRow 78 = .ok (.goto (-72), 3) := by decide +kernel
theorem dX8_readRow_81 : decode cX8_readRow 81 = .ok (.return_, 1) := by decide +kernel
theorem dX8_readOne_0 : decode cX8_readOne 0 = .ok (.aload_n 0, 1) := by decide +kernel
theorem dX8_readOne_1 : decode cX8_readOne 1 = .ok (.ldc 151, 2) := by decide +kernel
theorem dX8_readOne_3 : decode cX8_readOne 3 = .ok (.invokevirtual 77, 3) := by decide +kernel
theorem dX8_readOne_6 : decode cX8_readOne 6 = .ok (.istore 4, 2) := by decide +kernel
theorem dX8_readOne_8 : decode cX8_readOne 8 = .ok (.iload 4, 2) := by decide +kernel
theorem dX8_readOne_10 : decode cX8_readOne 10 = .ok (.ifCond .ne 55, 3) := by decide +kernel
theorem dX8_readOne_13 : decode cX8_readOne 13 = .ok (.aload_n 0, 1) := by decide +kernel
theorem dX8_readOne_14 : decode cX8_readOne 14 = .ok (.getfield 31, 3) := by decide +kernel
theorem dX8_readOne_17 : decode cX8_readOne 17 = .ok (.bipush 40, 2) := by decide +kernel
theorem dX8_readOne_19 : decode cX8_readOne 19 = .ok (.if_icmp .eq 46, 3) := by decide +kernel
theorem dX8_readOne_22 : decode cX8_readOne 22 = .ok (.aload_n 0, 1) := by decide +kernel
theorem dX8_readOne_23 : decode cX8_readOne 23 = .ok (.invokevirtual 153, 3) := by decide +kernel
theorem dX8_readOne_26 : decode cX8_readOne 26 = .ok (.ifCond .eq 12, 3) := by decide +kernel
theorem dX8_readOne_29 : decode cX8_readOne 29 = .ok (.aload_n 0, 1) := by decide +kernel
theorem dX8_readOne_30 : decode cX8_readOne 30 = .ok (.iload_n 1, 1) := by decide +kernel
theorem dX8_readOne_31 : decode cX8_readOne 31 = .ok (.iload_n 2, 1) := by decide +kernel
theorem dX8_readOne_32 : decode cX8_readOne 32 = .ok (.invokevirtual 157, 3) := by decide +kernel
theorem dX8_readOne_35 : decode cX8_readOne 35 = .ok (.goto 29, 3) := by decide +kernel
theorem dX8_readOne_38 : decode cX8_readOne 38 = .ok (.aload_n 0, 1) := by decide +kernel
theorem dX8_readOne_39 : decode cX8_readOne 39 = .ok (.invokevirtual 160, 3) := by decide +kernel
theorem dX8_readOne_42 : decode cX8_readOne 42 = .ok (.ifCond .lt 16, 3) := by decide +kernel
theorem dX8_readOne_45 : decode cX8_readOne 45 = .ok (.aload_n 0, 1) := by decide +kernel
theorem dX8_readOne_46 : decode cX8_readOne 46 = .ok (.aload_n 0, 1) := by decide +kernel
theorem dX8_readOne_47 : decode cX8_readOne 47 = .ok (.invokevirtual 160, 3) := by decide +kernel
theorem dX8_readOne_50 : decode cX8_readOne 50 = .ok (.iload_n 1, 1) := by decide +kernel
theorem dX8_readOne_51 : decode cX8_readOne 51 = .ok (.iload_n 2, 1) := by decide +kernel
theorem dX8_readOne_52 : decode cX8_readOne 52 = .ok (.invokevirtual 163, 3) := by decide +kernel
theorem dX8_readOne_55 : decode cX8_readOne 55 = .ok (.goto 9, 3) := by decide +kernel
theorem dX8_readOne_58 : decode cX8_readOne 58 = .ok (.aload_n 0, 1) := by decide +kernel
theorem dX8_readOne_59 : decode cX8_readOne 59 = .ok (.iload_n 1, 1) := by decide +kernel
theorem dX8_readOne_60 : decode cX8_readOne 60 = .ok (.iload_n 2, 1) := by decide +kernel
theorem dX8_readOne_61 : decode cX8_readOne 61 = .ok (.invokevirtual 166, 3) := by decide +kernel
theorem dX8_readOne_64 : decode cX8_readOne 64 = .ok (.return_, 1) := by decide +kernel
theorem dX8_readOne_65 : decode cX8_readOne 65 = .ok (.iload_n 3, 1) := by decide +kernel
theorem dX8_readOne_66 : decode cX8_readOne 66 = .ok (.bipush 20, 2) := by decide +kernel
theorem dX8_readOne_68 : decode cX8_readOne 68 = .ok (.if_icmp .lt 8, 3) := by decide +kernel
theorem dX8_readOne_71 : decode cX8_readOne 71 = .ok (.aload_n 0, 1) := by decide +kernel
theorem dX8_readOne_72 : decode cX8_readOne 72 = .ok (.invokevirtual 37, 3) := by decide +kernel
theorem dX8_readOne_75 : decode cX8_readOne 75 = .ok (.return_, 1) := by decide +kernel
theorem dX8_readOne_76 : decode cX8_readOne 76 = .ok (.aload_n 0, 1) := by decide +kernel
theorem dX8_readOne_77 : decode cX8_readOne 77 = .ok (.invokevirtual 34, 3) := by decide +kernel
theorem dX8_readOne_80 : decode cX8_readOne 80 = .ok (.iload 4, 2) := by decide +kernel
theorem dX8_readOne_82 : decode cX8_readOne 82 = .ok (.ifCond .eq 15, 3) := by decide +kernel
theorem dX8_readOne_85 : decode cX8_readOne 85 = .ok (.aload_n 0, 1) := by decide +kernel
theorem dX8_readOne_86 : decode cX8_readOne 86 = .ok (.iload_n 2, 1) := by decide +kernel
theorem dX8_readOne_87 : decode cX8_readOne 87 = .ok (.iload_n 1, 1) := by decide +kernel
theorem dX8_readOne_88 : decode cX8_readOne 88 = .ok (.iload_n 3, 1) := by decide +kernel
theorem dX8_readOne_89 : decode cX8_readOne 89 = .ok (.iconst 1, 1) := by decide +kernel
theorem dX8_readOne_90 : decode cX8_readOne 90 = .ok (.iadd, 1) := by decide +kernel
theorem dX8_readOne_91 : decode cX8_readOne 91 = .ok (.invokevirtual 146, 3) := by decide +kernel
theorem dX8_readOne_94 : decode cX8_readOne 94 = .ok (.goto 18, 3) := by decide +kernel
theorem dX8_readOne_97 : decode cX8_readOne 97 = .ok (.aload_n 0, 1) := by decide +kernel
theorem dX8_readOne_98 : decode cX8_readOne 98 = .ok (.iload_n 1, 1) := by decide +kernel
theorem dX8_readOne_99 : decode cX8_readOne 99 = .ok (.iload_n 2, 1) := by decide +kernel
theorem dX8_readOne_100 : decode cX8_readOne 100 = .ok (.iload_n 3, 1) := by decide +kernel
theorem dX8_readOne_101 : decode cX8_readOne 101 = .ok (.iconst 1, 1) := by decide +kernel
theorem dX8_readOne_102 : decode cX8_readOne 102 = .ok (.iadd, 1) := by decide +kernel
theorem dX8_readOne_103 : decode cX8_readOne 103 = .ok (.invokevirtual 169, 3) := by decide +kernel
theorem dX8_readOne_106 : decode cX8_readOne 106 = .ok (.aload_n 0, 1) := by decide +kernel
theorem dX8_readOne_107 : decode cX8_readOne 107 = .ok (.bipush 41, 2) := by decide +kernel
theorem dX8_readOne_109 : decode cX8_readOne 109 = .ok (.invokevirtual 172, 3) := by decide +kernel
theorem dX8_readOne_112 : decode cX8_readOne 112 = .ok (.return_, 1) := by decide +kernel
theorem dX8_beginsRelation_0 : decode cX8_beginsRelation 0 = .ok (.aload_n 0, 1) := by decide +kernel
theorem dX8_beginsRelation_1 : decode cX8_beginsRelation 1 = .ok (.getfield 31, 3) := by decide +kernel
theorem dX8_beginsRelation_4 : decode cX8_beginsRelation 4 = .ok (.bipush 123, 2) := by decide +kernel
theorem dX8_beginsRelation_6 : decode cX8_beginsRelation 6 = .ok (.if_icmp .eq 30, 3) := by decide +kernel
theorem dX8_beginsRelation_9 : decode cX8_beginsRelation 9 = .ok (.aload_n 0, 1) := by decide +kernel
theorem dX8_beginsRelation_10 : decode cX8_beginsRelation 10 = .ok (.getfield 31, 3) := by decide +kernel
theorem dX8_beginsRelation_13 : decode cX8_beginsRelation 13 = .ok (.bipush 45, 2) := by decide +kernel
theorem dX8_beginsRelation_15 : decode cX8_beginsRelation 15 = .ok (.if_icmp .eq 21, 3) := by decide +kernel
theorem dX8_beginsRelation_18 : decode cX8_beginsRelation 18 = .ok (.aload_n 0, 1) := by decide +kernel
theorem dX8_beginsRelation_19 : decode cX8_beginsRelation 19 = .ok (.ldc 175, 2) := by decide +kernel
theorem dX8_beginsRelation_21 : decode cX8_beginsRelation 21 = .ok (.invokevirtual 77, 3) := by decide +kernel
theorem dX8_beginsRelation_24 : decode cX8_beginsRelation 24 = .ok (.ifCond .ne 12, 3) := by decide +kernel
theorem dX8_beginsRelation_27 : decode cX8_beginsRelation 27 = .ok (.aload_n 0, 1) := by decide +kernel
theorem dX8_beginsRelation_28 : decode cX8_beginsRelation 28 = .ok (.invokevirtual 119, 3) := by decide +kernel
theorem dX8_beginsRelation_31 : decode cX8_beginsRelation 31 = .ok (.lconst 0, 1) := by decide +kernel
theorem dX8_beginsRelation_32 : decode cX8_beginsRelation 32 = .ok (.lcmp, 1) := by decide +kernel
theorem dX8_beginsRelation_33 : decode cX8_beginsRelation 33 = .ok (.ifCond .lt 5, 3) := by decide +kernel
theorem dX8_beginsRelation_36 : decode cX8_beginsRelation 36 = .ok (.iconst 1, 1) := by decide +kernel
theorem dX8_beginsRelation_37 : decode cX8_beginsRelation 37 = .ok (.ireturn, 1) := by decide +kernel
theorem dX8_beginsRelation_38 : decode cX8_beginsRelation 38 = .ok (.aload_n 0, 1) := by decide +kernel
theorem dX8_beginsRelation_39 : decode cX8_beginsRelation 39 = .ok (.invokevirtual 160, 3) := by decide +kernel
theorem dX8_beginsRelation_42 : decode cX8_beginsRelation 42 = .ok (.ifCond .lt 27, 3) := by decide +kernel
theorem dX8_beginsRelation_45 : decode cX8_beginsRelation 45 = .ok (.aload_n 0, 1) := by decide +kernel
theorem dX8_beginsRelation_46 : decode cX8_beginsRelation 46 = .ok (.getfield 9, 3) := by decide +kernel
theorem dX8_beginsRelation_49 : decode cX8_beginsRelation 49 = .ok (.aload_n 0, 1) := by decide +kernel
theorem dX8_beginsRelation_50 : decode cX8_beginsRelation 50 = .ok (.aload_n 0, 1) := by decide +kernel
theorem dX8_beginsRelation_51 : decode cX8_beginsRelation 51 = .ok (.getfield 24, 3) := by decide +kernel
theorem dX8_beginsRelation_54 : decode cX8_beginsRelation 54 = .ok (.invokevirtual 43, 3) := by decide +kernel
theorem dX8_beginsRelation_57 : decode cX8_beginsRelation 57 = .ok (.invokevirtual 47, 3) := by decide +kernel
theorem dX8_beginsRelation_60 : decode cX8_beginsRelation 60 = .ok (.bipush 91, 2) := by decide +kernel
theorem dX8_beginsRelation_62 : decode cX8_beginsRelation 62 = .ok (.if_icmp .ne 7, 3) := by decide +kernel
theorem dX8_beginsRelation_65 : decode cX8_beginsRelation 65 = .ok (.iconst 1, 1) := by decide +kernel
theorem dX8_beginsRelation_66 : decode cX8_beginsRelation 66 = .ok (.goto 4, 3) := by decide +kernel
theorem dX8_beginsRelation_69 : decode cX8_beginsRelation 69 = .ok (.iconst 0, 1) := by decide +kernel
theorem dX8_beginsRelation_70 : decode cX8_beginsRelation 70 = .ok (.ireturn, 1) := by decide +kernel
theorem dX8_readProtocol_0 : decode cX8_readProtocol 0 = .ok (.aload_n 0, 1) := by decide +kernel
theorem dX8_readProtocol_1 : decode cX8_readProtocol 1 = .ok (.invokevirtual 34, 3) := by decide +kernel
theorem dX8_readProtocol_4 : decode cX8_readProtocol 4 = .ok (.aload_n 0, 1) := by decide +kernel
theorem dX8_readProtocol_5 : decode cX8_readProtocol 5 = .ok (.ldc 177, 2) := by decide +kernel
theorem dX8_readProtocol_7 : decode cX8_readProtocol 7 = .ok (.invokevirtual 77, 3) := by decide +kernel
theorem dX8_readProtocol_10 : decode cX8_readProtocol 10 = .ok (.ifCond .eq 82, 3) := by decide +kernel
theorem dX8_readProtocol_13 : decode cX8_readProtocol 13 = .ok (.iload_n 1, 1) := by decide +kernel
theorem dX8_readProtocol_14 : decode cX8_readProtocol 14 = .ok (.ifCond .eq 8, 3) := by decide +kernel
theorem dX8_readProtocol_17 : decode cX8_readProtocol 17 = .ok (.iload_n 1, 1) := by decide +kernel
theorem dX8_readProtocol_18 : decode cX8_readProtocol 18 = .ok (.iconst 1, 1) := by decide +kernel
theorem dX8_readProtocol_19 : decode cX8_readProtocol 19 = .ok (.if_icmp .ne 73, 3) := by decide +kernel
theorem dX8_readProtocol_22 : decode cX8_readProtocol 22 = .ok (.aload_n 0, 1) := by decide +kernel
theorem dX8_readProtocol_23 : decode cX8_readProtocol 23 = .ok (.invokevirtual 34, 3) := by decide +kernel
theorem dX8_readProtocol_26 : decode cX8_readProtocol 26 = .ok (.aload_n 0, 1) := by decide +kernel
theorem dX8_readProtocol_27 : decode cX8_readProtocol 27 = .ok (.lconst 0, 1) := by decide +kernel
theorem dX8_readProtocol_28 : decode cX8_readProtocol 28 = .ok (.iload_n 1, 1) := by decide +kernel
theorem dX8_readProtocol_29 : decode cX8_readProtocol 29 = .ok (.ifCond .ne 9, 3) := by decide +kernel
theorem dX8_readProtocol_32 : decode cX8_readProtocol 32 = .ok (.ldc2_w 179, 3) := by decide +kernel
theorem dX8_readProtocol_35 : decode cX8_readProtocol 35 = .ok (.goto 6, 3) := by decide +kernel
theorem dX8_readProtocol_38 : decode cX8_readProtocol 38 = .ok (.ldc2_w 117, 3) := by decide +kernel
theorem dX8_readProtocol_41 : decode cX8_readProtocol 41 = .ok (.invokevirtual 181, 3) := by decide +kernel
theorem dX8_readProtocol_44 : decode cX8_readProtocol 44 = .ok (.istore 4, 2) := by decide +kernel
theorem dX8_readProtocol_46 : decode cX8_readProtocol 46 = .ok (.iload_n 1, 1) := by decide +kernel
theorem dX8_readProtocol_47 : decode cX8_readProtocol 47 = .ok (.ifCond .ne 17, 3) := by decide +kernel
theorem dX8_readProtocol_50 : decode cX8_readProtocol 50 = .ok (.aload_n 0, 1) := by decide +kernel
theorem dX8_readProtocol_51 : decode cX8_readProtocol 51 = .ok (.getfield 15, 3) := by decide +kernel
theorem dX8_readProtocol_54 : decode cX8_readProtocol 54 = .ok (.iload 4, 2) := by decide +kernel
theorem dX8_readProtocol_56 : decode cX8_readProtocol 56 = .ok (.iload_n 2, 1) := by decide +kernel
theorem dX8_readProtocol_57 : decode cX8_readProtocol 57 = .ok (.iload_n 3, 1) := by decide +kernel
theorem dX8_readProtocol_58 : decode cX8_readProtocol 58 = .ok (.invokevirtual 185, 3) := by decide +kernel
theorem dX8_readProtocol_61 : decode cX8_readProtocol 61 = .ok (.goto 28, 3) := by decide +kernel
theorem dX8_readProtocol_64 : decode cX8_readProtocol 64 = .ok (.aload_n 0, 1) := by decide +kernel
theorem dX8_readProtocol_65 : decode cX8_readProtocol 65 = .ok (.getfield 15, 3) := by decide +kernel
theorem dX8_readProtocol_68 : decode cX8_readProtocol 68 = .ok (.sipush 2048, 3) := by decide +kernel
theorem dX8_readProtocol_71 : decode cX8_readProtocol 71 = .ok (.iconst (-1), 1) := by decide +kernel
theorem dX8_readProtocol_72 : decode cX8_readProtocol 72 = .ok (.iload_n 3, 1) := by decide +kernel
theorem dX8_readProtocol_73 : decode cX8_readProtocol 73 = .ok (.invokevirtual 185, 3) := by decide +kernel
theorem dX8_readProtocol_76 : decode cX8_readProtocol 76 = .ok (.aload_n 0, 1) := by decide +kernel
theorem dX8_readProtocol_77 : decode cX8_readProtocol 77 = .ok (.getfield 15, 3) := by decide +kernel
theorem dX8_readProtocol_80 : decode cX8_readProtocol 80 = .ok (.bipush 23, 2) := by decide +kernel
theorem dX8_readProtocol_82 : decode cX8_readProtocol 82 = .ok (.iload 4, 2) := by decide +kernel
theorem dX8_readProtocol_84 : decode cX8_readProtocol 84 = .ok (.iload_n 2, 1) := by decide +kernel
theorem dX8_readProtocol_85 : decode cX8_readProtocol 85 = .ok (.iload_n 3, 1) := by decide +kernel
theorem dX8_readProtocol_86 : decode cX8_readProtocol 86 = .ok (.invokevirtual 188, 3) := by decide +kernel
theorem dX8_readProtocol_89 : decode cX8_readProtocol 89 = .ok (.goto 24, 3) := by decide +kernel
theorem dX8_readProtocol_92 : decode cX8_readProtocol 92 = .ok (.iload_n 1, 1) := by decide +kernel
theorem dX8_readProtocol_93 : decode cX8_readProtocol 93 = .ok (.ifCond .ne 10, 3) := by decide +kernel
theorem dX8_readProtocol_96 : decode cX8_readProtocol 96 = .ok (.aload_n 0, 1) := by decide +kernel
theorem dX8_readProtocol_97 : decode cX8_readProtocol 97 = .ok (.invokevirtual 37, 3) := by decide +kernel
theorem dX8_readProtocol_100 : decode cX8_readProtocol 100 = .ok (.goto 13, 3) := by decide +kernel
theorem dX8_readProtocol_103 : decode cX8_readProtocol 103 = .ok (.aload_n 0, 1) := by decide +kernel
theorem dX8_readProtocol_104 : decode cX8_readProtocol 104 = .ok (.getfield 15, 3) := by decide +kernel
theorem dX8_readProtocol_107 : decode cX8_readProtocol 107 = .ok (.iload_n 1, 1) := by decide +kernel
theorem dX8_readProtocol_108 : decode cX8_readProtocol 108 = .ok (.iload_n 2, 1) := by decide +kernel
theorem dX8_readProtocol_109 : decode cX8_readProtocol 109 = .ok (.iload_n 3, 1) := by decide +kernel
theorem dX8_readProtocol_110 : decode cX8_readProtocol 110 = .ok (.invokevirtual 192, 3) := by decide +kernel
theorem dX8_readProtocol_113 : decode cX8_readProtocol 113 = .ok (.return_, 1) := by decide +kernel
theorem dX8_readSided_0 : decode cX8_readSided 0 = .ok (.aload_n 0, 1) := by decide +kernel
theorem dX8_readSided_1 : decode cX8_readSided 1 = .ok (.ldc 195, 2) := by decide +kernel
theorem dX8_readSided_3 : decode cX8_readSided 3 = .ok (.invokevirtual 77, 3) := by decide +kernel
theorem dX8_readSided_6 : decode cX8_readSided 6 = .ok (.istore_n 3, 1) := by decide +kernel
theorem dX8_readSided_7 : decode cX8_readSided 7 = .ok (.aload_n 0, 1) := by decide +kernel
theorem dX8_readSided_8 : decode cX8_readSided 8 = .ok (.ldc 197, 2) := by decide +kernel
theorem dX8_readSided_10 : decode cX8_readSided 10 = .ok (.invokevirtual 77, 3) := by decide +kernel
theorem dX8_readSided_13 : decode cX8_readSided 13 = .ok (.istore 4, 2) := by decide +kernel
theorem dX8_readSided_15 : decode cX8_readSided 15 = .ok (.iload_n 3, 1) := by decide +kernel
theorem dX8_readSided_16 : decode cX8_readSided 16 = .ok (.ifCond .eq 7, 3) := by decide +kernel
theorem dX8_readSided_19 : decode cX8_readSided 19 = .ok (.iconst 1, 1) := by decide +kernel
theorem dX8_readSided_20 : decode cX8_readSided 20 = .ok (.goto 13, 3) := by decide +kernel
theorem dX8_readSided_23 : decode cX8_readSided 23 = .ok (.iload 4, 2) := by decide +kernel
theorem dX8_readSided_25 : decode cX8_readSided 25 = .ok (.ifCond .eq 7, 3) := by decide +kernel
theorem dX8_readSided_28 : decode cX8_readSided 28 = .ok (.iconst 2, 1) := by decide +kernel
theorem dX8_readSided_29 : decode cX8_readSided 29 = .ok (.goto 4, 3) := by decide +kernel
theorem dX8_readSided_32 : decode cX8_readSided 32 = .ok (.iconst 0, 1) := by decide +kernel
theorem dX8_readSided_33 : decode cX8_readSided 33 = .ok (.istore 5, 2) := by decide +kernel
theorem dX8_readSided_35 : decode cX8_readSided 35 = .ok (.iload_n 3, 1) := by decide +kernel
theorem dX8_readSided_36 : decode cX8_readSided 36 = .ok (.ifCond .ne 8, 3) := by decide +kernel
theorem dX8_readSided_39 : decode cX8_readSided 39 = .ok (.iload 4, 2) := by decide +kernel
theorem dX8_readSided_41 : decode cX8_readSided 41 = .ok (.ifCond .eq 7, 3) := by decide +kernel
theorem dX8_readSided_44 : decode cX8_readSided 44 = .ok (.aload_n 0, 1) := by decide +kernel
theorem dX8_readSided_45 : decode cX8_readSided 45 = .ok (.invokevirtual 34, 3) := by decide +kernel
theorem dX8_readSided_48 : decode cX8_readSided 48 = .ok (.aload_n 0, 1) := by decide +kernel
theorem dX8_readSided_49 : decode cX8_readSided 49 = .ok (.ldc 199, 2) := by decide +kernel
theorem dX8_readSided_51 : decode cX8_readSided 51 = .ok (.invokevirtual 77, 3) := by decide +kernel
theorem dX8_readSided_54 : decode cX8_readSided 54 = .ok (.ifCond .eq 27, 3) := by decide +kernel
theorem dX8_readSided_57 : decode cX8_readSided 57 = .ok (.aload_n 0, 1) := by decide +kernel
theorem dX8_readSided_58 : decode cX8_readSided 58 = .ok (.invokevirtual 34, 3) := by decide +kernel
theorem dX8_readSided_61 : decode cX8_readSided 61 = .ok (.aload_n 0, 1) := by decide +kernel
theorem dX8_readSided_62 : decode cX8_readSided 62 = .ok (.getfield 15, 3) := by decide +kernel
theorem dX8_readSided_65 : decode cX8_readSided 65 = .ok (.iload 5, 2) := by decide +kernel
theorem dX8_readSided_67 : decode cX8_readSided 67 = .ok (.aload_n 0, 1) := by decide +kernel
theorem dX8_readSided_68 : decode cX8_readSided 68 = .ok (.invokevirtual 201, 3) := by decide +kernel
theorem dX8_readSided_71 : decode cX8_readSided 71 = .ok (.iconst 0, 1) := by decide +kernel
theorem dX8_readSided_72 : decode cX8_readSided 72 = .ok (.iconst 0, 1) := by decide +kernel
theorem dX8_readSided_73 : decode cX8_readSided 73 = .ok (.iload_n 1, 1) := by decide +kernel
theorem dX8_readSided_74 : decode cX8_readSided 74 = .ok (.iload_n 2, 1) := by decide +kernel
theorem dX8_readSided_75 : decode cX8_readSided 75 = .ok (.invokevirtual 204, 3) := by decide +kernel
theorem dX8_readSided_78 : decode cX8_readSided 78 = .ok (.goto 136, 3) := by decide +kernel
theorem dX8_readSided_81 : decode cX8_readSided 81 = .ok (.aload_n 0, 1) := by decide +kernel
theorem dX8_readSided_82 : decode cX8_readSided 82 = .ok (.ldc 208, 2) := by decide +kernel
theorem dX8_readSided_84 : decode cX8_readSided 84 = .ok (.invokevirtual 77, 3) := by decide +kernel
theorem dX8_readSided_87 : decode cX8_readSided 87 = .ok (.ifCond .eq 14, 3) := by decide +kernel
theorem dX8_readSided_90 : decode cX8_readSided 90 = .ok (.aload_n 0, 1) := by decide +kernel
theorem dX8_readSided_91 : decode cX8_readSided 91 = .ok (.iload 5, 2) := by decide +kernel
theorem dX8_readSided_93 : decode cX8_readSided 93 = .ok (.iload_n 1, 1) := by decide +kernel
theorem dX8_readSided_94 : decode cX8_readSided 94 = .ok (.iload_n 2, 1) := by decide +kernel
theorem dX8_readSided_95 : decode cX8_readSided 95 = .ok (.invokevirtual 210, 3) := by decide +kernel
theorem dX8_readSided_98 : decode cX8_readSided 98 = .ok (.goto 116, 3) := by decide +kernel
theorem dX8_readSided_101 : decode cX8_readSided 101 = .ok (.aload_n 0, 1) := by decide +kernel
theorem dX8_readSided_102 : decode cX8_readSided 102 = .ok (.ldc 213, 2) := by decide +kernel
theorem dX8_readSided_104 : decode cX8_readSided 104 = .ok (.invokevirtual 77, 3) := by decide +kernel
theorem dX8_readSided_107 : decode cX8_readSided 107 = .ok (.ifCond .eq 34, 3) := by decide +kernel
theorem dX8_readSided_110 : decode cX8_readSided 110 = .ok (.aload_n 0, 1) := by decide +kernel
theorem dX8_readSided_111 : decode cX8_readSided 111 = .ok (.invokevirtual 34, 3) := by decide +kernel
theorem dX8_readSided_114 : decode cX8_readSided 114 = .ok (.aload_n 0, 1) := by decide +kernel
theorem dX8_readSided_115 : decode cX8_readSided 115 = .ok (.lconst 0, 1) := by decide +kernel
theorem dX8_readSided_116 : decode cX8_readSided 116 = .ok (.ldc2_w 179, 3) := by decide +kernel
theorem dX8_readSided_119 : decode cX8_readSided 119 = .ok (.invokevirtual 181, 3) := by decide +kernel
theorem dX8_readSided_122 : decode cX8_readSided 122 = .ok (.istore 6, 2) := by decide +kernel
theorem dX8_readSided_124 : decode cX8_readSided 124 = .ok (.aload_n 0, 1) := by decide +kernel
theorem dX8_readSided_125 : decode cX8_readSided 125 = .ok (.getfield 15, 3) := by decide +kernel
theorem dX8_readSided_128 : decode cX8_readSided 128 = .ok (.iload 5, 2) := by decide +kernel
theorem dX8_readSided_130 : decode cX8_readSided 130 = .ok (.iload 6, 2) := by decide +kernel
theorem dX8_readSided_132 : decode cX8_readSided 132 = .ok (.iconst (-1), 1) := by decide +kernel
theorem dX8_readSided_133 : decode cX8_readSided 133 = .ok (.iload_n 1, 1) := by decide +kernel
theorem dX8_readSided_134 : decode cX8_readSided 134 = .ok (.iload_n 2, 1) := by decide +kernel
theorem dX8_readSided_135 : decode cX8_readSided 135 = .ok (.invokevirtual 215, 3) := by decide +kernel
theorem dX8_readSided_138 : decode cX8_readSided 138 = .ok (.goto 76, 3) := by decide +kernel
theorem dX8_readSided_141 : decode cX8_readSided 141 = .ok (.aload_n 0, 1) := by decide +kernel
theorem dX8_readSided_142 : decode cX8_readSided 142 = .ok (.ldc 219, 2) := by decide +kernel
theorem dX8_readSided_144 : decode cX8_readSided 144 = .ok (.invokevirtual 77, 3) := by decide +kernel
theorem dX8_readSided_147 : decode cX8_readSided 147 = .ok (.ifCond .eq 49, 3) := by decide +kernel
theorem dX8_readSided_150 : decode cX8_readSided 150 = .ok (.aload_n 0, 1) := by decide +kernel
theorem dX8_readSided_151 : decode cX8_readSided 151 = .ok (.invokevirtual 34, 3) := by decide +kernel
theorem dX8_readSided_154 : decode cX8_readSided 154 = .ok (.aload_n 0, 1) := by decide +kernel
theorem dX8_readSided_155 : decode cX8_readSided 155 = .ok (.lconst 0, 1) := by decide +kernel
theorem dX8_readSided_156 : decode cX8_readSided 156 = .ok (.ldc2_w 179, 3) := by decide +kernel
theorem dX8_readSided_159 : decode cX8_readSided 159 = .ok (.invokevirtual 181, 3) := by decide +kernel
theorem dX8_readSided_162 : decode cX8_readSided 162 = .ok (.istore 6, 2) := by decide +kernel
theorem dX8_readSided_164 : decode cX8_readSided 164 = .ok (.aload_n 0, 1) := by decide +kernel
theorem dX8_readSided_165 : decode cX8_readSided 165 = .ok (.bipush 45, 2) := by decide +kernel
theorem dX8_readSided_167 : decode cX8_readSided 167 = .ok (.invokevirtual 172, 3) := by decide +kernel
theorem dX8_readSided_170 : decode cX8_readSided 170 = .ok (.aload_n 0, 1) := by decide +kernel
theorem dX8_readSided_171 : decode cX8_readSided 171 = .ok (.getfield 15, 3) := by decide +kernel
theorem dX8_readSided_174 : decode cX8_readSided 174 = .ok (.iload 5, 2) := by decide +kernel
theorem dX8_readSided_176 : decode cX8_readSided 176 = .ok (.iload 6, 2) := by decide +kernel
theorem dX8_readSided_178 : decode cX8_readSided 178 = .ok (.aload_n 0, 1) := by decide +kernel
theorem dX8_readSided_179 : decode cX8_readSided 179 = .ok (.iload 6, 2) := by decide +kernel
theorem dX8_readSided_181 : decode cX8_readSided 181 = .ok (.i2l, 1) := by decide +kernel
theorem dX8_readSided_182 : decode cX8_readSided 182 = .ok (.ldc2_w 179, 3) := by decide +kernel
theorem dX8_readSided_185 : decode cX8_readSided 185 = .ok (.invokevirtual 181, 3) := by decide +kernel
theorem dX8_readSided_188 : decode cX8_readSided 188 = .ok (.iload_n 1, 1) := by decide +kernel
theorem dX8_readSided_189 : decode cX8_readSided 189 = .ok (.iload_n 2, 1) := by decide +kernel
theorem dX8_readSided_190 : decode cX8_readSided 190 = .ok (.invokevirtual 215, 3) := by decide +kernel
theorem dX8_readSided_193 : decode cX8_readSided 193 = .ok (.goto 21, 3) := by decide +kernel
theorem dX8_readSided_196 : decode cX8_readSided 196 = .ok (.iload 5, 2) := by decide +kernel
theorem dX8_readSided_198 : decode cX8_readSided 198 = .ok (.ifCond .ne 12, 3) := by decide +kernel
theorem dX8_readSided_201 : decode cX8_readSided 201 = .ok (.aload_n 0, 1) := by decide +kernel
theorem dX8_readSided_202 : decode cX8_readSided 202 = .ok (.iload_n 1, 1) := by decide +kernel
theorem dX8_readSided_203 : decode cX8_readSided 203 = .ok (.iload_n 2, 1) := by decide +kernel
theorem dX8_readSided_204 : decode cX8_readSided 204 = .ok (.invokevirtual 221, 3) := by decide +kernel
theorem dX8_readSided_207 : decode cX8_readSided 207 = .ok (.goto 7, 3) := by decide +kernel
theorem dX8_readSided_210 : decode cX8_readSided 210 = .ok (.aload_n 0, 1) := by decide +kernel
theorem dX8_readSided_211 : decode cX8_readSided 211 = .ok (.invokevirtual 37, 3) := by decide +kernel
theorem dX8_readSided_214 : decode cX8_readSided 214 = .ok (.return_, 1) := by decide +kernel
theorem dX8_readNet_0 : decode cX8_readNet 0 = .ok (.aload_n 0, 1) := by decide +kernel
theorem dX8_readNet_1 : decode cX8_readNet 1 = .ok (.invokevirtual 34, 3) := by decide +kernel
theorem dX8_readNet_4 : decode cX8_readNet 4 = .ok (.aload_n 0, 1) := by decide +kernel
theorem dX8_readNet_5 : decode cX8_readNet 5 = .ok (.invokevirtual 201, 3) := by decide +kernel
theorem dX8_readNet_8 : decode cX8_readNet 8 = .ok (.istore 4, 2) := by decide +kernel
theorem dX8_readNet_10 : decode cX8_readNet 10 = .ok (.aload_n 0, 1) := by decide +kernel
theorem dX8_readNet_11 : decode cX8_readNet 11 = .ok (.bipush 47, 2) := by decide +kernel
theorem dX8_readNet_13 : decode cX8_readNet 13 = .ok (.invokevirtual 172, 3) := by decide +kernel
theorem dX8_readNet_16 : decode cX8_readNet 16 = .ok (.aload_n 0, 1) := by decide +kernel
theorem dX8_readNet_17 : decode cX8_readNet 17 = .ok (.invokevirtual 119, 3) := by decide +kernel
theorem dX8_readNet_20 : decode cX8_readNet 20 = .ok (.lstore 5, 2) := by decide +kernel
theorem dX8_readNet_22 : decode cX8_readNet 22 = .ok (.lload 5, 2) := by decide +kernel
theorem dX8_readNet_24 : decode cX8_readNet 24 = .ok (.lconst 0, 1) := by decide +kernel
theorem dX8_readNet_25 : decode cX8_readNet 25 = .ok (.lcmp, 1) := by decide +kernel
theorem dX8_readNet_26 : decode cX8_readNet 26 = .ok (.ifCond .gt 7, 3) := by decide +kernel
theorem dX8_readNet_29 : decode cX8_readNet 29 = .ok (.iconst 0, 1) := by decide +kernel
theorem dX8_readNet_30 : decode cX8_readNet 30 = .ok (.goto 24, 3) := by decide +kernel
theorem dX8_readNet_33 : decode cX8_readNet 33 = .ok (.lload 5, 2) := by decide +kernel
theorem dX8_readNet_35 : decode cX8_readNet 35 = .ok (.ldc2_w 224, 3) := by decide +kernel
theorem dX8_readNet_38 : decode cX8_readNet 38 = .ok (.lcmp, 1) := by decide +kernel
theorem dX8_readNet_39 : decode cX8_readNet 39 = .ok (.ifCond .lt 7, 3) := by decide +kernel
theorem dX8_readNet_42 : decode cX8_readNet 42 = .ok (.iconst (-1), 1) := by decide +kernel
theorem dX8_readNet_43 : decode cX8_readNet 43 = .ok (.goto 11, 3) := by decide +kernel
theorem dX8_readNet_46 : decode cX8_readNet 46 = .ok (.iconst (-1), 1) := by decide +kernel
theorem dX8_readNet_47 : decode cX8_readNet 47 = .ok (.bipush 32, 2) := by decide +kernel
theorem dX8_readNet_49 : decode cX8_readNet 49 = .ok (.lload 5, 2) := by decide +kernel
theorem dX8_readNet_51 : decode cX8_readNet 51 = .ok (.l2i, 1) := by decide +kernel
theorem dX8_readNet_52 : decode cX8_readNet 52 = .ok (.isub, 1) := by decide +kernel
theorem dX8_readNet_53 : decode cX8_readNet 53 = .ok (.ishl, 1) := by decide +kernel
theorem dX8_readNet_54 : decode cX8_readNet 54 = .ok (.istore 7, 2) := by decide +kernel
theorem dX8_readNet_56 : decode cX8_readNet 56 = .ok (.lload 5, 2) := by decide +kernel
theorem dX8_readNet_58 : decode cX8_readNet 58 = .ok (.lconst 0, 1) := by decide +kernel
theorem dX8_readNet_59 : decode cX8_readNet 59 = .ok (.lcmp, 1) := by decide +kernel
theorem dX8_readNet_60 : decode cX8_readNet 60 = .ok (.ifCond .lt 22, 3) := by decide +kernel
theorem dX8_readNet_63 : decode cX8_readNet 63 = .ok (.lload 5, 2) := by decide +kernel
theorem dX8_readNet_65 : decode cX8_readNet 65 = .ok (.ldc2_w 224, 3) := by decide +kernel
theorem dX8_readNet_68 : decode cX8_readNet 68 = .ok (.lcmp, 1) := by decide +kernel
theorem dX8_readNet_69 : decode cX8_readNet 69 = .ok (.ifCond .gt 13, 3) := by decide +kernel
theorem dX8_readNet_72 : decode cX8_readNet 72 = .ok (.iload 4, 2) := by decide +kernel
theorem dX8_readNet_74 : decode cX8_readNet 74 = .ok (.iload 7, 2) := by decide +kernel
theorem dX8_readNet_76 : decode cX8_readNet 76 = .ok (.iconst (-1), 1) := by decide +kernel
theorem dX8_readNet_77 : decode cX8_readNet 77 = .ok (.ixor, 1) := by decide +kernel
theorem dX8_readNet_78 : decode cX8_readNet 78 = .ok (.iand, 1) := by decide +kernel
theorem dX8_readNet_79 : decode cX8_readNet 79 = .ok (.ifCond .eq 8, 3) := by decide +kernel
theorem dX8_readNet_82 : decode cX8_readNet 82 = .ok (.aload_n 0, 1) := by decide +kernel
theorem dX8_readNet_83 : decode cX8_readNet 83 = .ok (.invokevirtual 37, 3) := by decide +kernel
theorem dX8_readNet_86 : decode cX8_readNet 86 = .ok (.return_, 1) := by decide +kernel
theorem dX8_readNet_87 : decode cX8_readNet 87 = .ok (.aload_n 0, 1) := by decide +kernel
theorem dX8_readNet_88 : decode cX8_readNet 88 = .ok (.invokevirtual 34, 3) := by decide +kernel
theorem dX8_readNet_91 : decode cX8_readNet 91 = .ok (.aload_n 0, 1) := by decide +kernel
theorem dX8_readNet_92 : decode cX8_readNet 92 = .ok (.getfield 15, 3) := by decide +kernel
theorem dX8_readNet_95 : decode cX8_readNet 95 = .ok (.iload_n 1, 1) := by decide +kernel
theorem dX8_readNet_96 : decode cX8_readNet 96 = .ok (.iload 4, 2) := by decide +kernel
theorem dX8_readNet_98 : decode cX8_readNet 98 = .ok (.iconst 1, 1) := by decide +kernel
theorem dX8_readNet_99 : decode cX8_readNet 99 = .ok (.iload 7, 2) := by decide +kernel
theorem dX8_readNet_101 : decode cX8_readNet 101 = .ok (.iload_n 2, 1) := by decide +kernel
theorem dX8_readNet_102 : decode cX8_readNet 102 = .ok (.iload_n 3, 1) := by decide +kernel
theorem dX8_readNet_103 : decode cX8_readNet 103 = .ok (.invokevirtual 204, 3) := by decide +kernel
theorem dX8_readNet_106 : decode cX8_readNet 106 = .ok (.return_, 1) := by decide +kernel
theorem dX8_readLength_0 : decode cX8_readLength 0 = .ok (.aload_n 0, 1) := by decide +kernel
theorem dX8_readLength_1 : decode cX8_readLength 1 = .ok (.ldc 226, 2) := by decide +kernel
theorem dX8_readLength_3 : decode cX8_readLength 3 = .ok (.invokevirtual 77, 3) := by decide +kernel
theorem dX8_readLength_6 : decode cX8_readLength 6 = .ok (.istore_n 3, 1) := by decide +kernel
theorem dX8_readLength_7 : decode cX8_readLength 7 = .ok (.iload_n 3, 1) := by decide +kernel
theorem dX8_readLength_8 : decode cX8_readLength 8 = .ok (.ifCond .ne 17, 3) := by decide +kernel
theorem dX8_readLength_11 : decode cX8_readLength 11 = .ok (.aload_n 0, 1) := by decide +kernel
theorem dX8_readLength_12 : decode cX8_readLength 12 = .ok (.ldc 228, 2) := by decide +kernel
theorem dX8_readLength_14 : decode cX8_readLength 14 = .ok (.invokevirtual 77, 3) := by decide +kernel
theorem dX8_readLength_17 : decode cX8_readLength 17 = .ok (.ifCond .ne 8, 3) := by decide +kernel
theorem dX8_readLength_20 : decode cX8_readLength 20 = .ok (.aload_n 0, 1) := by decide +kernel
theorem dX8_readLength_21 : decode cX8_readLength 21 = .ok (.invokevirtual 37, 3) := by decide +kernel
theorem dX8_readLength_24 : decode cX8_readLength 24 = .ok (.return_, 1) := by decide +kernel
theorem dX8_readLength_25 : decode cX8_readLength 25 = .ok (.aload_n 0, 1) := by decide +kernel
theorem dX8_readLength_26 : decode cX8_readLength 26 = .ok (.invokevirtual 34, 3) := by decide +kernel
theorem dX8_readLength_29 : decode cX8_readLength 29 = .ok (.aload_n 0, 1) := by decide +kernel
theorem dX8_readLength_30 : decode cX8_readLength 30 = .ok (.getfield 15, 3) := by decide +kernel
theorem dX8_readLength_33 : decode cX8_readLength 33 = .ok (.iload_n 3, 1) := by decide +kernel
theorem dX8_readLength_34 : decode cX8_readLength 34 = .ok (.ifCond .eq 8, 3) := by decide +kernel
theorem dX8_readLength_37 : decode cX8_readLength 37 = .ok (.bipush 11, 2) := by decide +kernel
theorem dX8_readLength_39 : decode cX8_readLength 39 = .ok (.goto 4, 3) := by decide +kernel
theorem dX8_readLength_42 : decode cX8_readLength 42 = .ok (.iconst 3, 1) := by decide +kernel
theorem dX8_readLength_43 : decode cX8_readLength 43 = .ok (.aload_n 0, 1) := by decide +kernel
theorem dX8_readLength_44 : decode cX8_readLength 44 = .ok (.lconst 0, 1) := by decide +kernel
theorem dX8_readLength_45 : decode cX8_readLength 45 = .ok (.ldc2_w 99, 3) := by decide +kernel
theorem dX8_readLength_48 : decode cX8_readLength 48 = .ok (.invokevirtual 181, 3) := by decide +kernel
theorem dX8_readLength_51 : decode cX8_readLength 51 = .ok (.iload_n 1, 1) := by decide +kernel
theorem dX8_readLength_52 : decode cX8_readLength 52 = .ok (.iload_n 2, 1) := by decide +kernel
theorem dX8_readLength_53 : decode cX8_readLength 53 = .ok (.invokevirtual 230, 3) := by decide +kernel
theorem dX8_readLength_56 : decode cX8_readLength 56 = .ok (.return_, 1) := by decide +kernel
theorem dX8_readRelation_0 : decode cX8_readRelation 0 = .ok (.aload_n 0, 1) := by decide +kernel
theorem dX8_readRelation_1 : decode cX8_readRelation 1 = .ok (.getfield 15, 3) := by decide +kernel
theorem dX8_readRelation_4 : decode cX8_readRelation 4 = .ok (.invokevirtual 233, 3) := by decide +kernel
theorem dX8_readRelation_7 : decode cX8_readRelation 7 = .ok (.aload_n 0, 1) := by decide +kernel
theorem dX8_readRelation_8 : decode cX8_readRelation 8 = .ok (.getfield 15, 3) := by decide +kernel
theorem dX8_readRelation_11 : decode cX8_readRelation 11 = .ok (.getfield 236, 3) := by decide +kernel
theorem dX8_readRelation_14 : decode cX8_readRelation 14 = .ok (.istore_n 3, 1) := by decide +kernel
theorem dX8_readRelation_15 : decode cX8_readRelation 15 = .ok (.aload_n 0, 1) := by decide +kernel
theorem dX8_readRelation_16 : decode cX8_readRelation 16 = .ok (.iconst 0, 1) := by decide +kernel
theorem dX8_readRelation_17 : decode cX8_readRelation 17 = .ok (.iconst 0, 1) := by decide +kernel
theorem dX8_readRelation_18 : decode cX8_readRelation 18 = .ok (.invokevirtual 239, 3) := by decide +kernel
theorem dX8_readRelation_21 : decode cX8_readRelation 21 = .ok (.pop, 1) := by decide +kernel
theorem dX8_readRelation_22 : decode cX8_readRelation 22 = .ok (.aload_n 0, 1) := by decide +kernel
theorem dX8_readRelation_23 : decode cX8_readRelation 23 = .ok (.getfield 15, 3) := by decide +kernel
theorem dX8_readRelation_26 : decode cX8_readRelation 26 = .ok (.getfield 236, 3) := by decide +kernel
theorem dX8_readRelation_29 : decode cX8_readRelation 29 = .ok (.istore 4, 2) := by decide +kernel
theorem dX8_readRelation_31 : decode cX8_readRelation 31 = .ok (.aload_n 0, 1) := by decide +kernel
theorem dX8_readRelation_32 : decode cX8_readRelation 32 = .ok (.invokevirtual 243, 3) := by decide +kernel
theorem dX8_readRelation_35 : decode cX8_readRelation 35 = .ok (.istore 5, 2) := by decide +kernel
theorem dX8_readRelation_37 : decode cX8_readRelation 37 = .ok (.iload 5, 2) := by decide +kernel
theorem dX8_readRelation_39 : decode cX8_readRelation 39 = .ok (.ifCond .ge 7, 3) := by decide +kernel
theorem dX8_readRelation_42 : decode cX8_readRelation 42 = .ok (.aload_n 0, 1) := by decide +kernel
theorem dX8_readRelation_43 : decode cX8_readRelation 43 = .ok (.invokevirtual 37, 3) := by decide +kernel
theorem dX8_readRelation_46 : decode cX8_readRelation 46 = .ok (.aload_n 0, 1) := by decide +kernel
theorem dX8_readRelation_47 : decode cX8_readRelation 47 = .ok (.invokevirtual 34, 3) := by decide +kernel
theorem dX8_readRelation_50 : decode cX8_readRelation 50 = .ok (.aload_n 0, 1) := by decide +kernel
theorem dX8_readRelation_51 : decode cX8_readRelation 51 = .ok (.iconst 1, 1) := by decide +kernel
theorem dX8_readRelation_52 : decode cX8_readRelation 52 = .ok (.iconst 0, 1) := by decide +kernel
theorem dX8_readRelation_53 : decode cX8_readRelation 53 = .ok (.invokevirtual 239, 3) := by decide +kernel
theorem dX8_readRelation_56 : decode cX8_readRelation 56 = .ok (.pop, 1) := by decide +kernel
theorem dX8_readRelation_57 : decode cX8_readRelation 57 = .ok (.aload_n 0, 1) := by decide +kernel
theorem dX8_readRelation_58 : decode cX8_readRelation 58 = .ok (.getfield 15, 3) := by decide +kernel
theorem dX8_readRelation_61 : decode cX8_readRelation 61 = .ok (.getfield 236, 3) := by decide +kernel
theorem dX8_readRelation_64 : decode cX8_readRelation 64 = .ok (.istore 6, 2) := by decide +kernel
theorem dX8_readRelation_66 : decode cX8_readRelation 66 = .ok (.aload_n 0, 1) := by decide +kernel
theorem dX8_readRelation_67 : decode cX8_readRelation 67 = .ok (.getfield 15, 3) := by decide +kernel
theorem dX8_readRelation_70 : decode cX8_readRelation 70 = .ok (.iload_n 2, 1) := by decide +kernel
theorem dX8_readRelation_71 : decode cX8_readRelation 71 = .ok (.invokevirtual 246, 3) := by decide +kernel
theorem dX8_readRelation_74 : decode cX8_readRelation 74 = .ok (.aload_n 0, 1) := by decide +kernel
theorem dX8_readRelation_75 : decode cX8_readRelation 75 = .ok (.getfield 15, 3) := by decide +kernel
theorem dX8_readRelation_78 : decode cX8_readRelation 78 = .ok (.iload_n 3, 1) := by decide +kernel
theorem dX8_readRelation_79 : decode cX8_readRelation 79 = .ok (.iload 4, 2) := by decide +kernel
theorem dX8_readRelation_81 : decode cX8_readRelation 81 = .ok (.iload 6, 2) := by decide +kernel
theorem dX8_readRelation_83 : decode cX8_readRelation 83 = .ok (.iload 5, 2) := by decide +kernel
theorem dX8_readRelation_85 : decode cX8_readRelation 85 = .ok (.iload_n 1, 1) := by decide +kernel
theorem dX8_readRelation_86 : decode cX8_readRelation 86 = .ok (.iload_n 2, 1) := by decide +kernel
theorem dX8_readRelation_87 : decode cX8_readRelation 87 = .ok (.invokevirtual 249, 3) := by decide +kernel
theorem dX8_readRelation_90 : decode cX8_readRelation 90 = .ok (.return_, 1) := by decide +kernel
theorem dX8_comparison_0 : decode cX8_comparison 0 = .ok (.aload_n 0, 1) := by decide +kernel
theorem dX8_comparison_1 : decode cX8_comparison 1 = .ok (.getfield 31, 3) := by decide +kernel
theorem dX8_comparison_4 : decode cX8_comparison 4 = .ok (.lookupswitch 74 #[(60, 64), (61, 60), (62, 70), (258, 62), (259, 67), (260, 72)], 60) := by decide +kernel
theorem dX8_comparison_64 : decode cX8_comparison 64 = .ok (.iconst 1, 1) := by decide +kernel
theorem dX8_comparison_65 : decode cX8_comparison 65 = .ok (.ireturn, 1) := by decide +kernel
theorem dX8_comparison_66 : decode cX8_comparison 66 = .ok (.iconst 5, 1) := by decide +kernel
theorem dX8_comparison_67 : decode cX8_comparison 67 = .ok (.ireturn, 1) := by decide +kernel
theorem dX8_comparison_68 : decode cX8_comparison 68 = .ok (.bipush 10, 2) := by decide +kernel
theorem dX8_comparison_70 : decode cX8_comparison 70 = .ok (.ireturn, 1) := by decide +kernel
theorem dX8_comparison_71 : decode cX8_comparison 71 = .ok (.bipush 11, 2) := by decide +kernel
theorem dX8_comparison_73 : decode cX8_comparison 73 = .ok (.ireturn, 1) := by decide +kernel
theorem dX8_comparison_74 : decode cX8_comparison 74 = .ok (.iconst 2, 1) := by decide +kernel
theorem dX8_comparison_75 : decode cX8_comparison 75 = .ok (.ireturn, 1) := by decide +kernel
theorem dX8_comparison_76 : decode cX8_comparison 76 = .ok (.iconst 3, 1) := by decide +kernel
theorem dX8_comparison_77 : decode cX8_comparison 77 = .ok (.ireturn, 1) := by decide +kernel
theorem dX8_comparison_78 : decode cX8_comparison 78 = .ok (.iconst (-1), 1) := by decide +kernel
theorem dX8_comparison_79 : decode cX8_comparison 79 = .ok (.ireturn, 1) := by decide +kernel
theorem dX8_addingOp_0 : decode cX8_addingOp 0 = .ok (.aload_n 0, 1) := by decide +kernel
theorem dX8_addingOp_1 : decode cX8_addingOp 1 = .ok (.getfield 31, 3) := by decide +kernel
theorem dX8_addingOp_4 : decode cX8_addingOp 4 = .ok (.lookupswitch 53 #[(43, 44), (45, 46), (94, 50), (124, 48)], 44) := by decide +kernel
theorem dX8_addingOp_48 : decode cX8_addingOp 48 = .ok (.iconst 0, 1) := by decide +kernel
theorem dX8_addingOp_49 : decode cX8_addingOp 49 = .ok (.ireturn, 1) := by decide +kernel
theorem dX8_addingOp_50 : decode cX8_addingOp 50 = .ok (.iconst 1, 1) := by decide +kernel
theorem dX8_addingOp_51 : decode cX8_addingOp 51 = .ok (.ireturn, 1) := by decide +kernel
theorem dX8_addingOp_52 : decode cX8_addingOp 52 = .ok (.iconst 4, 1) := by decide +kernel
theorem dX8_addingOp_53 : decode cX8_addingOp 53 = .ok (.ireturn, 1) := by decide +kernel
theorem dX8_addingOp_54 : decode cX8_addingOp 54 = .ok (.bipush 10, 2) := by decide +kernel
theorem dX8_addingOp_56 : decode cX8_addingOp 56 = .ok (.ireturn, 1) := by decide +kernel
theorem dX8_addingOp_57 : decode cX8_addingOp 57 = .ok (.iconst (-1), 1) := by decide +kernel
theorem dX8_addingOp_58 : decode cX8_addingOp 58 = .ok (.ireturn, 1) := by decide +kernel
theorem dX8_timesOp_0 : decode cX8_timesOp 0 = .ok (.aload_n 0, 1) := by decide +kernel
theorem dX8_timesOp_1 : decode cX8_timesOp 1 = .ok (.getfield 31, 3) := by decide +kernel
theorem dX8_timesOp_4 : decode cX8_timesOp 4 = .ok (.lookupswitch 75 #[(37, 64), (38, 67), (42, 60), (47, 62), (256, 69), (257, 72)], 60) := by decide +kernel
theorem dX8_timesOp_64 : decode cX8_timesOp 64 = .ok (.iconst 2, 1) := by decide +kernel
theorem dX8_timesOp_65 : decode cX8_timesOp 65 = .ok (.ireturn, 1) := by decide +kernel
theorem dX8_timesOp_66 : decode cX8_timesOp 66 = .ok (.iconst 3, 1) := by decide +kernel
theorem dX8_timesOp_67 : decode cX8_timesOp 67 = .ok (.ireturn, 1) := by decide +kernel
theorem dX8_timesOp_68 : decode cX8_timesOp 68 = .ok (.bipush 9, 2) := by decide +kernel
theorem dX8_timesOp_70 : decode cX8_timesOp 70 = .ok (.ireturn, 1) := by decide +kernel
theorem dX8_timesOp_71 : decode cX8_timesOp 71 = .ok (.iconst 5, 1) := by decide +kernel
theorem dX8_timesOp_72 : decode cX8_timesOp 72 = .ok (.ireturn, 1) := by decide +kernel
theorem dX8_timesOp_73 : decode cX8_timesOp 73 = .ok (.bipush 6, 2) := by decide +kernel
theorem dX8_timesOp_75 : decode cX8_timesOp 75 = .ok (.ireturn, 1) := by decide +kernel
theorem dX8_timesOp_76 : decode cX8_timesOp 76 = .ok (.bipush 7, 2) := by decide +kernel
theorem dX8_timesOp_78 : decode cX8_timesOp 78 = .ok (.ireturn, 1) := by decide +kernel
theorem dX8_timesOp_79 : decode cX8_timesOp 79 = .ok (.iconst (-1), 1) := by decide +kernel
theorem dX8_timesOp_80 : decode cX8_timesOp 80 = .ok (.ireturn, 1) := by decide +kernel
theorem dX8_readSum_0 : decode cX8_readSum 0 = .ok (.aload_n 0, 1) := by decide +kernel
theorem dX8_readSum_1 : decode cX8_readSum 1 = .ok (.iload_n 1, 1) := by decide +kernel
theorem dX8_readSum_2 : decode cX8_readSum 2 = .ok (.iload_n 2, 1) := by decide +kernel
theorem dX8_readSum_3 : decode cX8_readSum 3 = .ok (.invokevirtual 253, 3) := by decide +kernel
theorem dX8_readSum_6 : decode cX8_readSum 6 = .ok (.istore_n 3, 1) := by decide +kernel
theorem dX8_readSum_7 : decode cX8_readSum 7 = .ok (.aload_n 0, 1) := by decide +kernel
theorem dX8_readSum_8 : decode cX8_readSum 8 = .ok (.invokevirtual 256, 3) := by decide +kernel
theorem dX8_readSum_11 : decode cX8_readSum 11 = .ok (.istore 4, 2) := by decide +kernel
theorem dX8_readSum_13 : decode cX8_readSum 13 = .ok (.iconst 0, 1) := by decide +kernel
theorem dX8_readSum_14 : decode cX8_readSum 14 = .ok (.istore 5, 2) := by decide +kernel
theorem dX8_readSum_16 : decode cX8_readSum 16 = .ok (.iload 4, 2) := by decide +kernel
theorem dX8_readSum_18 : decode cX8_readSum 18 = .ok (.ifCond .lt 68, 3) := by decide +kernel
theorem dX8_readSum_21 : decode cX8_readSum 21 = .ok (.iload 5, 2) := by decide +kernel
theorem dX8_readSum_23 : decode cX8_readSum 23 = .ok (.sipush 2000, 3) := by decide +kernel
theorem dX8_readSum_26 : decode cX8_readSum 26 = .ok (.if_icmp .ge 60, 3) := by decide +kernel
theorem dX8_readSum_29 : decode cX8_readSum 29 = .ok (.aload_n 0, 1) := by decide +kernel
theorem dX8_readSum_30 : decode cX8_readSum 30 = .ok (.invokevirtual 34, 3) := by decide +kernel
theorem dX8_readSum_33 : decode cX8_readSum 33 = .ok (.aload_n 0, 1) := by decide +kernel
theorem dX8_readSum_34 : decode cX8_readSum 34 = .ok (.getfield 15, 3) := by decide +kernel
theorem dX8_readSum_37 : decode cX8_readSum 37 = .ok (.getfield 236, 3) := by decide +kernel
theorem dX8_readSum_40 : decode cX8_readSum 40 = .ok (.istore 6, 2) := by decide +kernel
theorem dX8_readSum_42 : decode cX8_readSum 42 = .ok (.aload_n 0, 1) := by decide +kernel
theorem dX8_readSum_43 : decode cX8_readSum 43 = .ok (.getfield 15, 3) := by decide +kernel
theorem dX8_readSum_46 : decode cX8_readSum 46 = .ok (.iconst 2, 1) := by decide +kernel
theorem dX8_readSum_47 : decode cX8_readSum 47 = .ok (.iconst 0, 1) := by decide +kernel
theorem dX8_readSum_48 : decode cX8_readSum 48 = .ok (.iload_n 1, 1) := by decide +kernel
theorem dX8_readSum_49 : decode cX8_readSum 49 = .ok (.invokevirtual 259, 3) := by decide +kernel
theorem dX8_readSum_52 : decode cX8_readSum 52 = .ok (.aload_n 0, 1) := by decide +kernel
theorem dX8_readSum_53 : decode cX8_readSum 53 = .ok (.getfield 15, 3) := by decide +kernel
theorem dX8_readSum_56 : decode cX8_readSum 56 = .ok (.iload 4, 2) := by decide +kernel
theorem dX8_readSum_58 : decode cX8_readSum 58 = .ok (.iload_n 1, 1) := by decide +kernel
theorem dX8_readSum_59 : decode cX8_readSum 59 = .ok (.iload 6, 2) := by decide +kernel
theorem dX8_readSum_61 : decode cX8_readSum 61 = .ok (.aload_n 0, 1) := by decide +kernel
theorem dX8_readSum_62 : decode cX8_readSum 62 = .ok (.iload_n 1, 1) := by decide +kernel
theorem dX8_readSum_63 : decode cX8_readSum 63 = .ok (.iconst 1, 1) := by decide +kernel
theorem dX8_readSum_64 : decode cX8_readSum 64 = .ok (.iadd, 1) := by decide +kernel
theorem dX8_readSum_65 : decode cX8_readSum 65 = .ok (.iload_n 2, 1) := by decide +kernel
theorem dX8_readSum_66 : decode cX8_readSum 66 = .ok (.invokevirtual 253, 3) := by decide +kernel
theorem dX8_readSum_69 : decode cX8_readSum 69 = .ok (.invokevirtual 262, 3) := by decide +kernel
theorem dX8_readSum_72 : decode cX8_readSum 72 = .ok (.iconst 0, 1) := by decide +kernel
theorem dX8_readSum_73 : decode cX8_readSum 73 = .ok (.istore_n 3, 1) := by decide +kernel
theorem dX8_readSum_74 : decode cX8_readSum 74 = .ok (.aload_n 0, 1) := by decide +kernel
theorem dX8_readSum_75 : decode cX8_readSum 75 = .ok (.invokevirtual 256, 3) := by decide +kernel
theorem dX8_readSum_78 : decode cX8_readSum 78 = .ok (.istore 4, 2) := by decide +kernel
theorem dX8_readSum_80 : decode cX8_readSum 80 = .ok (.iinc 5 1, 3) := by decide +kernel
theorem dX8_readSum_83 : decode cX8_readSum 83 = .ok (.goto (-67), 3) := by decide +kernel
theorem dX8_readSum_86 : decode cX8_readSum 86 = .ok (.iload_n 3, 1) := by decide +kernel
theorem dX8_readSum_87 : decode cX8_readSum 87 = .ok (.ireturn, 1) := by decide +kernel
theorem dX8_readProduct_0 : decode cX8_readProduct 0 = .ok (.aload_n 0, 1) := by decide +kernel
theorem dX8_readProduct_1 : decode cX8_readProduct 1 = .ok (.iload_n 1, 1) := by decide +kernel
theorem dX8_readProduct_2 : decode cX8_readProduct 2 = .ok (.iload_n 2, 1) := by decide +kernel
theorem dX8_readProduct_3 : decode cX8_readProduct 3 = .ok (.invokevirtual 266, 3) := by decide +kernel
theorem dX8_readProduct_6 : decode cX8_readProduct 6 = .ok (.istore_n 3, 1) := by decide +kernel
theorem dX8_readProduct_7 : decode cX8_readProduct 7 = .ok (.aload_n 0, 1) := by decide +kernel
theorem dX8_readProduct_8 : decode cX8_readProduct 8 = .ok (.invokevirtual 269, 3) := by decide +kernel
theorem dX8_readProduct_11 : decode cX8_readProduct 11 = .ok (.istore 4, 2) := by decide +kernel
theorem dX8_readProduct_13 : decode cX8_readProduct 13 = .ok (.iconst 0, 1) := by decide +kernel
theorem dX8_readProduct_14 : decode cX8_readProduct 14 = .ok (.istore 5, 2) := by decide +kernel
theorem dX8_readProduct_16 : decode cX8_readProduct 16 = .ok (.iload 4, 2) := by decide +kernel
theorem dX8_readProduct_18 : decode cX8_readProduct 18 = .ok (.ifCond .lt 68, 3) := by decide +kernel
theorem dX8_readProduct_21 : decode cX8_readProduct 21 = .ok (.iload 5, 2) := by decide +kernel
theorem dX8_readProduct_23 : decode cX8_readProduct 23 = .ok (.sipush 2000, 3) := by decide +kernel
theorem dX8_readProduct_26 : decode cX8_readProduct 26 = .ok (.if_icmp .ge 60, 3) := by decide +kernel
theorem dX8_readProduct_29 : decode cX8_readProduct 29 = .ok (.aload_n 0, 1) := by decide +kernel
theorem dX8_readProduct_30 : decode cX8_readProduct 30 = .ok (.invokevirtual 34, 3) := by decide +kernel
theorem dX8_readProduct_33 : decode cX8_readProduct 33 = .ok (.aload_n 0, 1) := by decide +kernel
theorem dX8_readProduct_34 : decode cX8_readProduct 34 = .ok (.getfield 15, 3) := by decide +kernel
theorem dX8_readProduct_37 : decode cX8_readProduct 37 = .ok (.getfield 236, 3) := by decide +kernel
theorem dX8_readProduct_40 : decode cX8_readProduct 40 = .ok (.istore 6, 2) := by decide +kernel
theorem dX8_readProduct_42 : decode cX8_readProduct 42 = .ok (.aload_n 0, 1) := by decide +kernel
theorem dX8_readProduct_43 : decode cX8_readProduct 43 = .ok (.getfield 15, 3) := by decide +kernel
theorem dX8_readProduct_46 : decode cX8_readProduct 46 = .ok (.iconst 2, 1) := by decide +kernel
theorem dX8_readProduct_47 : decode cX8_readProduct 47 = .ok (.iconst 0, 1) := by decide +kernel
theorem dX8_readProduct_48 : decode cX8_readProduct 48 = .ok (.iload_n 1, 1) := by decide +kernel
theorem dX8_readProduct_49 : decode cX8_readProduct 49 = .ok (.invokevirtual 259, 3) := by decide +kernel
theorem dX8_readProduct_52 : decode cX8_readProduct 52 = .ok (.aload_n 0, 1) := by decide +kernel
theorem dX8_readProduct_53 : decode cX8_readProduct 53 = .ok (.getfield 15, 3) := by decide +kernel
theorem dX8_readProduct_56 : decode cX8_readProduct 56 = .ok (.iload 4, 2) := by decide +kernel
theorem dX8_readProduct_58 : decode cX8_readProduct 58 = .ok (.iload_n 1, 1) := by decide +kernel
theorem dX8_readProduct_59 : decode cX8_readProduct 59 = .ok (.iload 6, 2) := by decide +kernel
theorem dX8_readProduct_61 : decode cX8_readProduct 61 = .ok (.aload_n 0, 1) := by decide +kernel
theorem dX8_readProduct_62 : decode cX8_readProduct 62 = .ok (.iload_n 1, 1) := by decide +kernel
theorem dX8_readProduct_63 : decode cX8_readProduct 63 = .ok (.iconst 1, 1) := by decide +kernel
theorem dX8_readProduct_64 : decode cX8_readProduct 64 = .ok (.iadd, 1) := by decide +kernel
theorem dX8_readProduct_65 : decode cX8_readProduct 65 = .ok (.iload_n 2, 1) := by decide +kernel
theorem dX8_readProduct_66 : decode cX8_readProduct 66 = .ok (.invokevirtual 266, 3) := by decide +kernel
theorem dX8_readProduct_69 : decode cX8_readProduct 69 = .ok (.invokevirtual 262, 3) := by decide +kernel
theorem dX8_readProduct_72 : decode cX8_readProduct 72 = .ok (.iconst 0, 1) := by decide +kernel
theorem dX8_readProduct_73 : decode cX8_readProduct 73 = .ok (.istore_n 3, 1) := by decide +kernel
theorem dX8_readProduct_74 : decode cX8_readProduct 74 = .ok (.aload_n 0, 1) := by decide +kernel
theorem dX8_readProduct_75 : decode cX8_readProduct 75 = .ok (.invokevirtual 269, 3) := by decide +kernel
theorem dX8_readProduct_78 : decode cX8_readProduct 78 = .ok (.istore 4, 2) := by decide +kernel
theorem dX8_readProduct_80 : decode cX8_readProduct 80 = .ok (.iinc 5 1, 3) := by decide +kernel
theorem dX8_readProduct_83 : decode cX8_readProduct 83 = .ok (.goto (-67), 3) := by decide +kernel
theorem dX8_readProduct_86 : decode cX8_readProduct 86 = .ok (.iload_n 3, 1) := by decide +kernel
theorem dX8_readProduct_87 : decode cX8_readProduct 87 = .ok (.ireturn, 1) := by decide +kernel
theorem dX8_readAtom_0 : decode cX8_readAtom 0 = .ok (.iconst 0, 1) := by decide +kernel
theorem dX8_readAtom_1 : decode cX8_readAtom 1 = .ok (.istore_n 3, 1) := by decide +kernel
theorem dX8_readAtom_2 : decode cX8_readAtom 2 = .ok (.aload_n 0, 1) := by decide +kernel
theorem dX8_readAtom_3 : decode cX8_readAtom 3 = .ok (.getfield 31, 3) := by decide +kernel
theorem dX8_readAtom_6 : decode cX8_readAtom 6 = .ok (.bipush 45, 2) := by decide +kernel
theorem dX8_readAtom_8 : decode cX8_readAtom 8 = .ok (.if_icmp .ne 19, 3) := by decide +kernel
theorem dX8_readAtom_11 : decode cX8_readAtom 11 = .ok (.iload_n 3, 1) := by decide +kernel
theorem dX8_readAtom_12 : decode cX8_readAtom 12 = .ok (.bipush 8, 2) := by decide +kernel
theorem dX8_readAtom_14 : decode cX8_readAtom 14 = .ok (.if_icmp .ge 13, 3) := by decide +kernel
theorem dX8_readAtom_17 : decode cX8_readAtom 17 = .ok (.iinc 3 1, 3) := by decide +kernel
theorem dX8_readAtom_20 : decode cX8_readAtom 20 = .ok (.aload_n 0, 1) := by decide +kernel
theorem dX8_readAtom_21 : decode cX8_readAtom 21 = .ok (.invokevirtual 34, 3) := by decide +kernel
theorem dX8_readAtom_24 : decode cX8_readAtom 24 = .ok (.goto (-22), 3) := by decide +kernel
theorem dX8_readAtom_27 : decode cX8_readAtom 27 = .ok (.aload_n 0, 1) := by decide +kernel
theorem dX8_readAtom_28 : decode cX8_readAtom 28 = .ok (.iload_n 1, 1) := by decide +kernel
theorem dX8_readAtom_29 : decode cX8_readAtom 29 = .ok (.iload_n 2, 1) := by decide +kernel
theorem dX8_readAtom_30 : decode cX8_readAtom 30 = .ok (.invokevirtual 272, 3) := by decide +kernel
theorem dX8_readAtom_33 : decode cX8_readAtom 33 = .ok (.istore 4, 2) := by decide +kernel
theorem dX8_readAtom_35 : decode cX8_readAtom 35 = .ok (.iconst 0, 1) := by decide +kernel
theorem dX8_readAtom_36 : decode cX8_readAtom 36 = .ok (.istore 5, 2) := by decide +kernel
theorem dX8_readAtom_38 : decode cX8_readAtom 38 = .ok (.iload 5, 2) := by decide +kernel
theorem dX8_readAtom_40 : decode cX8_readAtom 40 = .ok (.iload_n 3, 1) := by decide +kernel
theorem dX8_readAtom_41 : decode cX8_readAtom 41 = .ok (.if_icmp .ge 19, 3) := by decide +kernel
theorem dX8_readAtom_44 : decode cX8_readAtom 44 = .ok (.aload_n 0, 1) := by decide +kernel
theorem dX8_readAtom_45 : decode cX8_readAtom 45 = .ok (.getfield 15, 3) := by decide +kernel
theorem dX8_readAtom_48 : decode cX8_readAtom 48 = .ok (.iconst 5, 1) := by decide +kernel
theorem dX8_readAtom_49 : decode cX8_readAtom 49 = .ok (.iconst 0, 1) := by decide +kernel
theorem dX8_readAtom_50 : decode cX8_readAtom 50 = .ok (.iconst 0, 1) := by decide +kernel
theorem dX8_readAtom_51 : decode cX8_readAtom 51 = .ok (.invokevirtual 259, 3) := by decide +kernel
theorem dX8_readAtom_54 : decode cX8_readAtom 54 = .ok (.iinc 5 1, 3) := by decide +kernel
theorem dX8_readAtom_57 : decode cX8_readAtom 57 = .ok (.goto (-19), 3) := by decide +kernel
theorem dX8_readAtom_60 : decode cX8_readAtom 60 = .ok (.iload 4, 2) := by decide +kernel
theorem dX8_readAtom_62 : decode cX8_readAtom 62 = .ok (.ifCond .eq 11, 3) := by decide +kernel
theorem dX8_readAtom_65 : decode cX8_readAtom 65 = .ok (.iload_n 3, 1) := by decide +kernel
theorem dX8_readAtom_66 : decode cX8_readAtom 66 = .ok (.ifCond .ne 7, 3) := by decide +kernel
theorem dX8_readAtom_69 : decode cX8_readAtom 69 = .ok (.iconst 1, 1) := by decide +kernel
theorem dX8_readAtom_70 : decode cX8_readAtom 70 = .ok (.goto 4, 3) := by decide +kernel
theorem dX8_readAtom_73 : decode cX8_readAtom 73 = .ok (.iconst 0, 1) := by decide +kernel
theorem dX8_readAtom_74 : decode cX8_readAtom 74 = .ok (.ireturn, 1) := by decide +kernel
theorem dX8_readBareAtom_0 : decode cX8_readBareAtom 0 = .ok (.aload_n 0, 1) := by decide +kernel
theorem dX8_readBareAtom_1 : decode cX8_readBareAtom 1 = .ok (.invokevirtual 119, 3) := by decide +kernel
theorem dX8_readBareAtom_4 : decode cX8_readBareAtom 4 = .ok (.lstore_n 3, 1) := by decide +kernel
theorem dX8_readBareAtom_5 : decode cX8_readBareAtom 5 = .ok (.lload_n 3, 1) := by decide +kernel
theorem dX8_readBareAtom_6 : decode cX8_readBareAtom 6 = .ok (.lconst 0, 1) := by decide +kernel
theorem dX8_readBareAtom_7 : decode cX8_readBareAtom 7 = .ok (.lcmp, 1) := by decide +kernel
theorem dX8_readBareAtom_8 : decode cX8_readBareAtom 8 = .ok (.ifCond .lt 20, 3) := by decide +kernel
theorem dX8_readBareAtom_11 : decode cX8_readBareAtom 11 = .ok (.aload_n 0, 1) := by decide +kernel
theorem dX8_readBareAtom_12 : decode cX8_readBareAtom 12 = .ok (.getfield 15, 3) := by decide +kernel
theorem dX8_readBareAtom_15 : decode cX8_readBareAtom 15 = .ok (.iconst 0, 1) := by decide +kernel
theorem dX8_readBareAtom_16 : decode cX8_readBareAtom 16 = .ok (.iconst 1, 1) := by decide +kernel
theorem dX8_readBareAtom_17 : decode cX8_readBareAtom 17 = .ok (.lload_n 3, 1) := by decide +kernel
theorem dX8_readBareAtom_18 : decode cX8_readBareAtom 18 = .ok (.l2i, 1) := by decide +kernel
theorem dX8_readBareAtom_19 : decode cX8_readBareAtom 19 = .ok (.invokevirtual 259, 3) := by decide +kernel
theorem dX8_readBareAtom_22 : decode cX8_readBareAtom 22 = .ok (.aload_n 0, 1) := by decide +kernel
theorem dX8_readBareAtom_23 : decode cX8_readBareAtom 23 = .ok (.invokevirtual 34, 3) := by decide +kernel
theorem dX8_readBareAtom_26 : decode cX8_readBareAtom 26 = .ok (.iconst 1, 1) := by decide +kernel
theorem dX8_readBareAtom_27 : decode cX8_readBareAtom 27 = .ok (.ireturn, 1) := by decide +kernel
theorem dX8_readBareAtom_28 : decode cX8_readBareAtom 28 = .ok (.aload_n 0, 1) := by decide +kernel
theorem dX8_readBareAtom_29 : decode cX8_readBareAtom 29 = .ok (.ldc 175, 2) := by decide +kernel
theorem dX8_readBareAtom_31 : decode cX8_readBareAtom 31 = .ok (.invokevirtual 77, 3) := by decide +kernel
theorem dX8_readBareAtom_34 : decode cX8_readBareAtom 34 = .ok (.ifCond .eq 20, 3) := by decide +kernel
theorem dX8_readBareAtom_37 : decode cX8_readBareAtom 37 = .ok (.aload_n 0, 1) := by decide +kernel
theorem dX8_readBareAtom_38 : decode cX8_readBareAtom 38 = .ok (.getfield 15, 3) := by decide +kernel
theorem dX8_readBareAtom_41 : decode cX8_readBareAtom 41 = .ok (.iconst 1, 1) := by decide +kernel
theorem dX8_readBareAtom_42 : decode cX8_readBareAtom 42 = .ok (.iconst 0, 1) := by decide +kernel
theorem dX8_readBareAtom_43 : decode cX8_readBareAtom 43 = .ok (.iconst 0, 1) := by decide +kernel
theorem dX8_readBareAtom_44 : decode cX8_readBareAtom 44 = .ok (.invokevirtual 259, 3) := by decide +kernel
theorem dX8_readBareAtom_47 : decode cX8_readBareAtom 47 = .ok (.aload_n 0, 1) := by decide +kernel
theorem dX8_readBareAtom_48 : decode cX8_readBareAtom 48 = .ok (.invokevirtual 34, 3) := by decide +kernel
theorem dX8_readBareAtom_51 : decode cX8_readBareAtom 51 = .ok (.goto 68, 3) := by decide +kernel
theorem dX8_readBareAtom_54 : decode cX8_readBareAtom 54 = .ok (.aload_n 0, 1) := by decide +kernel
theorem dX8_readBareAtom_55 : decode cX8_readBareAtom 55 = .ok (.getfield 31, 3) := by decide +kernel
theorem dX8_readBareAtom_58 : decode cX8_readBareAtom 58 = .ok (.bipush 123, 2) := by decide +kernel
theorem dX8_readBareAtom_60 : decode cX8_readBareAtom 60 = .ok (.if_icmp .ne 39, 3) := by decide +kernel
theorem dX8_readBareAtom_63 : decode cX8_readBareAtom 63 = .ok (.iload_n 2, 1) := by decide +kernel
theorem dX8_readBareAtom_64 : decode cX8_readBareAtom 64 = .ok (.iconst 2, 1) := by decide +kernel
theorem dX8_readBareAtom_65 : decode cX8_readBareAtom 65 = .ok (.if_icmp .ge 34, 3) := by decide +kernel
theorem dX8_readBareAtom_68 : decode cX8_readBareAtom 68 = .ok (.aload_n 0, 1) := by decide +kernel
theorem dX8_readBareAtom_69 : decode cX8_readBareAtom 69 = .ok (.invokevirtual 34, 3) := by decide +kernel
theorem dX8_readBareAtom_72 : decode cX8_readBareAtom 72 = .ok (.aload_n 0, 1) := by decide +kernel
theorem dX8_readBareAtom_73 : decode cX8_readBareAtom 73 = .ok (.iload_n 1, 1) := by decide +kernel
theorem dX8_readBareAtom_74 : decode cX8_readBareAtom 74 = .ok (.iload_n 2, 1) := by decide +kernel
theorem dX8_readBareAtom_75 : decode cX8_readBareAtom 75 = .ok (.iconst 1, 1) := by decide +kernel
theorem dX8_readBareAtom_76 : decode cX8_readBareAtom 76 = .ok (.iadd, 1) := by decide +kernel
theorem dX8_readBareAtom_77 : decode cX8_readBareAtom 77 = .ok (.invokevirtual 239, 3) := by decide +kernel
theorem dX8_readBareAtom_80 : decode cX8_readBareAtom 80 = .ok (.ifCond .eq 10, 3) := by decide +kernel
theorem dX8_readBareAtom_83 : decode cX8_readBareAtom 83 = .ok (.aload_n 0, 1) := by decide +kernel
theorem dX8_readBareAtom_84 : decode cX8_readBareAtom 84 = .ok (.getfield 15, 3) := by decide +kernel
theorem dX8_readBareAtom_87 : decode cX8_readBareAtom 87 = .ok (.invokevirtual 275, 3) := by decide +kernel
theorem dX8_readBareAtom_90 : decode cX8_readBareAtom 90 = .ok (.aload_n 0, 1) := by decide +kernel
theorem dX8_readBareAtom_91 : decode cX8_readBareAtom 91 = .ok (.bipush 125, 2) := by decide +kernel
theorem dX8_readBareAtom_93 : decode cX8_readBareAtom 93 = .ok (.invokevirtual 172, 3) := by decide +kernel
theorem dX8_readBareAtom_96 : decode cX8_readBareAtom 96 = .ok (.goto 23, 3) := by decide +kernel
theorem dX8_readBareAtom_99 : decode cX8_readBareAtom 99 = .ok (.aload_n 0, 1) := by decide +kernel
theorem dX8_readBareAtom_100 : decode cX8_readBareAtom 100 = .ok (.invokevirtual 160, 3) := by decide +kernel
theorem dX8_readBareAtom_103 : decode cX8_readBareAtom 103 = .ok (.ifCond .lt 12, 3) := by decide +kernel
theorem dX8_readBareAtom_106 : decode cX8_readBareAtom 106 = .ok (.aload_n 0, 1) := by decide +kernel
theorem dX8_readBareAtom_107 : decode cX8_readBareAtom 107 = .ok (.iload_n 1, 1) := by decide +kernel
theorem dX8_readBareAtom_108 : decode cX8_readBareAtom 108 = .ok (.iload_n 2, 1) := by decide +kernel
theorem dX8_readBareAtom_109 : decode cX8_readBareAtom 109 = .ok (.invokevirtual 278, 3) := by decide +kernel
theorem dX8_readBareAtom_112 : decode cX8_readBareAtom 112 = .ok (.goto 7, 3) := by decide +kernel
theorem dX8_readBareAtom_115 : decode cX8_readBareAtom 115 = .ok (.aload_n 0, 1) := by decide +kernel
theorem dX8_readBareAtom_116 : decode cX8_readBareAtom 116 = .ok (.invokevirtual 37, 3) := by decide +kernel
theorem dX8_readBareAtom_119 : decode cX8_readBareAtom 119 = .ok (.iconst 0, 1) := by decide +kernel
theorem dX8_readBareAtom_120 : decode cX8_readBareAtom 120 = .ok (.ireturn, 1) := by decide +kernel
theorem dX8_readAccess_0 : decode cX8_readAccess 0 = .ok (.aload_n 0, 1) := by decide +kernel
theorem dX8_readAccess_1 : decode cX8_readAccess 1 = .ok (.invokevirtual 160, 3) := by decide +kernel
theorem dX8_readAccess_4 : decode cX8_readAccess 4 = .ok (.istore_n 3, 1) := by decide +kernel
theorem dX8_readAccess_5 : decode cX8_readAccess 5 = .ok (.aload_n 0, 1) := by decide +kernel
theorem dX8_readAccess_6 : decode cX8_readAccess 6 = .ok (.getfield 15, 3) := by decide +kernel
theorem dX8_readAccess_9 : decode cX8_readAccess 9 = .ok (.iload_n 3, 1) := by decide +kernel
theorem dX8_readAccess_10 : decode cX8_readAccess 10 = .ok (.invokevirtual 281, 3) := by decide +kernel
theorem dX8_readAccess_13 : decode cX8_readAccess 13 = .ok (.aload_n 0, 1) := by decide +kernel
theorem dX8_readAccess_14 : decode cX8_readAccess 14 = .ok (.invokevirtual 34, 3) := by decide +kernel
theorem dX8_readAccess_17 : decode cX8_readAccess 17 = .ok (.aload_n 0, 1) := by decide +kernel
theorem dX8_readAccess_18 : decode cX8_readAccess 18 = .ok (.getfield 31, 3) := by decide +kernel
theorem dX8_readAccess_21 : decode cX8_readAccess 21 = .ok (.bipush 91, 2) := by decide +kernel
theorem dX8_readAccess_23 : decode cX8_readAccess 23 = .ok (.if_icmp .ne 8, 3) := by decide +kernel
theorem dX8_readAccess_26 : decode cX8_readAccess 26 = .ok (.iload_n 2, 1) := by decide +kernel
theorem dX8_readAccess_27 : decode cX8_readAccess 27 = .ok (.iconst 2, 1) := by decide +kernel
theorem dX8_readAccess_28 : decode cX8_readAccess 28 = .ok (.if_icmp .lt 7, 3) := by decide +kernel
theorem dX8_readAccess_31 : decode cX8_readAccess 31 = .ok (.aload_n 0, 1) := by decide +kernel
theorem dX8_readAccess_32 : decode cX8_readAccess 32 = .ok (.invokevirtual 37, 3) := by decide +kernel
theorem dX8_readAccess_35 : decode cX8_readAccess 35 = .ok (.aload_n 0, 1) := by decide +kernel
theorem dX8_readAccess_36 : decode cX8_readAccess 36 = .ok (.invokevirtual 34, 3) := by decide +kernel
theorem dX8_readAccess_39 : decode cX8_readAccess 39 = .ok (.aload_n 0, 1) := by decide +kernel
theorem dX8_readAccess_40 : decode cX8_readAccess 40 = .ok (.getfield 15, 3) := by decide +kernel
theorem dX8_readAccess_43 : decode cX8_readAccess 43 = .ok (.getfield 236, 3) := by decide +kernel
theorem dX8_readAccess_46 : decode cX8_readAccess 46 = .ok (.istore 4, 2) := by decide +kernel
theorem dX8_readAccess_48 : decode cX8_readAccess 48 = .ok (.aload_n 0, 1) := by decide +kernel
theorem dX8_readAccess_49 : decode cX8_readAccess 49 = .ok (.iload_n 1, 1) := by decide +kernel
theorem dX8_readAccess_50 : decode cX8_readAccess 50 = .ok (.iload_n 2, 1) := by decide +kernel
theorem dX8_readAccess_51 : decode cX8_readAccess 51 = .ok (.iconst 1, 1) := by decide +kernel
theorem dX8_readAccess_52 : decode cX8_readAccess 52 = .ok (.iadd, 1) := by decide +kernel
theorem dX8_readAccess_53 : decode cX8_readAccess 53 = .ok (.invokevirtual 239, 3) := by decide +kernel
theorem dX8_readAccess_56 : decode cX8_readAccess 56 = .ok (.istore 5, 2) := by decide +kernel
theorem dX8_readAccess_58 : decode cX8_readAccess 58 = .ok (.iconst 1, 1) := by decide +kernel
theorem dX8_readAccess_59 : decode cX8_readAccess 59 = .ok (.istore 6, 2) := by decide +kernel
theorem dX8_readAccess_61 : decode cX8_readAccess 61 = .ok (.aload_n 0, 1) := by decide +kernel
theorem dX8_readAccess_62 : decode cX8_readAccess 62 = .ok (.getfield 31, 3) := by decide +kernel
theorem dX8_readAccess_65 : decode cX8_readAccess 65 = .ok (.bipush 58, 2) := by decide +kernel
theorem dX8_readAccess_67 : decode cX8_readAccess 67 = .ok (.if_icmp .ne 13, 3) := by decide +kernel
theorem dX8_readAccess_70 : decode cX8_readAccess 70 = .ok (.aload_n 0, 1) := by decide +kernel
theorem dX8_readAccess_71 : decode cX8_readAccess 71 = .ok (.invokevirtual 34, 3) := by decide +kernel
theorem dX8_readAccess_74 : decode cX8_readAccess 74 = .ok (.aload_n 0, 1) := by decide +kernel
theorem dX8_readAccess_75 : decode cX8_readAccess 75 = .ok (.invokevirtual 284, 3) := by decide +kernel
theorem dX8_readAccess_78 : decode cX8_readAccess 78 = .ok (.istore 6, 2) := by decide +kernel
theorem dX8_readAccess_80 : decode cX8_readAccess 80 = .ok (.aload_n 0, 1) := by decide +kernel
theorem dX8_readAccess_81 : decode cX8_readAccess 81 = .ok (.bipush 93, 2) := by decide +kernel
theorem dX8_readAccess_83 : decode cX8_readAccess 83 = .ok (.invokevirtual 172, 3) := by decide +kernel
theorem dX8_readAccess_86 : decode cX8_readAccess 86 = .ok (.aload_n 0, 1) := by decide +kernel
theorem dX8_readAccess_87 : decode cX8_readAccess 87 = .ok (.getfield 15, 3) := by decide +kernel
theorem dX8_readAccess_90 : decode cX8_readAccess 90 = .ok (.iload_n 3, 1) := by decide +kernel
theorem dX8_readAccess_91 : decode cX8_readAccess 91 = .ok (.iload 6, 2) := by decide +kernel
theorem dX8_readAccess_93 : decode cX8_readAccess 93 = .ok (.iload_n 1, 1) := by decide +kernel
theorem dX8_readAccess_94 : decode cX8_readAccess 94 = .ok (.iload 5, 2) := by decide +kernel
theorem dX8_readAccess_96 : decode cX8_readAccess 96 = .ok (.ifCond .eq 8, 3) := by decide +kernel
theorem dX8_readAccess_99 : decode cX8_readAccess 99 = .ok (.iload 4, 2) := by decide +kernel
theorem dX8_readAccess_101 : decode cX8_readAccess 101 = .ok (.goto 4, 3) := by decide +kernel
theorem dX8_readAccess_104 : decode cX8_readAccess 104 = .ok (.iconst (-1), 1) := by decide +kernel
theorem dX8_readAccess_105 : decode cX8_readAccess 105 = .ok (.invokevirtual 287, 3) := by decide +kernel
theorem dX8_readAccess_108 : decode cX8_readAccess 108 = .ok (.return_, 1) := by decide +kernel
theorem dX9_init_0 : decode cX9_init 0 = .ok (.aload_n 0, 1) := by decide +kernel
theorem dX9_init_1 : decode cX9_init 1 = .ok (.invokespecial 1, 3) := by decide +kernel
theorem dX9_init_4 : decode cX9_init 4 = .ok (.aload_n 0, 1) := by decide +kernel
theorem dX9_init_5 : decode cX9_init 5 = .ok (.sipush 2000, 3) := by decide +kernel
theorem dX9_init_8 : decode cX9_init 8 = .ok (.newarray .byte, 2) := by decide +kernel
theorem dX9_init_10 : decode cX9_init 10 = .ok (.putfield 9, 3) := by decide +kernel
theorem dX9_init_13 : decode cX9_init 13 = .ok (.return_, 1) := by decide +kernel
theorem dX9_hasRoom_0 : decode cX9_hasRoom 0 = .ok (.aload_n 0, 1) := by decide +kernel
theorem dX9_hasRoom_1 : decode cX9_hasRoom 1 = .ok (.getfield 13, 3) := by decide +kernel
theorem dX9_hasRoom_4 : decode cX9_hasRoom 4 = .ok (.iload_n 1, 1) := by decide +kernel
theorem dX9_hasRoom_5 : decode cX9_hasRoom 5 = .ok (.iadd, 1) := by decide +kernel
theorem dX9_hasRoom_6 : decode cX9_hasRoom 6 = .ok (.sipush 2000, 3) := by decide +kernel
theorem dX9_hasRoom_9 : decode cX9_hasRoom 9 = .ok (.if_icmp .gt 7, 3) := by decide +kernel
theorem dX9_hasRoom_12 : decode cX9_hasRoom 12 = .ok (.iconst 1, 1) := by decide +kernel
theorem dX9_hasRoom_13 : decode cX9_hasRoom 13 = .ok (.goto 4, 3) := by decide +kernel
theorem dX9_hasRoom_16 : decode cX9_hasRoom 16 = .ok (.iconst 0, 1) := by decide +kernel
theorem dX9_hasRoom_17 : decode cX9_hasRoom 17 = .ok (.ireturn, 1) := by decide +kernel
theorem dX9_put_0 : decode cX9_put 0 = .ok (.aload_n 0, 1) := by decide +kernel
theorem dX9_put_1 : decode cX9_put 1 = .ok (.iconst 4, 1) := by decide +kernel
theorem dX9_put_2 : decode cX9_put 2 = .ok (.invokevirtual 17, 3) := by decide +kernel
theorem dX9_put_5 : decode cX9_put 5 = .ok (.ifCond .ne 4, 3) := by decide +kernel
theorem dX9_put_8 : decode cX9_put 8 = .ok (.return_, 1) := by decide +kernel
theorem dX9_put_9 : decode cX9_put 9 = .ok (.bipush 24, 2) := by decide +kernel
theorem dX9_put_11 : decode cX9_put 11 = .ok (.istore_n 2, 1) := by decide +kernel
theorem dX9_put_12 : decode cX9_put 12 = .ok (.iload_n 2, 1) := by decide +kernel
theorem dX9_put_13 : decode cX9_put 13 = .ok (.ifCond .lt 32, 3) := by decide +kernel
theorem dX9_put_16 : decode cX9_put 16 = .ok (.aload_n 0, 1) := by decide +kernel
theorem dX9_put_17 : decode cX9_put 17 = .ok (.getfield 9, 3) := by decide +kernel
theorem dX9_put_20 : decode cX9_put 20 = .ok (.aload_n 0, 1) := by decide +kernel
theorem dX9_put_21 : decode cX9_put 21 = .ok (.getfield 13, 3) := by decide +kernel
theorem dX9_put_24 : decode cX9_put 24 = .ok (.iload_n 1, 1) := by decide +kernel
theorem dX9_put_25 : decode cX9_put 25 = .ok (.iload_n 2, 1) := by decide +kernel
theorem dX9_put_26 : decode cX9_put 26 = .ok (.ishr, 1) := by decide +kernel
theorem dX9_put_27 : decode cX9_put 27 = .ok (.i2b, 1) := by decide +kernel
theorem dX9_put_28 : decode cX9_put 28 = .ok (.bastore, 1) := by decide +kernel
theorem dX9_put_29 : decode cX9_put 29 = .ok (.aload_n 0, 1) := by decide +kernel
theorem dX9_put_30 : decode cX9_put 30 = .ok (.dup, 1) := by decide +kernel
theorem dX9_put_31 : decode cX9_put 31 = .ok (.getfield 13, 3) := by decide +kernel
theorem dX9_put_34 : decode cX9_put 34 = .ok (.iconst 1, 1) := by decide +kernel
theorem dX9_put_35 : decode cX9_put 35 = .ok (.iadd, 1) := by decide +kernel
theorem dX9_put_36 : decode cX9_put 36 = .ok (.putfield 13, 3) := by decide +kernel
theorem dX9_put_39 : decode cX9_put 39 = .ok (.iinc 2 (-8), 3) := by decide +kernel
theorem dX9_put_42 : decode cX9_put 42 = .ok (.goto (-30), 3) := by decide +kernel
theorem dX9_put_45 : decode cX9_put 45 = .ok (.return_, 1) := by decide +kernel
theorem dX9_at_0 : decode cX9_at 0 = .ok (.iload_n 1, 1) := by decide +kernel
theorem dX9_at_1 : decode cX9_at 1 = .ok (.ifCond .lt 18, 3) := by decide +kernel
theorem dX9_at_4 : decode cX9_at 4 = .ok (.iload_n 1, 1) := by decide +kernel
theorem dX9_at_5 : decode cX9_at 5 = .ok (.aload_n 0, 1) := by decide +kernel
theorem dX9_at_6 : decode cX9_at 6 = .ok (.getfield 13, 3) := by decide +kernel
theorem dX9_at_9 : decode cX9_at 9 = .ok (.if_icmp .ge 10, 3) := by decide +kernel
theorem dX9_at_12 : decode cX9_at 12 = .ok (.iload_n 1, 1) := by decide +kernel
theorem dX9_at_13 : decode cX9_at 13 = .ok (.sipush 2000, 3) := by decide +kernel
theorem dX9_at_16 : decode cX9_at 16 = .ok (.if_icmp .lt 7, 3) := by decide +kernel
theorem dX9_at_19 : decode cX9_at 19 = .ok (.iconst (-1), 1) := by decide +kernel
theorem dX9_at_20 : decode cX9_at 20 = .ok (.goto 13, 3) := by decide +kernel
theorem dX9_at_23 : decode cX9_at 23 = .ok (.aload_n 0, 1) := by decide +kernel
theorem dX9_at_24 : decode cX9_at 24 = .ok (.getfield 9, 3) := by decide +kernel
theorem dX9_at_27 : decode cX9_at 27 = .ok (.iload_n 1, 1) := by decide +kernel
theorem dX9_at_28 : decode cX9_at 28 = .ok (.baload, 1) := by decide +kernel
theorem dX9_at_29 : decode cX9_at 29 = .ok (.sipush 255, 3) := by decide +kernel
theorem dX9_at_32 : decode cX9_at 32 = .ok (.iand, 1) := by decide +kernel
theorem dX9_at_33 : decode cX9_at 33 = .ok (.ireturn, 1) := by decide +kernel
theorem dX9_lowestFirst_0 : decode cX9_lowestFirst 0 = .ok (.lconst 0, 1) := by decide +kernel
theorem dX9_lowestFirst_1 : decode cX9_lowestFirst 1 = .ok (.lstore_n 3, 1) := by decide +kernel
theorem dX9_lowestFirst_2 : decode cX9_lowestFirst 2 = .ok (.iload_n 2, 1) := by decide +kernel
theorem dX9_lowestFirst_3 : decode cX9_lowestFirst 3 = .ok (.iconst 1, 1) := by decide +kernel
theorem dX9_lowestFirst_4 : decode cX9_lowestFirst 4 = .ok (.isub, 1) := by decide +kernel
theorem dX9_lowestFirst_5 : decode cX9_lowestFirst 5 = .ok (.istore 5, 2) := by decide +kernel
theorem dX9_lowestFirst_7 : decode cX9_lowestFirst 7 = .ok (.iload 5, 2) := by decide +kernel
theorem dX9_lowestFirst_9 : decode cX9_lowestFirst 9 = .ok (.ifCond .lt 24, 3) := by decide +kernel
theorem dX9_lowestFirst_12 : decode cX9_lowestFirst 12 = .ok (.lload_n 3, 1) := by decide +kernel
theorem dX9_lowestFirst_13 : decode cX9_lowestFirst 13 = .ok (.bipush 8, 2) := by decide +kernel
theorem dX9_lowestFirst_15 : decode cX9_lowestFirst 15 = .ok (.lshl, 1) := by decide +kernel
theorem dX9_lowestFirst_16 : decode cX9_lowestFirst 16 = .ok (.aload_n 0, 1) := by decide +kernel
theorem dX9_lowestFirst_17 : decode cX9_lowestFirst 17 = .ok (.iload_n 1, 1) := by decide +kernel
theorem dX9_lowestFirst_18 : decode cX9_lowestFirst 18 = .ok (.iload 5, 2) := by decide +kernel
theorem dX9_lowestFirst_20 : decode cX9_lowestFirst 20 = .ok (.iadd, 1) := by decide +kernel
theorem dX9_lowestFirst_21 : decode cX9_lowestFirst 21 = .ok (.invokevirtual 21, 3) := by decide +kernel
theorem dX9_lowestFirst_24 : decode cX9_lowestFirst 24 = .ok (.i2l, 1) := by decide +kernel
theorem dX9_lowestFirst_25 : decode cX9_lowestFirst 25 = .ok (.lor, 1) := by decide +kernel
theorem dX9_lowestFirst_26 : decode cX9_lowestFirst 26 = .ok (.lstore_n 3, 1) := by decide +kernel
theorem dX9_lowestFirst_27 : decode cX9_lowestFirst 27 = .ok (.iinc 5 (-1), 3) := by decide +kernel
theorem dX9_lowestFirst_30 : decode cX9_lowestFirst 30 = .ok (.goto (-23), 3) := by decide +kernel
theorem dX9_lowestFirst_33 : decode cX9_lowestFirst 33 = .ok (.lload_n 3, 1) := by decide +kernel
theorem dX9_lowestFirst_34 : decode cX9_lowestFirst 34 = .ok (.lreturn, 1) := by decide +kernel
theorem dX10_init_0 : decode cX10_init 0 = .ok (.aload_n 0, 1) := by decide +kernel
theorem dX10_init_1 : decode cX10_init 1 = .ok (.invokespecial 3, 3) := by decide +kernel
theorem dX10_init_4 : decode cX10_init 4 = .ok (.aload_n 0, 1) := by decide +kernel
theorem dX10_init_5 : decode cX10_init 5 = .ok (.sipush 4001, 3) := by decide +kernel
theorem dX10_init_8 : decode cX10_init 8 = .ok (.newarray .int, 2) := by decide +kernel
theorem dX10_init_10 : decode cX10_init 10 = .ok (.putfield 11, 3) := by decide +kernel
theorem dX10_init_13 : decode cX10_init 13 = .ok (.aload_n 0, 1) := by decide +kernel
theorem dX10_init_14 : decode cX10_init 14 = .ok (.aload_n 1, 1) := by decide +kernel
theorem dX10_init_15 : decode cX10_init 15 = .ok (.putfield 17, 3) := by decide +kernel
theorem dX10_init_18 : decode cX10_init 18 = .ok (.aload_n 0, 1) := by decide +kernel
theorem dX10_init_19 : decode cX10_init 19 = .ok (.aload_n 2, 1) := by decide +kernel
theorem dX10_init_20 : decode cX10_init 20 = .ok (.putfield 21, 3) := by decide +kernel
theorem dX10_init_23 : decode cX10_init 23 = .ok (.return_, 1) := by decide +kernel
theorem dX10_turn_0 : decode cX10_turn 0 = .ok (.aload_n 0, 1) := by decide +kernel
theorem dX10_turn_1 : decode cX10_turn 1 = .ok (.aload_n 1, 1) := by decide +kernel
theorem dX10_turn_2 : decode cX10_turn 2 = .ok (.putfield 17, 3) := by decide +kernel
theorem dX10_turn_5 : decode cX10_turn 5 = .ok (.aload_n 0, 1) := by decide +kernel
theorem dX10_turn_6 : decode cX10_turn 6 = .ok (.iconst 0, 1) := by decide +kernel
theorem dX10_turn_7 : decode cX10_turn 7 = .ok (.putfield 25, 3) := by decide +kernel
theorem dX10_turn_10 : decode cX10_turn 10 = .ok (.aload_n 0, 1) := by decide +kernel
theorem dX10_turn_11 : decode cX10_turn 11 = .ok (.invokevirtual 29, 3) := by decide +kernel
theorem dX10_turn_14 : decode cX10_turn 14 = .ok (.aload_n 0, 1) := by decide +kernel
theorem dX10_turn_15 : decode cX10_turn 15 = .ok (.getfield 32, 3) := by decide +kernel
theorem dX10_turn_18 : decode cX10_turn 18 = .ok (.ldc 38, 2) := by decide +kernel
theorem dX10_turn_20 : decode cX10_turn 20 = .ok (.if_icmp .le 5, 3) := by decide +kernel
theorem dX10_turn_23 : decode cX10_turn 23 = .ok (.iconst (-1), 1) := by decide +kernel
theorem dX10_turn_24 : decode cX10_turn 24 = .ok (.ireturn, 1) := by decide +kernel
theorem dX10_turn_25 : decode cX10_turn 25 = .ok (.aload_n 0, 1) := by decide +kernel
theorem dX10_turn_26 : decode cX10_turn 26 = .ok (.iconst 1, 1) := by decide +kernel
theorem dX10_turn_27 : decode cX10_turn 27 = .ok (.putfield 25, 3) := by decide +kernel
theorem dX10_turn_30 : decode cX10_turn 30 = .ok (.aload_n 0, 1) := by decide +kernel
theorem dX10_turn_31 : decode cX10_turn 31 = .ok (.invokevirtual 29, 3) := by decide +kernel
theorem dX10_turn_34 : decode cX10_turn 34 = .ok (.aload_n 0, 1) := by decide +kernel
theorem dX10_turn_35 : decode cX10_turn 35 = .ok (.getfield 21, 3) := by decide +kernel
theorem dX10_turn_38 : decode cX10_turn 38 = .ok (.aload_n 0, 1) := by decide +kernel
theorem dX10_turn_39 : decode cX10_turn 39 = .ok (.getfield 32, 3) := by decide +kernel
theorem dX10_turn_42 : decode cX10_turn 42 = .ok (.putfield 39, 3) := by decide +kernel
theorem dX10_turn_45 : decode cX10_turn 45 = .ok (.aload_n 0, 1) := by decide +kernel
theorem dX10_turn_46 : decode cX10_turn 46 = .ok (.getfield 32, 3) := by decide +kernel
theorem dX10_turn_49 : decode cX10_turn 49 = .ok (.ireturn, 1) := by decide +kernel
theorem dX10_turnAll_0 : decode cX10_turnAll 0 = .ok (.aload_n 0, 1) := by decide +kernel
theorem dX10_turnAll_1 : decode cX10_turnAll 1 = .ok (.iconst 0, 1) := by decide +kernel
theorem dX10_turnAll_2 : decode cX10_turnAll 2 = .ok (.putfield 32, 3) := by decide +kernel
theorem dX10_turnAll_5 : decode cX10_turnAll 5 = .ok (.iconst 0, 1) := by decide +kernel
theorem dX10_turnAll_6 : decode cX10_turnAll 6 = .ok (.istore_n 1, 1) := by decide +kernel
theorem dX10_turnAll_7 : decode cX10_turnAll 7 = .ok (.iload_n 1, 1) := by decide +kernel
theorem dX10_turnAll_8 : decode cX10_turnAll 8 = .ok (.aload_n 0, 1) := by decide +kernel
theorem dX10_turnAll_9 : decode cX10_turnAll 9 = .ok (.getfield 17, 3) := by decide +kernel
theorem dX10_turnAll_12 : decode cX10_turnAll 12 = .ok (.getfield 40, 3) := by decide +kernel
theorem dX10_turnAll_15 : decode cX10_turnAll 15 = .ok (.if_icmp .ge 24, 3) := by decide +kernel
theorem dX10_turnAll_18 : decode cX10_turnAll 18 = .ok (.aload_n 0, 1) := by decide +kernel
theorem dX10_turnAll_19 : decode cX10_turnAll 19 = .ok (.getfield 11, 3) := by decide +kernel
theorem dX10_turnAll_22 : decode cX10_turnAll 22 = .ok (.iload_n 1, 1) := by decide +kernel
theorem dX10_turnAll_23 : decode cX10_turnAll 23 = .ok (.aload_n 0, 1) := by decide +kernel
theorem dX10_turnAll_24 : decode cX10_turnAll 24 = .ok (.getfield 32, 3) := by decide +kernel
theorem dX10_turnAll_27 : decode cX10_turnAll 27 = .ok (.iastore, 1) := by decide +kernel
theorem dX10_turnAll_28 : decode cX10_turnAll 28 = .ok (.aload_n 0, 1) := by decide +kernel
theorem dX10_turnAll_29 : decode cX10_turnAll 29 = .ok (.iload_n 1, 1) := by decide +kernel
theorem dX10_turnAll_30 : decode cX10_turnAll 30 = .ok (.invokevirtual 41, 3) := by decide +kernel
theorem dX10_turnAll_33 : decode cX10_turnAll 33 = .ok (.iinc 1 1, 3) := by decide +kernel
theorem dX10_turnAll_36 : decode cX10_turnAll 36 = .ok (.goto (-29), 3) := by decide +kernel
theorem dX10_turnAll_39 : decode cX10_turnAll 39 = .ok (.return_, 1) := by decide +kernel
theorem dX10_turnOne_0 : decode cX10_turnOne 0 = .ok (.aload_n 0, 1) := by decide +kernel
theorem dX10_turnOne_1 : decode cX10_turnOne 1 = .ok (.getfield 17, 3) := by decide +kernel
theorem dX10_turnOne_4 : decode cX10_turnOne 4 = .ok (.iload_n 1, 1) := by decide +kernel
theorem dX10_turnOne_5 : decode cX10_turnOne 5 = .ok (.invokevirtual 45, 3) := by decide +kernel
theorem dX10_turnOne_8 : decode cX10_turnOne 8 = .ok (.lstore_n 2, 1) := by decide +kernel
theorem dX10_turnOne_9 : decode cX10_turnOne 9 = .ok (.lload_n 2, 1) := by decide +kernel
theorem dX10_turnOne_10 : decode cX10_turnOne 10 = .ok (.invokestatic 49, 3) := by decide +kernel
theorem dX10_turnOne_13 : decode cX10_turnOne 13 = .ok (.istore 4, 2) := by decide +kernel
theorem dX10_turnOne_15 : decode cX10_turnOne 15 = .ok (.iload 4, 2) := by decide +kernel
theorem dX10_turnOne_17 : decode cX10_turnOne 17 = .ok (.invokestatic 53, 3) := by decide +kernel
theorem dX10_turnOne_20 : decode cX10_turnOne 20 = .ok (.ifCond .eq 11, 3) := by decide +kernel
theorem dX10_turnOne_23 : decode cX10_turnOne 23 = .ok (.aload_n 0, 1) := by decide +kernel
theorem dX10_turnOne_24 : decode cX10_turnOne 24 = .ok (.lload_n 2, 1) := by decide +kernel
theorem dX10_turnOne_25 : decode cX10_turnOne 25 = .ok (.invokevirtual 57, 3) := by decide +kernel
theorem dX10_turnOne_28 : decode cX10_turnOne 28 = .ok (.goto 58, 3) := by decide +kernel
theorem dX10_turnOne_31 : decode cX10_turnOne 31 = .ok (.iload 4, 2) := by decide +kernel
theorem dX10_turnOne_33 : decode cX10_turnOne 33 = .ok (.sipush 149, 3) := by decide +kernel
theorem dX10_turnOne_36 : decode cX10_turnOne 36 = .ok (.if_icmp .ne 12, 3) := by decide +kernel
theorem dX10_turnOne_39 : decode cX10_turnOne 39 = .ok (.aload_n 0, 1) := by decide +kernel
theorem dX10_turnOne_40 : decode cX10_turnOne 40 = .ok (.bipush 115, 2) := by decide +kernel
theorem dX10_turnOne_42 : decode cX10_turnOne 42 = .ok (.invokevirtual 61, 3) := by decide +kernel
theorem dX10_turnOne_45 : decode cX10_turnOne 45 = .ok (.goto 41, 3) := by decide +kernel
theorem dX10_turnOne_48 : decode cX10_turnOne 48 = .ok (.iload 4, 2) := by decide +kernel
theorem dX10_turnOne_50 : decode cX10_turnOne 50 = .ok (.invokestatic 64, 3) := by decide +kernel
theorem dX10_turnOne_53 : decode cX10_turnOne 53 = .ok (.ifCond .eq 12, 3) := by decide +kernel
theorem dX10_turnOne_56 : decode cX10_turnOne 56 = .ok (.aload_n 0, 1) := by decide +kernel
theorem dX10_turnOne_57 : decode cX10_turnOne 57 = .ok (.lload_n 2, 1) := by decide +kernel
theorem dX10_turnOne_58 : decode cX10_turnOne 58 = .ok (.iload_n 1, 1) := by decide +kernel
theorem dX10_turnOne_59 : decode cX10_turnOne 59 = .ok (.invokevirtual 67, 3) := by decide +kernel
theorem dX10_turnOne_62 : decode cX10_turnOne 62 = .ok (.goto 24, 3) := by decide +kernel
theorem dX10_turnOne_65 : decode cX10_turnOne 65 = .ok (.iload 4, 2) := by decide +kernel
theorem dX10_turnOne_67 : decode cX10_turnOne 67 = .ok (.invokestatic 71, 3) := by decide +kernel
theorem dX10_turnOne_70 : decode cX10_turnOne 70 = .ok (.ifCond .eq 11, 3) := by decide +kernel
theorem dX10_turnOne_73 : decode cX10_turnOne 73 = .ok (.aload_n 0, 1) := by decide +kernel
theorem dX10_turnOne_74 : decode cX10_turnOne 74 = .ok (.lload_n 2, 1) := by decide +kernel
theorem dX10_turnOne_75 : decode cX10_turnOne 75 = .ok (.invokevirtual 74, 3) := by decide +kernel
theorem dX10_turnOne_78 : decode cX10_turnOne 78 = .ok (.goto 8, 3) := by decide +kernel
theorem dX10_turnOne_81 : decode cX10_turnOne 81 = .ok (.aload_n 0, 1) := by decide +kernel
theorem dX10_turnOne_82 : decode cX10_turnOne 82 = .ok (.lload_n 2, 1) := by decide +kernel
theorem dX10_turnOne_83 : decode cX10_turnOne 83 = .ok (.invokevirtual 77, 3) := by decide +kernel
theorem dX10_turnOne_86 : decode cX10_turnOne 86 = .ok (.return_, 1) := by decide +kernel
theorem dX10_put_0 : decode cX10_put 0 = .ok (.aload_n 0, 1) := by decide +kernel
theorem dX10_put_1 : decode cX10_put 1 = .ok (.getfield 25, 3) := by decide +kernel
theorem dX10_put_4 : decode cX10_put 4 = .ok (.ifCond .eq 25, 3) := by decide +kernel
theorem dX10_put_7 : decode cX10_put 7 = .ok (.aload_n 0, 1) := by decide +kernel
theorem dX10_put_8 : decode cX10_put 8 = .ok (.getfield 32, 3) := by decide +kernel
theorem dX10_put_11 : decode cX10_put 11 = .ok (.ldc 38, 2) := by decide +kernel
theorem dX10_put_13 : decode cX10_put 13 = .ok (.if_icmp .ge 16, 3) := by decide +kernel
theorem dX10_put_16 : decode cX10_put 16 = .ok (.aload_n 0, 1) := by decide +kernel
theorem dX10_put_17 : decode cX10_put 17 = .ok (.getfield 21, 3) := by decide +kernel
theorem dX10_put_20 : decode cX10_put 20 = .ok (.getfield 80, 3) := by decide +kernel
theorem dX10_put_23 : decode cX10_put 23 = .ok (.aload_n 0, 1) := by decide +kernel
theorem dX10_put_24 : decode cX10_put 24 = .ok (.getfield 32, 3) := by decide +kernel
theorem dX10_put_27 : decode cX10_put 27 = .ok (.iload_n 1, 1) := by decide +kernel
theorem dX10_put_28 : decode cX10_put 28 = .ok (.iastore, 1) := by decide +kernel
theorem dX10_put_29 : decode cX10_put 29 = .ok (.aload_n 0, 1) := by decide +kernel
theorem dX10_put_30 : decode cX10_put 30 = .ok (.dup, 1) := by decide +kernel
theorem dX10_put_31 : decode cX10_put 31 = .ok (.getfield 32, 3) := by decide +kernel
theorem dX10_put_34 : decode cX10_put 34 = .ok (.iconst 1, 1) := by decide +kernel
theorem dX10_put_35 : decode cX10_put 35 = .ok (.iadd, 1) := by decide +kernel
theorem dX10_put_36 : decode cX10_put 36 = .ok (.putfield 32, 3) := by decide +kernel
theorem dX10_put_39 : decode cX10_put 39 = .ok (.return_, 1) := by decide +kernel
theorem dX10_placeOf_0 : decode cX10_placeOf 0 = .ok (.iload_n 0, 1) := by decide +kernel
theorem dX10_placeOf_1 : decode cX10_placeOf 1 = .ok (.bipush 6, 2) := by decide +kernel
theorem dX10_placeOf_3 : decode cX10_placeOf 3 = .ok (.if_icmp .ge 10, 3) := by decide +kernel
theorem dX10_placeOf_6 : decode cX10_placeOf 6 = .ok (.bipush 10, 2) := by decide +kernel
theorem dX10_placeOf_8 : decode cX10_placeOf 8 = .ok (.iload_n 0, 1) := by decide +kernel
theorem dX10_placeOf_9 : decode cX10_placeOf 9 = .ok (.iadd, 1) := by decide +kernel
theorem dX10_placeOf_10 : decode cX10_placeOf 10 = .ok (.goto 7, 3) := by decide +kernel
theorem dX10_placeOf_13 : decode cX10_placeOf 13 = .ok (.bipush 12, 2) := by decide +kernel
theorem dX10_placeOf_15 : decode cX10_placeOf 15 = .ok (.iload_n 0, 1) := by decide +kernel
theorem dX10_placeOf_16 : decode cX10_placeOf 16 = .ok (.iadd, 1) := by decide +kernel
theorem dX10_placeOf_17 : decode cX10_placeOf 17 = .ok (.ireturn, 1) := by decide +kernel
theorem dX10_putOp_0 : decode cX10_putOp 0 = .ok (.aload_n 0, 1) := by decide +kernel
theorem dX10_putOp_1 : decode cX10_putOp 1 = .ok (.iload_n 2, 1) := by decide +kernel
theorem dX10_putOp_2 : decode cX10_putOp 2 = .ok (.bipush 25, 2) := by decide +kernel
theorem dX10_putOp_4 : decode cX10_putOp 4 = .ok (.ishl, 1) := by decide +kernel
theorem dX10_putOp_5 : decode cX10_putOp 5 = .ok (.iload 6, 2) := by decide +kernel
theorem dX10_putOp_7 : decode cX10_putOp 7 = .ok (.bipush 20, 2) := by decide +kernel
theorem dX10_putOp_9 : decode cX10_putOp 9 = .ok (.ishl, 1) := by decide +kernel
theorem dX10_putOp_10 : decode cX10_putOp 10 = .ok (.ior, 1) := by decide +kernel
theorem dX10_putOp_11 : decode cX10_putOp 11 = .ok (.iload 5, 2) := by decide +kernel
theorem dX10_putOp_13 : decode cX10_putOp 13 = .ok (.bipush 15, 2) := by decide +kernel
theorem dX10_putOp_15 : decode cX10_putOp 15 = .ok (.ishl, 1) := by decide +kernel
theorem dX10_putOp_16 : decode cX10_putOp 16 = .ok (.ior, 1) := by decide +kernel
theorem dX10_putOp_17 : decode cX10_putOp 17 = .ok (.iload_n 3, 1) := by decide +kernel
theorem dX10_putOp_18 : decode cX10_putOp 18 = .ok (.bipush 12, 2) := by decide +kernel
theorem dX10_putOp_20 : decode cX10_putOp 20 = .ok (.ishl, 1) := by decide +kernel
theorem dX10_putOp_21 : decode cX10_putOp 21 = .ok (.ior, 1) := by decide +kernel
theorem dX10_putOp_22 : decode cX10_putOp 22 = .ok (.iload 4, 2) := by decide +kernel
theorem dX10_putOp_24 : decode cX10_putOp 24 = .ok (.bipush 7, 2) := by decide +kernel
theorem dX10_putOp_26 : decode cX10_putOp 26 = .ok (.ishl, 1) := by decide +kernel
theorem dX10_putOp_27 : decode cX10_putOp 27 = .ok (.ior, 1) := by decide +kernel
theorem dX10_putOp_28 : decode cX10_putOp 28 = .ok (.iload_n 1, 1) := by decide +kernel
theorem dX10_putOp_29 : decode cX10_putOp 29 = .ok (.ior, 1) := by decide +kernel
theorem dX10_putOp_30 : decode cX10_putOp 30 = .ok (.invokevirtual 61, 3) := by decide +kernel
theorem dX10_putOp_33 : decode cX10_putOp 33 = .ok (.return_, 1) := by decide +kernel
theorem dX10_putImm_0 : decode cX10_putImm 0 = .ok (.aload_n 0, 1) := by decide +kernel
theorem dX10_putImm_1 : decode cX10_putImm 1 = .ok (.iload 5, 2) := by decide +kernel
theorem dX10_putImm_3 : decode cX10_putImm 3 = .ok (.bipush 20, 2) := by decide +kernel
theorem dX10_putImm_5 : decode cX10_putImm 5 = .ok (.ishl, 1) := by decide +kernel
theorem dX10_putImm_6 : decode cX10_putImm 6 = .ok (.iload 4, 2) := by decide +kernel
theorem dX10_putImm_8 : decode cX10_putImm 8 = .ok (.bipush 15, 2) := by decide +kernel
theorem dX10_putImm_10 : decode cX10_putImm 10 = .ok (.ishl, 1) := by decide +kernel
theorem dX10_putImm_11 : decode cX10_putImm 11 = .ok (.ior, 1) := by decide +kernel
theorem dX10_putImm_12 : decode cX10_putImm 12 = .ok (.iload_n 2, 1) := by decide +kernel
theorem dX10_putImm_13 : decode cX10_putImm 13 = .ok (.bipush 12, 2) := by decide +kernel
theorem dX10_putImm_15 : decode cX10_putImm 15 = .ok (.ishl, 1) := by decide +kernel
theorem dX10_putImm_16 : decode cX10_putImm 16 = .ok (.ior, 1) := by decide +kernel
theorem dX10_putImm_17 : decode cX10_putImm 17 = .ok (.iload_n 3, 1) := by decide +kernel
theorem dX10_putImm_18 : decode cX10_putImm 18 = .ok (.bipush 7, 2) := by decide +kernel
theorem dX10_putImm_20 : decode cX10_putImm 20 = .ok (.ishl, 1) := by decide +kernel
theorem dX10_putImm_21 : decode cX10_putImm 21 = .ok (.ior, 1) := by decide +kernel
theorem dX10_putImm_22 : decode cX10_putImm 22 = .ok (.iload_n 1, 1) := by decide +kernel
theorem dX10_putImm_23 : decode cX10_putImm 23 = .ok (.ior, 1) := by decide +kernel
theorem dX10_putImm_24 : decode cX10_putImm 24 = .ok (.invokevirtual 61, 3) := by decide +kernel
theorem dX10_putImm_27 : decode cX10_putImm 27 = .ok (.return_, 1) := by decide +kernel
theorem dX10_putAdd_0 : decode cX10_putAdd 0 = .ok (.aload_n 0, 1) := by decide +kernel
theorem dX10_putAdd_1 : decode cX10_putAdd 1 = .ok (.iload_n 3, 1) := by decide +kernel
theorem dX10_putAdd_2 : decode cX10_putAdd 2 = .ok (.bipush 20, 2) := by decide +kernel
theorem dX10_putAdd_4 : decode cX10_putAdd 4 = .ok (.ishl, 1) := by decide +kernel
theorem dX10_putAdd_5 : decode cX10_putAdd 5 = .ok (.iload_n 2, 1) := by decide +kernel
theorem dX10_putAdd_6 : decode cX10_putAdd 6 = .ok (.bipush 15, 2) := by decide +kernel
theorem dX10_putAdd_8 : decode cX10_putAdd 8 = .ok (.ishl, 1) := by decide +kernel
theorem dX10_putAdd_9 : decode cX10_putAdd 9 = .ok (.ior, 1) := by decide +kernel
theorem dX10_putAdd_10 : decode cX10_putAdd 10 = .ok (.iload_n 1, 1) := by decide +kernel
theorem dX10_putAdd_11 : decode cX10_putAdd 11 = .ok (.bipush 7, 2) := by decide +kernel
theorem dX10_putAdd_13 : decode cX10_putAdd 13 = .ok (.ishl, 1) := by decide +kernel
theorem dX10_putAdd_14 : decode cX10_putAdd 14 = .ok (.ior, 1) := by decide +kernel
theorem dX10_putAdd_15 : decode cX10_putAdd 15 = .ok (.bipush 19, 2) := by decide +kernel
theorem dX10_putAdd_17 : decode cX10_putAdd 17 = .ok (.ior, 1) := by decide +kernel
theorem dX10_putAdd_18 : decode cX10_putAdd 18 = .ok (.invokevirtual 61, 3) := by decide +kernel
theorem dX10_putAdd_21 : decode cX10_putAdd 21 = .ok (.return_, 1) := by decide +kernel
theorem dX10_putBranch_0 : decode cX10_putBranch 0 = .ok (.aload_n 0, 1) := by decide +kernel
theorem dX10_putBranch_1 : decode cX10_putBranch 1 = .ok (.iload_n 3, 1) := by decide +kernel
theorem dX10_putBranch_2 : decode cX10_putBranch 2 = .ok (.bipush 20, 2) := by decide +kernel
theorem dX10_putBranch_4 : decode cX10_putBranch 4 = .ok (.ishl, 1) := by decide +kernel
theorem dX10_putBranch_5 : decode cX10_putBranch 5 = .ok (.iload_n 2, 1) := by decide +kernel
theorem dX10_putBranch_6 : decode cX10_putBranch 6 = .ok (.bipush 15, 2) := by decide +kernel
theorem dX10_putBranch_8 : decode cX10_putBranch 8 = .ok (.ishl, 1) := by decide +kernel
theorem dX10_putBranch_9 : decode cX10_putBranch 9 = .ok (.ior, 1) := by decide +kernel
theorem dX10_putBranch_10 : decode cX10_putBranch 10 = .ok (.iload_n 1, 1) := by decide +kernel
theorem dX10_putBranch_11 : decode cX10_putBranch 11 = .ok (.bipush 12, 2) := by decide +kernel
theorem dX10_putBranch_13 : decode cX10_putBranch 13 = .ok (.ishl, 1) := by decide +kernel
theorem dX10_putBranch_14 : decode cX10_putBranch 14 = .ok (.ior, 1) := by decide +kernel
theorem dX10_putBranch_15 : decode cX10_putBranch 15 = .ok (.iload 4, 2) := by decide +kernel
theorem dX10_putBranch_17 : decode cX10_putBranch 17 = .ok (.bipush 7, 2) := by decide +kernel
theorem dX10_putBranch_19 : decode cX10_putBranch 19 = .ok (.ishl, 1) := by decide +kernel
theorem dX10_putBranch_20 : decode cX10_putBranch 20 = .ok (.ior, 1) := by decide +kernel
theorem dX10_putBranch_21 : decode cX10_putBranch 21 = .ok (.bipush 99, 2) := by decide +kernel
theorem dX10_putBranch_23 : decode cX10_putBranch 23 = .ok (.ior, 1) := by decide +kernel
theorem dX10_putBranch_24 : decode cX10_putBranch 24 = .ok (.invokevirtual 61, 3) := by decide +kernel
theorem dX10_putBranch_27 : decode cX10_putBranch 27 = .ok (.return_, 1) := by decide +kernel
theorem dX10_putStore_0 : decode cX10_putStore 0 = .ok (.aload_n 0, 1) := by decide +kernel
theorem dX10_putStore_1 : decode cX10_putStore 1 = .ok (.iload_n 3, 1) := by decide +kernel
theorem dX10_putStore_2 : decode cX10_putStore 2 = .ok (.bipush 20, 2) := by decide +kernel
theorem dX10_putStore_4 : decode cX10_putStore 4 = .ok (.ishl, 1) := by decide +kernel
theorem dX10_putStore_5 : decode cX10_putStore 5 = .ok (.iload_n 2, 1) := by decide +kernel
theorem dX10_putStore_6 : decode cX10_putStore 6 = .ok (.bipush 15, 2) := by decide +kernel
theorem dX10_putStore_8 : decode cX10_putStore 8 = .ok (.ishl, 1) := by decide +kernel
theorem dX10_putStore_9 : decode cX10_putStore 9 = .ok (.ior, 1) := by decide +kernel
theorem dX10_putStore_10 : decode cX10_putStore 10 = .ok (.iload_n 1, 1) := by decide +kernel
theorem dX10_putStore_11 : decode cX10_putStore 11 = .ok (.bipush 12, 2) := by decide +kernel
theorem dX10_putStore_13 : decode cX10_putStore 13 = .ok (.ishl, 1) := by decide +kernel
theorem dX10_putStore_14 : decode cX10_putStore 14 = .ok (.ior, 1) := by decide +kernel
theorem dX10_putStore_15 : decode cX10_putStore 15 = .ok (.bipush 35, 2) := by decide +kernel
theorem dX10_putStore_17 : decode cX10_putStore 17 = .ok (.ior, 1) := by decide +kernel
theorem dX10_putStore_18 : decode cX10_putStore 18 = .ok (.invokevirtual 61, 3) := by decide +kernel
theorem dX10_putStore_21 : decode cX10_putStore 21 = .ok (.return_, 1) := by decide +kernel
theorem dX10_putGoing_0 : decode cX10_putGoing 0 = .ok (.iload_n 1, 1) := by decide +kernel
theorem dX10_putGoing_1 : decode cX10_putGoing 1 = .ok (.bipush 20, 2) := by decide +kernel
theorem dX10_putGoing_3 : decode cX10_putGoing 3 = .ok (.ishr, 1) := by decide +kernel
theorem dX10_putGoing_4 : decode cX10_putGoing 4 = .ok (.iconst 1, 1) := by decide +kernel
theorem dX10_putGoing_5 : decode cX10_putGoing 5 = .ok (.iand, 1) := by decide +kernel
theorem dX10_putGoing_6 : decode cX10_putGoing 6 = .ok (.istore_n 2, 1) := by decide +kernel
theorem dX10_putGoing_7 : decode cX10_putGoing 7 = .ok (.aload_n 0, 1) := by decide +kernel
theorem dX10_putGoing_8 : decode cX10_putGoing 8 = .ok (.iload_n 2, 1) := by decide +kernel
theorem dX10_putGoing_9 : decode cX10_putGoing 9 = .ok (.bipush 31, 2) := by decide +kernel
theorem dX10_putGoing_11 : decode cX10_putGoing 11 = .ok (.ishl, 1) := by decide +kernel
theorem dX10_putGoing_12 : decode cX10_putGoing 12 = .ok (.iload_n 1, 1) := by decide +kernel
theorem dX10_putGoing_13 : decode cX10_putGoing 13 = .ok (.iconst 1, 1) := by decide +kernel
theorem dX10_putGoing_14 : decode cX10_putGoing 14 = .ok (.ishr, 1) := by decide +kernel
theorem dX10_putGoing_15 : decode cX10_putGoing 15 = .ok (.sipush 1023, 3) := by decide +kernel
theorem dX10_putGoing_18 : decode cX10_putGoing 18 = .ok (.iand, 1) := by decide +kernel
theorem dX10_putGoing_19 : decode cX10_putGoing 19 = .ok (.bipush 21, 2) := by decide +kernel
theorem dX10_putGoing_21 : decode cX10_putGoing 21 = .ok (.ishl, 1) := by decide +kernel
theorem dX10_putGoing_22 : decode cX10_putGoing 22 = .ok (.ior, 1) := by decide +kernel
theorem dX10_putGoing_23 : decode cX10_putGoing 23 = .ok (.iload_n 1, 1) := by decide +kernel
theorem dX10_putGoing_24 : decode cX10_putGoing 24 = .ok (.bipush 11, 2) := by decide +kernel
theorem dX10_putGoing_26 : decode cX10_putGoing 26 = .ok (.ishr, 1) := by decide +kernel
theorem dX10_putGoing_27 : decode cX10_putGoing 27 = .ok (.iconst 1, 1) := by decide +kernel
theorem dX10_putGoing_28 : decode cX10_putGoing 28 = .ok (.iand, 1) := by decide +kernel
theorem dX10_putGoing_29 : decode cX10_putGoing 29 = .ok (.bipush 20, 2) := by decide +kernel
theorem dX10_putGoing_31 : decode cX10_putGoing 31 = .ok (.ishl, 1) := by decide +kernel
theorem dX10_putGoing_32 : decode cX10_putGoing 32 = .ok (.ior, 1) := by decide +kernel
theorem dX10_putGoing_33 : decode cX10_putGoing 33 = .ok (.iload_n 1, 1) := by decide +kernel
theorem dX10_putGoing_34 : decode cX10_putGoing 34 = .ok (.ldc 83, 2) := by decide +kernel
theorem dX10_putGoing_36 : decode cX10_putGoing 36 = .ok (.iand, 1) := by decide +kernel
theorem dX10_putGoing_37 : decode cX10_putGoing 37 = .ok (.ior, 1) := by decide +kernel
theorem dX10_putGoing_38 : decode cX10_putGoing 38 = .ok (.bipush 111, 2) := by decide +kernel
theorem dX10_putGoing_40 : decode cX10_putGoing 40 = .ok (.ior, 1) := by decide +kernel
theorem dX10_putGoing_41 : decode cX10_putGoing 41 = .ok (.invokevirtual 61, 3) := by decide +kernel
theorem dX10_putGoing_44 : decode cX10_putGoing 44 = .ok (.return_, 1) := by decide +kernel
theorem dX10_putNumber_0 : decode cX10_putNumber 0 = .ok (.iload_n 2, 1) := by decide +kernel
theorem dX10_putNumber_1 : decode cX10_putNumber 1 = .ok (.sipush (-2048), 3) := by decide +kernel
theorem dX10_putNumber_4 : decode cX10_putNumber 4 = .ok (.if_icmp .lt 27, 3) := by decide +kernel
theorem dX10_putNumber_7 : decode cX10_putNumber 7 = .ok (.iload_n 2, 1) := by decide +kernel
theorem dX10_putNumber_8 : decode cX10_putNumber 8 = .ok (.sipush 2047, 3) := by decide +kernel
theorem dX10_putNumber_11 : decode cX10_putNumber 11 = .ok (.if_icmp .gt 20, 3) := by decide +kernel
theorem dX10_putNumber_14 : decode cX10_putNumber 14 = .ok (.aload_n 0, 1) := by decide +kernel
theorem dX10_putNumber_15 : decode cX10_putNumber 15 = .ok (.iload_n 2, 1) := by decide +kernel
theorem dX10_putNumber_16 : decode cX10_putNumber 16 = .ok (.bipush 20, 2) := by decide +kernel
theorem dX10_putNumber_18 : decode cX10_putNumber 18 = .ok (.ishl, 1) := by decide +kernel
theorem dX10_putNumber_19 : decode cX10_putNumber 19 = .ok (.iload_n 1, 1) := by decide +kernel
theorem dX10_putNumber_20 : decode cX10_putNumber 20 = .ok (.bipush 7, 2) := by decide +kernel
theorem dX10_putNumber_22 : decode cX10_putNumber 22 = .ok (.ishl, 1) := by decide +kernel
theorem dX10_putNumber_23 : decode cX10_putNumber 23 = .ok (.ior, 1) := by decide +kernel
theorem dX10_putNumber_24 : decode cX10_putNumber 24 = .ok (.bipush 19, 2) := by decide +kernel
theorem dX10_putNumber_26 : decode cX10_putNumber 26 = .ok (.ior, 1) := by decide +kernel
theorem dX10_putNumber_27 : decode cX10_putNumber 27 = .ok (.invokevirtual 61, 3) := by decide +kernel
theorem dX10_putNumber_30 : decode cX10_putNumber 30 = .ok (.return_, 1) := by decide +kernel
theorem dX10_putNumber_31 : decode cX10_putNumber 31 = .ok (.aload_n 0, 1) := by decide +kernel
theorem dX10_putNumber_32 : decode cX10_putNumber 32 = .ok (.iload_n 2, 1) := by decide +kernel
theorem dX10_putNumber_33 : decode cX10_putNumber 33 = .ok (.sipush 2048, 3) := by decide +kernel
theorem dX10_putNumber_36 : decode cX10_putNumber 36 = .ok (.iadd, 1) := by decide +kernel
theorem dX10_putNumber_37 : decode cX10_putNumber 37 = .ok (.sipush (-4096), 3) := by decide +kernel
theorem dX10_putNumber_40 : decode cX10_putNumber 40 = .ok (.iand, 1) := by decide +kernel
theorem dX10_putNumber_41 : decode cX10_putNumber 41 = .ok (.iload_n 1, 1) := by decide +kernel
theorem dX10_putNumber_42 : decode cX10_putNumber 42 = .ok (.bipush 7, 2) := by decide +kernel
theorem dX10_putNumber_44 : decode cX10_putNumber 44 = .ok (.ishl, 1) := by decide +kernel
theorem dX10_putNumber_45 : decode cX10_putNumber 45 = .ok (.ior, 1) := by decide +kernel
theorem dX10_putNumber_46 : decode cX10_putNumber 46 = .ok (.bipush 55, 2) := by decide +kernel
theorem dX10_putNumber_48 : decode cX10_putNumber 48 = .ok (.ior, 1) := by decide +kernel
theorem dX10_putNumber_49 : decode cX10_putNumber 49 = .ok (.invokevirtual 61, 3) := by decide +kernel
theorem dX10_putNumber_52 : decode cX10_putNumber 52 = .ok (.aload_n 0, 1) := by decide +kernel
theorem dX10_putNumber_53 : decode cX10_putNumber 53 = .ok (.iload_n 2, 1) := by decide +kernel
theorem dX10_putNumber_54 : decode cX10_putNumber 54 = .ok (.bipush 20, 2) := by decide +kernel
theorem dX10_putNumber_56 : decode cX10_putNumber 56 = .ok (.ishl, 1) := by decide +kernel
theorem dX10_putNumber_57 : decode cX10_putNumber 57 = .ok (.iload_n 1, 1) := by decide +kernel
theorem dX10_putNumber_58 : decode cX10_putNumber 58 = .ok (.bipush 15, 2) := by decide +kernel
theorem dX10_putNumber_60 : decode cX10_putNumber 60 = .ok (.ishl, 1) := by decide +kernel
theorem dX10_putNumber_61 : decode cX10_putNumber 61 = .ok (.ior, 1) := by decide +kernel
theorem dX10_putNumber_62 : decode cX10_putNumber 62 = .ok (.iload_n 1, 1) := by decide +kernel
theorem dX10_putNumber_63 : decode cX10_putNumber 63 = .ok (.bipush 7, 2) := by decide +kernel
theorem dX10_putNumber_65 : decode cX10_putNumber 65 = .ok (.ishl, 1) := by decide +kernel
theorem dX10_putNumber_66 : decode cX10_putNumber 66 = .ok (.ior, 1) := by decide +kernel
theorem dX10_putNumber_67 : decode cX10_putNumber 67 = .ok (.bipush 27, 2) := by decide +kernel
theorem dX10_putNumber_69 : decode cX10_putNumber 69 = .ok (.ior, 1) := by decide +kernel
theorem dX10_putNumber_70 : decode cX10_putNumber 70 = .ok (.invokevirtual 61, 3) := by decide +kernel
theorem dX10_putNumber_73 : decode cX10_putNumber 73 = .ok (.return_, 1) := by decide +kernel
theorem dX10_putCut_0 : decode cX10_putCut 0 = .ok (.aload_n 0, 1) := by decide +kernel
theorem dX10_putCut_1 : decode cX10_putCut 1 = .ok (.bipush 19, 2) := by decide +kernel
theorem dX10_putCut_3 : decode cX10_putCut 3 = .ok (.iconst 1, 1) := by decide +kernel
theorem dX10_putCut_4 : decode cX10_putCut 4 = .ok (.iload_n 1, 1) := by decide +kernel
theorem dX10_putCut_5 : decode cX10_putCut 5 = .ok (.iload_n 1, 1) := by decide +kernel
theorem dX10_putCut_6 : decode cX10_putCut 6 = .ok (.bipush 32, 2) := by decide +kernel
theorem dX10_putCut_8 : decode cX10_putCut 8 = .ok (.invokevirtual 84, 3) := by decide +kernel
theorem dX10_putCut_11 : decode cX10_putCut 11 = .ok (.aload_n 0, 1) := by decide +kernel
theorem dX10_putCut_12 : decode cX10_putCut 12 = .ok (.bipush 19, 2) := by decide +kernel
theorem dX10_putCut_14 : decode cX10_putCut 14 = .ok (.iconst 5, 1) := by decide +kernel
theorem dX10_putCut_15 : decode cX10_putCut 15 = .ok (.iload_n 1, 1) := by decide +kernel
theorem dX10_putCut_16 : decode cX10_putCut 16 = .ok (.iload_n 1, 1) := by decide +kernel
theorem dX10_putCut_17 : decode cX10_putCut 17 = .ok (.bipush 32, 2) := by decide +kernel
theorem dX10_putCut_19 : decode cX10_putCut 19 = .ok (.invokevirtual 84, 3) := by decide +kernel
theorem dX10_putCut_22 : decode cX10_putCut 22 = .ok (.return_, 1) := by decide +kernel
theorem dX10_putSide_0 : decode cX10_putSide 0 = .ok (.lload_n 1, 1) := by decide +kernel
theorem dX10_putSide_1 : decode cX10_putSide 1 = .ok (.invokestatic 49, 3) := by decide +kernel
theorem dX10_putSide_4 : decode cX10_putSide 4 = .ok (.invokestatic 88, 3) := by decide +kernel
theorem dX10_putSide_7 : decode cX10_putSide 7 = .ok (.ifCond .eq 11, 3) := by decide +kernel
theorem dX10_putSide_10 : decode cX10_putSide 10 = .ok (.lload_n 1, 1) := by decide +kernel
theorem dX10_putSide_11 : decode cX10_putSide 11 = .ok (.invokestatic 91, 3) := by decide +kernel
theorem dX10_putSide_14 : decode cX10_putSide 14 = .ok (.invokestatic 94, 3) := by decide +kernel
theorem dX10_putSide_17 : decode cX10_putSide 17 = .ok (.ireturn, 1) := by decide +kernel
theorem dX10_putSide_18 : decode cX10_putSide 18 = .ok (.aload_n 0, 1) := by decide +kernel
theorem dX10_putSide_19 : decode cX10_putSide 19 = .ok (.iconst 5, 1) := by decide +kernel
theorem dX10_putSide_20 : decode cX10_putSide 20 = .ok (.lload_n 1, 1) := by decide +kernel
theorem dX10_putSide_21 : decode cX10_putSide 21 = .ok (.invokestatic 98, 3) := by decide +kernel
theorem dX10_putSide_24 : decode cX10_putSide 24 = .ok (.invokevirtual 101, 3) := by decide +kernel
theorem dX10_putSide_27 : decode cX10_putSide 27 = .ok (.iconst 5, 1) := by decide +kernel
theorem dX10_putSide_28 : decode cX10_putSide 28 = .ok (.ireturn, 1) := by decide +kernel
theorem dX10_turnOp_0 : decode cX10_turnOp 0 = .ok (.lload_n 1, 1) := by decide +kernel
theorem dX10_turnOp_1 : decode cX10_turnOp 1 = .ok (.invokestatic 49, 3) := by decide +kernel
theorem dX10_turnOp_4 : decode cX10_turnOp 4 = .ok (.istore_n 3, 1) := by decide +kernel
theorem dX10_turnOp_5 : decode cX10_turnOp 5 = .ok (.iload_n 3, 1) := by decide +kernel
theorem dX10_turnOp_6 : decode cX10_turnOp 6 = .ok (.iconst 4, 1) := by decide +kernel
theorem dX10_turnOp_7 : decode cX10_turnOp 7 = .ok (.ishr, 1) := by decide +kernel
theorem dX10_turnOp_8 : decode cX10_turnOp 8 = .ok (.istore 4, 2) := by decide +kernel
theorem dX10_turnOp_10 : decode cX10_turnOp 10 = .ok (.lload_n 1, 1) := by decide +kernel
theorem dX10_turnOp_11 : decode cX10_turnOp 11 = .ok (.invokestatic 105, 3) := by decide +kernel
theorem dX10_turnOp_14 : decode cX10_turnOp 14 = .ok (.invokestatic 94, 3) := by decide +kernel
theorem dX10_turnOp_17 : decode cX10_turnOp 17 = .ok (.istore 5, 2) := by decide +kernel
theorem dX10_turnOp_19 : decode cX10_turnOp 19 = .ok (.iload_n 3, 1) := by decide +kernel
theorem dX10_turnOp_20 : decode cX10_turnOp 20 = .ok (.invokestatic 108, 3) := by decide +kernel
theorem dX10_turnOp_23 : decode cX10_turnOp 23 = .ok (.istore 6, 2) := by decide +kernel
theorem dX10_turnOp_25 : decode cX10_turnOp 25 = .ok (.iload 4, 2) := by decide +kernel
theorem dX10_turnOp_27 : decode cX10_turnOp 27 = .ok (.bipush 11, 2) := by decide +kernel
theorem dX10_turnOp_29 : decode cX10_turnOp 29 = .ok (.if_icmp .ne 23, 3) := by decide +kernel
theorem dX10_turnOp_32 : decode cX10_turnOp 32 = .ok (.iload_n 3, 1) := by decide +kernel
theorem dX10_turnOp_33 : decode cX10_turnOp 33 = .ok (.invokestatic 88, 3) := by decide +kernel
theorem dX10_turnOp_36 : decode cX10_turnOp 36 = .ok (.ifCond .ne 16, 3) := by decide +kernel
theorem dX10_turnOp_39 : decode cX10_turnOp 39 = .ok (.aload_n 0, 1) := by decide +kernel
theorem dX10_turnOp_40 : decode cX10_turnOp 40 = .ok (.iload 5, 2) := by decide +kernel
theorem dX10_turnOp_42 : decode cX10_turnOp 42 = .ok (.lload_n 1, 1) := by decide +kernel
theorem dX10_turnOp_43 : decode cX10_turnOp 43 = .ok (.invokestatic 98, 3) := by decide +kernel
theorem dX10_turnOp_46 : decode cX10_turnOp 46 = .ok (.invokevirtual 101, 3) := by decide +kernel
theorem dX10_turnOp_49 : decode cX10_turnOp 49 = .ok (.goto 155, 3) := by decide +kernel
theorem dX10_turnOp_52 : decode cX10_turnOp 52 = .ok (.iload 4, 2) := by decide +kernel
theorem dX10_turnOp_54 : decode cX10_turnOp 54 = .ok (.bipush 11, 2) := by decide +kernel
theorem dX10_turnOp_56 : decode cX10_turnOp 56 = .ok (.if_icmp .ne 20, 3) := by decide +kernel
theorem dX10_turnOp_59 : decode cX10_turnOp 59 = .ok (.aload_n 0, 1) := by decide +kernel
theorem dX10_turnOp_60 : decode cX10_turnOp 60 = .ok (.iload 5, 2) := by decide +kernel
theorem dX10_turnOp_62 : decode cX10_turnOp 62 = .ok (.lload_n 1, 1) := by decide +kernel
theorem dX10_turnOp_63 : decode cX10_turnOp 63 = .ok (.invokestatic 91, 3) := by decide +kernel
theorem dX10_turnOp_66 : decode cX10_turnOp 66 = .ok (.invokestatic 94, 3) := by decide +kernel
theorem dX10_turnOp_69 : decode cX10_turnOp 69 = .ok (.iconst 0, 1) := by decide +kernel
theorem dX10_turnOp_70 : decode cX10_turnOp 70 = .ok (.invokevirtual 111, 3) := by decide +kernel
theorem dX10_turnOp_73 : decode cX10_turnOp 73 = .ok (.goto 131, 3) := by decide +kernel
theorem dX10_turnOp_76 : decode cX10_turnOp 76 = .ok (.iload 4, 2) := by decide +kernel
theorem dX10_turnOp_78 : decode cX10_turnOp 78 = .ok (.bipush 8, 2) := by decide +kernel
theorem dX10_turnOp_80 : decode cX10_turnOp 80 = .ok (.if_icmp .ne 30, 3) := by decide +kernel
theorem dX10_turnOp_83 : decode cX10_turnOp 83 = .ok (.aload_n 0, 1) := by decide +kernel
theorem dX10_turnOp_84 : decode cX10_turnOp 84 = .ok (.iload 6, 2) := by decide +kernel
theorem dX10_turnOp_86 : decode cX10_turnOp 86 = .ok (.ifCond .eq 8, 3) := by decide +kernel
theorem dX10_turnOp_89 : decode cX10_turnOp 89 = .ok (.bipush 51, 2) := by decide +kernel
theorem dX10_turnOp_91 : decode cX10_turnOp 91 = .ok (.goto 5, 3) := by decide +kernel
theorem dX10_turnOp_94 : decode cX10_turnOp 94 = .ok (.bipush 59, 2) := by decide +kernel
theorem dX10_turnOp_96 : decode cX10_turnOp 96 = .ok (.bipush 32, 2) := by decide +kernel
theorem dX10_turnOp_98 : decode cX10_turnOp 98 = .ok (.iconst 0, 1) := by decide +kernel
theorem dX10_turnOp_99 : decode cX10_turnOp 99 = .ok (.iload 5, 2) := by decide +kernel
theorem dX10_turnOp_101 : decode cX10_turnOp 101 = .ok (.iconst 0, 1) := by decide +kernel
theorem dX10_turnOp_102 : decode cX10_turnOp 102 = .ok (.iload 5, 2) := by decide +kernel
theorem dX10_turnOp_104 : decode cX10_turnOp 104 = .ok (.invokevirtual 115, 3) := by decide +kernel
theorem dX10_turnOp_107 : decode cX10_turnOp 107 = .ok (.goto 97, 3) := by decide +kernel
theorem dX10_turnOp_110 : decode cX10_turnOp 110 = .ok (.iload 4, 2) := by decide +kernel
theorem dX10_turnOp_112 : decode cX10_turnOp 112 = .ok (.iconst 3, 1) := by decide +kernel
theorem dX10_turnOp_113 : decode cX10_turnOp 113 = .ok (.if_icmp .ne 19, 3) := by decide +kernel
theorem dX10_turnOp_116 : decode cX10_turnOp 116 = .ok (.aload_n 0, 1) := by decide +kernel
theorem dX10_turnOp_117 : decode cX10_turnOp 117 = .ok (.iload 6, 2) := by decide +kernel
theorem dX10_turnOp_119 : decode cX10_turnOp 119 = .ok (.iload 5, 2) := by decide +kernel
theorem dX10_turnOp_121 : decode cX10_turnOp 121 = .ok (.aload_n 0, 1) := by decide +kernel
theorem dX10_turnOp_122 : decode cX10_turnOp 122 = .ok (.lload_n 1, 1) := by decide +kernel
theorem dX10_turnOp_123 : decode cX10_turnOp 123 = .ok (.invokevirtual 119, 3) := by decide +kernel
theorem dX10_turnOp_126 : decode cX10_turnOp 126 = .ok (.invokevirtual 122, 3) := by decide +kernel
theorem dX10_turnOp_129 : decode cX10_turnOp 129 = .ok (.goto 75, 3) := by decide +kernel
theorem dX10_turnOp_132 : decode cX10_turnOp 132 = .ok (.aload_n 0, 1) := by decide +kernel
theorem dX10_turnOp_133 : decode cX10_turnOp 133 = .ok (.lload_n 1, 1) := by decide +kernel
theorem dX10_turnOp_134 : decode cX10_turnOp 134 = .ok (.invokevirtual 119, 3) := by decide +kernel
theorem dX10_turnOp_137 : decode cX10_turnOp 137 = .ok (.istore 7, 2) := by decide +kernel
theorem dX10_turnOp_139 : decode cX10_turnOp 139 = .ok (.iload 6, 2) := by decide +kernel
theorem dX10_turnOp_141 : decode cX10_turnOp 141 = .ok (.ifCond .ne 22, 3) := by decide +kernel
theorem dX10_turnOp_144 : decode cX10_turnOp 144 = .ok (.iload 4, 2) := by decide +kernel
theorem dX10_turnOp_146 : decode cX10_turnOp 146 = .ok (.iconst 4, 1) := by decide +kernel
theorem dX10_turnOp_147 : decode cX10_turnOp 147 = .ok (.if_icmp .eq 16, 3) := by decide +kernel
theorem dX10_turnOp_150 : decode cX10_turnOp 150 = .ok (.iload 4, 2) := by decide +kernel
theorem dX10_turnOp_152 : decode cX10_turnOp 152 = .ok (.iconst 5, 1) := by decide +kernel
theorem dX10_turnOp_153 : decode cX10_turnOp 153 = .ok (.if_icmp .eq 10, 3) := by decide +kernel
theorem dX10_turnOp_156 : decode cX10_turnOp 156 = .ok (.iload 4, 2) := by decide +kernel
theorem dX10_turnOp_158 : decode cX10_turnOp 158 = .ok (.bipush 10, 2) := by decide +kernel
theorem dX10_turnOp_160 : decode cX10_turnOp 160 = .ok (.if_icmp .ne 7, 3) := by decide +kernel
theorem dX10_turnOp_163 : decode cX10_turnOp 163 = .ok (.iconst 1, 1) := by decide +kernel
theorem dX10_turnOp_164 : decode cX10_turnOp 164 = .ok (.goto 4, 3) := by decide +kernel
theorem dX10_turnOp_167 : decode cX10_turnOp 167 = .ok (.iconst 0, 1) := by decide +kernel
theorem dX10_turnOp_168 : decode cX10_turnOp 168 = .ok (.istore 8, 2) := by decide +kernel
theorem dX10_turnOp_170 : decode cX10_turnOp 170 = .ok (.aload_n 0, 1) := by decide +kernel
theorem dX10_turnOp_171 : decode cX10_turnOp 171 = .ok (.iload 8, 2) := by decide +kernel
theorem dX10_turnOp_173 : decode cX10_turnOp 173 = .ok (.ifCond .eq 8, 3) := by decide +kernel
theorem dX10_turnOp_176 : decode cX10_turnOp 176 = .ok (.bipush 51, 2) := by decide +kernel
theorem dX10_turnOp_178 : decode cX10_turnOp 178 = .ok (.goto 5, 3) := by decide +kernel
theorem dX10_turnOp_181 : decode cX10_turnOp 181 = .ok (.bipush 59, 2) := by decide +kernel
theorem dX10_turnOp_183 : decode cX10_turnOp 183 = .ok (.getstatic 126, 3) := by decide +kernel
theorem dX10_turnOp_186 : decode cX10_turnOp 186 = .ok (.iload 4, 2) := by decide +kernel
theorem dX10_turnOp_188 : decode cX10_turnOp 188 = .ok (.iaload, 1) := by decide +kernel
theorem dX10_turnOp_189 : decode cX10_turnOp 189 = .ok (.getstatic 129, 3) := by decide +kernel
theorem dX10_turnOp_192 : decode cX10_turnOp 192 = .ok (.iload 4, 2) := by decide +kernel
theorem dX10_turnOp_194 : decode cX10_turnOp 194 = .ok (.iaload, 1) := by decide +kernel
theorem dX10_turnOp_195 : decode cX10_turnOp 195 = .ok (.iload 5, 2) := by decide +kernel
theorem dX10_turnOp_197 : decode cX10_turnOp 197 = .ok (.iload 5, 2) := by decide +kernel
theorem dX10_turnOp_199 : decode cX10_turnOp 199 = .ok (.iload 7, 2) := by decide +kernel
theorem dX10_turnOp_201 : decode cX10_turnOp 201 = .ok (.invokevirtual 115, 3) := by decide +kernel
theorem dX10_turnOp_204 : decode cX10_turnOp 204 = .ok (.iload 6, 2) := by decide +kernel
theorem dX10_turnOp_206 : decode cX10_turnOp 206 = .ok (.ifCond .ne 9, 3) := by decide +kernel
theorem dX10_turnOp_209 : decode cX10_turnOp 209 = .ok (.aload_n 0, 1) := by decide +kernel
theorem dX10_turnOp_210 : decode cX10_turnOp 210 = .ok (.iload 5, 2) := by decide +kernel
theorem dX10_turnOp_212 : decode cX10_turnOp 212 = .ok (.invokevirtual 132, 3) := by decide +kernel
theorem dX10_turnOp_215 : decode cX10_turnOp 215 = .ok (.return_, 1) := by decide +kernel
theorem dX10_turnDivision_0 : decode cX10_turnDivision 0 = .ok (.iload_n 3, 1) := by decide +kernel
theorem dX10_turnDivision_1 : decode cX10_turnDivision 1 = .ok (.istore 4, 2) := by decide +kernel
theorem dX10_turnDivision_3 : decode cX10_turnDivision 3 = .ok (.iload_n 1, 1) := by decide +kernel
theorem dX10_turnDivision_4 : decode cX10_turnDivision 4 = .ok (.ifCond .ne 18, 3) := by decide +kernel
theorem dX10_turnDivision_7 : decode cX10_turnDivision 7 = .ok (.aload_n 0, 1) := by decide +kernel
theorem dX10_turnDivision_8 : decode cX10_turnDivision 8 = .ok (.bipush 27, 2) := by decide +kernel
theorem dX10_turnDivision_10 : decode cX10_turnDivision 10 = .ok (.iconst 0, 1) := by decide +kernel
theorem dX10_turnDivision_11 : decode cX10_turnDivision 11 = .ok (.bipush 6, 2) := by decide +kernel
theorem dX10_turnDivision_13 : decode cX10_turnDivision 13 = .ok (.iload_n 3, 1) := by decide +kernel
theorem dX10_turnDivision_14 : decode cX10_turnDivision 14 = .ok (.iconst 0, 1) := by decide +kernel
theorem dX10_turnDivision_15 : decode cX10_turnDivision 15 = .ok (.invokevirtual 84, 3) := by decide +kernel
theorem dX10_turnDivision_18 : decode cX10_turnDivision 18 = .ok (.bipush 6, 2) := by decide +kernel
theorem dX10_turnDivision_20 : decode cX10_turnDivision 20 = .ok (.istore 4, 2) := by decide +kernel
theorem dX10_turnDivision_22 : decode cX10_turnDivision 22 = .ok (.aload_n 0, 1) := by decide +kernel
theorem dX10_turnDivision_23 : decode cX10_turnDivision 23 = .ok (.iconst 0, 1) := by decide +kernel
theorem dX10_turnDivision_24 : decode cX10_turnDivision 24 = .ok (.iload 4, 2) := by decide +kernel
theorem dX10_turnDivision_26 : decode cX10_turnDivision 26 = .ok (.iconst 0, 1) := by decide +kernel
theorem dX10_turnDivision_27 : decode cX10_turnDivision 27 = .ok (.bipush 12, 2) := by decide +kernel
theorem dX10_turnDivision_29 : decode cX10_turnDivision 29 = .ok (.invokevirtual 135, 3) := by decide +kernel
theorem dX10_turnDivision_32 : decode cX10_turnDivision 32 = .ok (.aload_n 0, 1) := by decide +kernel
theorem dX10_turnDivision_33 : decode cX10_turnDivision 33 = .ok (.iload_n 1, 1) := by decide +kernel
theorem dX10_turnDivision_34 : decode cX10_turnDivision 34 = .ok (.ifCond .eq 8, 3) := by decide +kernel
theorem dX10_turnDivision_37 : decode cX10_turnDivision 37 = .ok (.bipush 51, 2) := by decide +kernel
theorem dX10_turnDivision_39 : decode cX10_turnDivision 39 = .ok (.goto 5, 3) := by decide +kernel
theorem dX10_turnDivision_42 : decode cX10_turnDivision 42 = .ok (.bipush 59, 2) := by decide +kernel
theorem dX10_turnDivision_44 : decode cX10_turnDivision 44 = .ok (.iconst 1, 1) := by decide +kernel
theorem dX10_turnDivision_45 : decode cX10_turnDivision 45 = .ok (.iconst 5, 1) := by decide +kernel
theorem dX10_turnDivision_46 : decode cX10_turnDivision 46 = .ok (.iload_n 2, 1) := by decide +kernel
theorem dX10_turnDivision_47 : decode cX10_turnDivision 47 = .ok (.iload_n 2, 1) := by decide +kernel
theorem dX10_turnDivision_48 : decode cX10_turnDivision 48 = .ok (.iload 4, 2) := by decide +kernel
theorem dX10_turnDivision_50 : decode cX10_turnDivision 50 = .ok (.invokevirtual 115, 3) := by decide +kernel
theorem dX10_turnDivision_53 : decode cX10_turnDivision 53 = .ok (.aload_n 0, 1) := by decide +kernel
theorem dX10_turnDivision_54 : decode cX10_turnDivision 54 = .ok (.bipush 8, 2) := by decide +kernel
theorem dX10_turnDivision_56 : decode cX10_turnDivision 56 = .ok (.invokevirtual 139, 3) := by decide +kernel
theorem dX10_turnDivision_59 : decode cX10_turnDivision 59 = .ok (.aload_n 0, 1) := by decide +kernel
theorem dX10_turnDivision_60 : decode cX10_turnDivision 60 = .ok (.iload_n 2, 1) := by decide +kernel
theorem dX10_turnDivision_61 : decode cX10_turnDivision 61 = .ok (.iconst 0, 1) := by decide +kernel
theorem dX10_turnDivision_62 : decode cX10_turnDivision 62 = .ok (.iconst 0, 1) := by decide +kernel
theorem dX10_turnDivision_63 : decode cX10_turnDivision 63 = .ok (.invokevirtual 111, 3) := by decide +kernel
theorem dX10_turnDivision_66 : decode cX10_turnDivision 66 = .ok (.return_, 1) := by decide +kernel
theorem dX10_turnJump_0 : decode cX10_turnJump 0 = .ok (.lload_n 1, 1) := by decide +kernel
theorem dX10_turnJump_1 : decode cX10_turnJump 1 = .ok (.invokestatic 49, 3) := by decide +kernel
theorem dX10_turnJump_4 : decode cX10_turnJump 4 = .ok (.istore 4, 2) := by decide +kernel
theorem dX10_turnJump_6 : decode cX10_turnJump 6 = .ok (.iload 4, 2) := by decide +kernel
theorem dX10_turnJump_8 : decode cX10_turnJump 8 = .ok (.iconst 5, 1) := by decide +kernel
theorem dX10_turnJump_9 : decode cX10_turnJump 9 = .ok (.if_icmp .eq 71, 3) := by decide +kernel
theorem dX10_turnJump_12 : decode cX10_turnJump 12 = .ok (.lload_n 1, 1) := by decide +kernel
theorem dX10_turnJump_13 : decode cX10_turnJump 13 = .ok (.invokestatic 105, 3) := by decide +kernel
theorem dX10_turnJump_16 : decode cX10_turnJump 16 = .ok (.invokestatic 94, 3) := by decide +kernel
theorem dX10_turnJump_19 : decode cX10_turnJump 19 = .ok (.istore 5, 2) := by decide +kernel
theorem dX10_turnJump_21 : decode cX10_turnJump 21 = .ok (.aload_n 0, 1) := by decide +kernel
theorem dX10_turnJump_22 : decode cX10_turnJump 22 = .ok (.lload_n 1, 1) := by decide +kernel
theorem dX10_turnJump_23 : decode cX10_turnJump 23 = .ok (.invokevirtual 119, 3) := by decide +kernel
theorem dX10_turnJump_26 : decode cX10_turnJump 26 = .ok (.istore 6, 2) := by decide +kernel
theorem dX10_turnJump_28 : decode cX10_turnJump 28 = .ok (.iload 4, 2) := by decide +kernel
theorem dX10_turnJump_30 : decode cX10_turnJump 30 = .ok (.invokestatic 108, 3) := by decide +kernel
theorem dX10_turnJump_33 : decode cX10_turnJump 33 = .ok (.ifCond .ne 35, 3) := by decide +kernel
theorem dX10_turnJump_36 : decode cX10_turnJump 36 = .ok (.aload_n 0, 1) := by decide +kernel
theorem dX10_turnJump_37 : decode cX10_turnJump 37 = .ok (.bipush 27, 2) := by decide +kernel
theorem dX10_turnJump_39 : decode cX10_turnJump 39 = .ok (.iconst 0, 1) := by decide +kernel
theorem dX10_turnJump_40 : decode cX10_turnJump 40 = .ok (.bipush 6, 2) := by decide +kernel
theorem dX10_turnJump_42 : decode cX10_turnJump 42 = .ok (.iload 5, 2) := by decide +kernel
theorem dX10_turnJump_44 : decode cX10_turnJump 44 = .ok (.iconst 0, 1) := by decide +kernel
theorem dX10_turnJump_45 : decode cX10_turnJump 45 = .ok (.invokevirtual 84, 3) := by decide +kernel
theorem dX10_turnJump_48 : decode cX10_turnJump 48 = .ok (.aload_n 0, 1) := by decide +kernel
theorem dX10_turnJump_49 : decode cX10_turnJump 49 = .ok (.bipush 27, 2) := by decide +kernel
theorem dX10_turnJump_51 : decode cX10_turnJump 51 = .ok (.iconst 0, 1) := by decide +kernel
theorem dX10_turnJump_52 : decode cX10_turnJump 52 = .ok (.bipush 7, 2) := by decide +kernel
theorem dX10_turnJump_54 : decode cX10_turnJump 54 = .ok (.iload 6, 2) := by decide +kernel
theorem dX10_turnJump_56 : decode cX10_turnJump 56 = .ok (.iconst 0, 1) := by decide +kernel
theorem dX10_turnJump_57 : decode cX10_turnJump 57 = .ok (.invokevirtual 84, 3) := by decide +kernel
theorem dX10_turnJump_60 : decode cX10_turnJump 60 = .ok (.bipush 6, 2) := by decide +kernel
theorem dX10_turnJump_62 : decode cX10_turnJump 62 = .ok (.istore 5, 2) := by decide +kernel
theorem dX10_turnJump_64 : decode cX10_turnJump 64 = .ok (.bipush 7, 2) := by decide +kernel
theorem dX10_turnJump_66 : decode cX10_turnJump 66 = .ok (.istore 6, 2) := by decide +kernel
theorem dX10_turnJump_68 : decode cX10_turnJump 68 = .ok (.aload_n 0, 1) := by decide +kernel
theorem dX10_turnJump_69 : decode cX10_turnJump 69 = .ok (.iload 4, 2) := by decide +kernel
theorem dX10_turnJump_71 : decode cX10_turnJump 71 = .ok (.iconst 4, 1) := by decide +kernel
theorem dX10_turnJump_72 : decode cX10_turnJump 72 = .ok (.ishr, 1) := by decide +kernel
theorem dX10_turnJump_73 : decode cX10_turnJump 73 = .ok (.iload 5, 2) := by decide +kernel
theorem dX10_turnJump_75 : decode cX10_turnJump 75 = .ok (.iload 6, 2) := by decide +kernel
theorem dX10_turnJump_77 : decode cX10_turnJump 77 = .ok (.invokevirtual 142, 3) := by decide +kernel
theorem dX10_turnJump_80 : decode cX10_turnJump 80 = .ok (.iload_n 3, 1) := by decide +kernel
theorem dX10_turnJump_81 : decode cX10_turnJump 81 = .ok (.iconst 1, 1) := by decide +kernel
theorem dX10_turnJump_82 : decode cX10_turnJump 82 = .ok (.iadd, 1) := by decide +kernel
theorem dX10_turnJump_83 : decode cX10_turnJump 83 = .ok (.lload_n 1, 1) := by decide +kernel
theorem dX10_turnJump_84 : decode cX10_turnJump 84 = .ok (.invokestatic 145, 3) := by decide +kernel
theorem dX10_turnJump_87 : decode cX10_turnJump 87 = .ok (.iadd, 1) := by decide +kernel
theorem dX10_turnJump_88 : decode cX10_turnJump 88 = .ok (.istore 5, 2) := by decide +kernel
theorem dX10_turnJump_90 : decode cX10_turnJump 90 = .ok (.aload_n 0, 1) := by decide +kernel
theorem dX10_turnJump_91 : decode cX10_turnJump 91 = .ok (.iload 5, 2) := by decide +kernel
theorem dX10_turnJump_93 : decode cX10_turnJump 93 = .ok (.ifCond .lt 13, 3) := by decide +kernel
theorem dX10_turnJump_96 : decode cX10_turnJump 96 = .ok (.iload 5, 2) := by decide +kernel
theorem dX10_turnJump_98 : decode cX10_turnJump 98 = .ok (.aload_n 0, 1) := by decide +kernel
theorem dX10_turnJump_99 : decode cX10_turnJump 99 = .ok (.getfield 11, 3) := by decide +kernel
theorem dX10_turnJump_102 : decode cX10_turnJump 102 = .ok (.arraylength, 1) := by decide +kernel
theorem dX10_turnJump_103 : decode cX10_turnJump 103 = .ok (.if_icmp .lt 7, 3) := by decide +kernel
theorem dX10_turnJump_106 : decode cX10_turnJump 106 = .ok (.iconst 0, 1) := by decide +kernel
theorem dX10_turnJump_107 : decode cX10_turnJump 107 = .ok (.goto 17, 3) := by decide +kernel
theorem dX10_turnJump_110 : decode cX10_turnJump 110 = .ok (.iconst 4, 1) := by decide +kernel
theorem dX10_turnJump_111 : decode cX10_turnJump 111 = .ok (.aload_n 0, 1) := by decide +kernel
theorem dX10_turnJump_112 : decode cX10_turnJump 112 = .ok (.getfield 11, 3) := by decide +kernel
theorem dX10_turnJump_115 : decode cX10_turnJump 115 = .ok (.iload 5, 2) := by decide +kernel
theorem dX10_turnJump_117 : decode cX10_turnJump 117 = .ok (.iaload, 1) := by decide +kernel
theorem dX10_turnJump_118 : decode cX10_turnJump 118 = .ok (.aload_n 0, 1) := by decide +kernel
theorem dX10_turnJump_119 : decode cX10_turnJump 119 = .ok (.getfield 32, 3) := by decide +kernel
theorem dX10_turnJump_122 : decode cX10_turnJump 122 = .ok (.isub, 1) := by decide +kernel
theorem dX10_turnJump_123 : decode cX10_turnJump 123 = .ok (.imul, 1) := by decide +kernel
theorem dX10_turnJump_124 : decode cX10_turnJump 124 = .ok (.invokevirtual 139, 3) := by decide +kernel
theorem dX10_turnJump_127 : decode cX10_turnJump 127 = .ok (.return_, 1) := by decide +kernel
theorem dX10_putPassing_0 : decode cX10_putPassing 0 = .ok (.iload_n 1, 1) := by decide +kernel
theorem dX10_putPassing_1 : decode cX10_putPassing 1 = .ok (.tableswitch 201 1 12 #[89, 113, 126, 63, 101, 165, 177, 201, 201, 139, 152, 189], 63) := by decide +kernel
theorem dX10_putPassing_64 : decode cX10_putPassing 64 = .ok (.aload_n 0, 1) := by decide +kernel
theorem dX10_putPassing_65 : decode cX10_putPassing 65 = .ok (.bipush 51, 2) := by decide +kernel
theorem dX10_putPassing_67 : decode cX10_putPassing 67 = .ok (.iconst 0, 1) := by decide +kernel
theorem dX10_putPassing_68 : decode cX10_putPassing 68 = .ok (.bipush 7, 2) := by decide +kernel
theorem dX10_putPassing_70 : decode cX10_putPassing 70 = .ok (.bipush 6, 2) := by decide +kernel
theorem dX10_putPassing_72 : decode cX10_putPassing 72 = .ok (.iload_n 2, 1) := by decide +kernel
theorem dX10_putPassing_73 : decode cX10_putPassing 73 = .ok (.iload_n 3, 1) := by decide +kernel
theorem dX10_putPassing_74 : decode cX10_putPassing 74 = .ok (.invokevirtual 115, 3) := by decide +kernel
theorem dX10_putPassing_77 : decode cX10_putPassing 77 = .ok (.aload_n 0, 1) := by decide +kernel
theorem dX10_putPassing_78 : decode cX10_putPassing 78 = .ok (.iconst 0, 1) := by decide +kernel
theorem dX10_putPassing_79 : decode cX10_putPassing 79 = .ok (.bipush 6, 2) := by decide +kernel
theorem dX10_putPassing_81 : decode cX10_putPassing 81 = .ok (.iconst 0, 1) := by decide +kernel
theorem dX10_putPassing_82 : decode cX10_putPassing 82 = .ok (.bipush 8, 2) := by decide +kernel
theorem dX10_putPassing_84 : decode cX10_putPassing 84 = .ok (.invokevirtual 135, 3) := by decide +kernel
theorem dX10_putPassing_87 : decode cX10_putPassing 87 = .ok (.goto 124, 3) := by decide +kernel
theorem dX10_putPassing_90 : decode cX10_putPassing 90 = .ok (.aload_n 0, 1) := by decide +kernel
theorem dX10_putPassing_91 : decode cX10_putPassing 91 = .ok (.iconst 1, 1) := by decide +kernel
theorem dX10_putPassing_92 : decode cX10_putPassing 92 = .ok (.iload_n 2, 1) := by decide +kernel
theorem dX10_putPassing_93 : decode cX10_putPassing 93 = .ok (.iload_n 3, 1) := by decide +kernel
theorem dX10_putPassing_94 : decode cX10_putPassing 94 = .ok (.bipush 8, 2) := by decide +kernel
theorem dX10_putPassing_96 : decode cX10_putPassing 96 = .ok (.invokevirtual 135, 3) := by decide +kernel
theorem dX10_putPassing_99 : decode cX10_putPassing 99 = .ok (.goto 112, 3) := by decide +kernel
theorem dX10_putPassing_102 : decode cX10_putPassing 102 = .ok (.aload_n 0, 1) := by decide +kernel
theorem dX10_putPassing_103 : decode cX10_putPassing 103 = .ok (.iconst 0, 1) := by decide +kernel
theorem dX10_putPassing_104 : decode cX10_putPassing 104 = .ok (.iload_n 2, 1) := by decide +kernel
theorem dX10_putPassing_105 : decode cX10_putPassing 105 = .ok (.iload_n 3, 1) := by decide +kernel
theorem dX10_putPassing_106 : decode cX10_putPassing 106 = .ok (.bipush 8, 2) := by decide +kernel
theorem dX10_putPassing_108 : decode cX10_putPassing 108 = .ok (.invokevirtual 135, 3) := by decide +kernel
theorem dX10_putPassing_111 : decode cX10_putPassing 111 = .ok (.goto 100, 3) := by decide +kernel
theorem dX10_putPassing_114 : decode cX10_putPassing 114 = .ok (.aload_n 0, 1) := by decide +kernel
theorem dX10_putPassing_115 : decode cX10_putPassing 115 = .ok (.bipush 7, 2) := by decide +kernel
theorem dX10_putPassing_117 : decode cX10_putPassing 117 = .ok (.iload_n 3, 1) := by decide +kernel
theorem dX10_putPassing_118 : decode cX10_putPassing 118 = .ok (.iload_n 2, 1) := by decide +kernel
theorem dX10_putPassing_119 : decode cX10_putPassing 119 = .ok (.bipush 8, 2) := by decide +kernel
theorem dX10_putPassing_121 : decode cX10_putPassing 121 = .ok (.invokevirtual 135, 3) := by decide +kernel
theorem dX10_putPassing_124 : decode cX10_putPassing 124 = .ok (.goto 87, 3) := by decide +kernel
theorem dX10_putPassing_127 : decode cX10_putPassing 127 = .ok (.aload_n 0, 1) := by decide +kernel
theorem dX10_putPassing_128 : decode cX10_putPassing 128 = .ok (.bipush 6, 2) := by decide +kernel
theorem dX10_putPassing_130 : decode cX10_putPassing 130 = .ok (.iload_n 2, 1) := by decide +kernel
theorem dX10_putPassing_131 : decode cX10_putPassing 131 = .ok (.iload_n 3, 1) := by decide +kernel
theorem dX10_putPassing_132 : decode cX10_putPassing 132 = .ok (.bipush 8, 2) := by decide +kernel
theorem dX10_putPassing_134 : decode cX10_putPassing 134 = .ok (.invokevirtual 135, 3) := by decide +kernel
theorem dX10_putPassing_137 : decode cX10_putPassing 137 = .ok (.goto 74, 3) := by decide +kernel
theorem dX10_putPassing_140 : decode cX10_putPassing 140 = .ok (.aload_n 0, 1) := by decide +kernel
theorem dX10_putPassing_141 : decode cX10_putPassing 141 = .ok (.bipush 7, 2) := by decide +kernel
theorem dX10_putPassing_143 : decode cX10_putPassing 143 = .ok (.iload_n 2, 1) := by decide +kernel
theorem dX10_putPassing_144 : decode cX10_putPassing 144 = .ok (.iload_n 3, 1) := by decide +kernel
theorem dX10_putPassing_145 : decode cX10_putPassing 145 = .ok (.bipush 8, 2) := by decide +kernel
theorem dX10_putPassing_147 : decode cX10_putPassing 147 = .ok (.invokevirtual 135, 3) := by decide +kernel
theorem dX10_putPassing_150 : decode cX10_putPassing 150 = .ok (.goto 61, 3) := by decide +kernel
theorem dX10_putPassing_153 : decode cX10_putPassing 153 = .ok (.aload_n 0, 1) := by decide +kernel
theorem dX10_putPassing_154 : decode cX10_putPassing 154 = .ok (.bipush 6, 2) := by decide +kernel
theorem dX10_putPassing_156 : decode cX10_putPassing 156 = .ok (.iload_n 3, 1) := by decide +kernel
theorem dX10_putPassing_157 : decode cX10_putPassing 157 = .ok (.iload_n 2, 1) := by decide +kernel
theorem dX10_putPassing_158 : decode cX10_putPassing 158 = .ok (.bipush 8, 2) := by decide +kernel
theorem dX10_putPassing_160 : decode cX10_putPassing 160 = .ok (.invokevirtual 135, 3) := by decide +kernel
theorem dX10_putPassing_163 : decode cX10_putPassing 163 = .ok (.goto 48, 3) := by decide +kernel
theorem dX10_putPassing_166 : decode cX10_putPassing 166 = .ok (.aload_n 0, 1) := by decide +kernel
theorem dX10_putPassing_167 : decode cX10_putPassing 167 = .ok (.iconst 5, 1) := by decide +kernel
theorem dX10_putPassing_168 : decode cX10_putPassing 168 = .ok (.iload_n 3, 1) := by decide +kernel
theorem dX10_putPassing_169 : decode cX10_putPassing 169 = .ok (.iload_n 2, 1) := by decide +kernel
theorem dX10_putPassing_170 : decode cX10_putPassing 170 = .ok (.bipush 8, 2) := by decide +kernel
theorem dX10_putPassing_172 : decode cX10_putPassing 172 = .ok (.invokevirtual 135, 3) := by decide +kernel
theorem dX10_putPassing_175 : decode cX10_putPassing 175 = .ok (.goto 36, 3) := by decide +kernel
theorem dX10_putPassing_178 : decode cX10_putPassing 178 = .ok (.aload_n 0, 1) := by decide +kernel
theorem dX10_putPassing_179 : decode cX10_putPassing 179 = .ok (.iconst 4, 1) := by decide +kernel
theorem dX10_putPassing_180 : decode cX10_putPassing 180 = .ok (.iload_n 2, 1) := by decide +kernel
theorem dX10_putPassing_181 : decode cX10_putPassing 181 = .ok (.iload_n 3, 1) := by decide +kernel
theorem dX10_putPassing_182 : decode cX10_putPassing 182 = .ok (.bipush 8, 2) := by decide +kernel
theorem dX10_putPassing_184 : decode cX10_putPassing 184 = .ok (.invokevirtual 135, 3) := by decide +kernel
theorem dX10_putPassing_187 : decode cX10_putPassing 187 = .ok (.goto 24, 3) := by decide +kernel
theorem dX10_putPassing_190 : decode cX10_putPassing 190 = .ok (.aload_n 0, 1) := by decide +kernel
theorem dX10_putPassing_191 : decode cX10_putPassing 191 = .ok (.iconst 5, 1) := by decide +kernel
theorem dX10_putPassing_192 : decode cX10_putPassing 192 = .ok (.iload_n 2, 1) := by decide +kernel
theorem dX10_putPassing_193 : decode cX10_putPassing 193 = .ok (.iload_n 3, 1) := by decide +kernel
theorem dX10_putPassing_194 : decode cX10_putPassing 194 = .ok (.bipush 8, 2) := by decide +kernel
theorem dX10_putPassing_196 : decode cX10_putPassing 196 = .ok (.invokevirtual 135, 3) := by decide +kernel
theorem dX10_putPassing_199 : decode cX10_putPassing 199 = .ok (.goto 12, 3) := by decide +kernel
theorem dX10_putPassing_202 : decode cX10_putPassing 202 = .ok (.aload_n 0, 1) := by decide +kernel
theorem dX10_putPassing_203 : decode cX10_putPassing 203 = .ok (.iconst 4, 1) := by decide +kernel
theorem dX10_putPassing_204 : decode cX10_putPassing 204 = .ok (.iload_n 3, 1) := by decide +kernel
theorem dX10_putPassing_205 : decode cX10_putPassing 205 = .ok (.iload_n 2, 1) := by decide +kernel
theorem dX10_putPassing_206 : decode cX10_putPassing 206 = .ok (.bipush 8, 2) := by decide +kernel
theorem dX10_putPassing_208 : decode cX10_putPassing 208 = .ok (.invokevirtual 135, 3) := by decide +kernel
theorem dX10_putPassing_211 : decode cX10_putPassing 211 = .ok (.return_, 1) := by decide +kernel
theorem dX10_turnMemory_0 : decode cX10_turnMemory 0 = .ok (.lload_n 1, 1) := by decide +kernel
theorem dX10_turnMemory_1 : decode cX10_turnMemory 1 = .ok (.invokestatic 49, 3) := by decide +kernel
theorem dX10_turnMemory_4 : decode cX10_turnMemory 4 = .ok (.istore_n 3, 1) := by decide +kernel
theorem dX10_turnMemory_5 : decode cX10_turnMemory 5 = .ok (.iload_n 3, 1) := by decide +kernel
theorem dX10_turnMemory_6 : decode cX10_turnMemory 6 = .ok (.invokestatic 148, 3) := by decide +kernel
theorem dX10_turnMemory_9 : decode cX10_turnMemory 9 = .ok (.istore 4, 2) := by decide +kernel
theorem dX10_turnMemory_11 : decode cX10_turnMemory 11 = .ok (.iload_n 3, 1) := by decide +kernel
theorem dX10_turnMemory_12 : decode cX10_turnMemory 12 = .ok (.invokestatic 151, 3) := by decide +kernel
theorem dX10_turnMemory_15 : decode cX10_turnMemory 15 = .ok (.istore 5, 2) := by decide +kernel
theorem dX10_turnMemory_17 : decode cX10_turnMemory 17 = .ok (.iload 4, 2) := by decide +kernel
theorem dX10_turnMemory_19 : decode cX10_turnMemory 19 = .ok (.ifCond .eq 10, 3) := by decide +kernel
theorem dX10_turnMemory_22 : decode cX10_turnMemory 22 = .ok (.lload_n 1, 1) := by decide +kernel
theorem dX10_turnMemory_23 : decode cX10_turnMemory 23 = .ok (.invokestatic 91, 3) := by decide +kernel
theorem dX10_turnMemory_26 : decode cX10_turnMemory 26 = .ok (.goto 7, 3) := by decide +kernel
theorem dX10_turnMemory_29 : decode cX10_turnMemory 29 = .ok (.lload_n 1, 1) := by decide +kernel
theorem dX10_turnMemory_30 : decode cX10_turnMemory 30 = .ok (.invokestatic 105, 3) := by decide +kernel
theorem dX10_turnMemory_33 : decode cX10_turnMemory 33 = .ok (.istore 6, 2) := by decide +kernel
theorem dX10_turnMemory_35 : decode cX10_turnMemory 35 = .ok (.iload 5, 2) := by decide +kernel
theorem dX10_turnMemory_37 : decode cX10_turnMemory 37 = .ok (.bipush 8, 2) := by decide +kernel
theorem dX10_turnMemory_39 : decode cX10_turnMemory 39 = .ok (.if_icmp .ne 7, 3) := by decide +kernel
theorem dX10_turnMemory_42 : decode cX10_turnMemory 42 = .ok (.iconst 3, 1) := by decide +kernel
theorem dX10_turnMemory_43 : decode cX10_turnMemory 43 = .ok (.goto 24, 3) := by decide +kernel
theorem dX10_turnMemory_46 : decode cX10_turnMemory 46 = .ok (.iload 5, 2) := by decide +kernel
theorem dX10_turnMemory_48 : decode cX10_turnMemory 48 = .ok (.iconst 4, 1) := by decide +kernel
theorem dX10_turnMemory_49 : decode cX10_turnMemory 49 = .ok (.if_icmp .ne 7, 3) := by decide +kernel
theorem dX10_turnMemory_52 : decode cX10_turnMemory 52 = .ok (.iconst 2, 1) := by decide +kernel
theorem dX10_turnMemory_53 : decode cX10_turnMemory 53 = .ok (.goto 14, 3) := by decide +kernel
theorem dX10_turnMemory_56 : decode cX10_turnMemory 56 = .ok (.iload 5, 2) := by decide +kernel
theorem dX10_turnMemory_58 : decode cX10_turnMemory 58 = .ok (.iconst 2, 1) := by decide +kernel
theorem dX10_turnMemory_59 : decode cX10_turnMemory 59 = .ok (.if_icmp .ne 7, 3) := by decide +kernel
theorem dX10_turnMemory_62 : decode cX10_turnMemory 62 = .ok (.iconst 1, 1) := by decide +kernel
theorem dX10_turnMemory_63 : decode cX10_turnMemory 63 = .ok (.goto 4, 3) := by decide +kernel
theorem dX10_turnMemory_66 : decode cX10_turnMemory 66 = .ok (.iconst 0, 1) := by decide +kernel
theorem dX10_turnMemory_67 : decode cX10_turnMemory 67 = .ok (.istore 7, 2) := by decide +kernel
theorem dX10_turnMemory_69 : decode cX10_turnMemory 69 = .ok (.aload_n 0, 1) := by decide +kernel
theorem dX10_turnMemory_70 : decode cX10_turnMemory 70 = .ok (.iconst 5, 1) := by decide +kernel
theorem dX10_turnMemory_71 : decode cX10_turnMemory 71 = .ok (.lload_n 1, 1) := by decide +kernel
theorem dX10_turnMemory_72 : decode cX10_turnMemory 72 = .ok (.invokestatic 145, 3) := by decide +kernel
theorem dX10_turnMemory_75 : decode cX10_turnMemory 75 = .ok (.invokevirtual 101, 3) := by decide +kernel
theorem dX10_turnMemory_78 : decode cX10_turnMemory 78 = .ok (.aload_n 0, 1) := by decide +kernel
theorem dX10_turnMemory_79 : decode cX10_turnMemory 79 = .ok (.bipush 51, 2) := by decide +kernel
theorem dX10_turnMemory_81 : decode cX10_turnMemory 81 = .ok (.iconst 0, 1) := by decide +kernel
theorem dX10_turnMemory_82 : decode cX10_turnMemory 82 = .ok (.iconst 0, 1) := by decide +kernel
theorem dX10_turnMemory_83 : decode cX10_turnMemory 83 = .ok (.iconst 5, 1) := by decide +kernel
theorem dX10_turnMemory_84 : decode cX10_turnMemory 84 = .ok (.iconst 5, 1) := by decide +kernel
theorem dX10_turnMemory_85 : decode cX10_turnMemory 85 = .ok (.iload 6, 2) := by decide +kernel
theorem dX10_turnMemory_87 : decode cX10_turnMemory 87 = .ok (.invokestatic 94, 3) := by decide +kernel
theorem dX10_turnMemory_90 : decode cX10_turnMemory 90 = .ok (.invokevirtual 115, 3) := by decide +kernel
theorem dX10_turnMemory_93 : decode cX10_turnMemory 93 = .ok (.iload 4, 2) := by decide +kernel
theorem dX10_turnMemory_95 : decode cX10_turnMemory 95 = .ok (.ifCond .eq 35, 3) := by decide +kernel
theorem dX10_turnMemory_98 : decode cX10_turnMemory 98 = .ok (.aload_n 0, 1) := by decide +kernel
theorem dX10_turnMemory_99 : decode cX10_turnMemory 99 = .ok (.iconst 3, 1) := by decide +kernel
theorem dX10_turnMemory_100 : decode cX10_turnMemory 100 = .ok (.iload 5, 2) := by decide +kernel
theorem dX10_turnMemory_102 : decode cX10_turnMemory 102 = .ok (.bipush 8, 2) := by decide +kernel
theorem dX10_turnMemory_104 : decode cX10_turnMemory 104 = .ok (.if_icmp .ne 7, 3) := by decide +kernel
theorem dX10_turnMemory_107 : decode cX10_turnMemory 107 = .ok (.iconst 3, 1) := by decide +kernel
theorem dX10_turnMemory_108 : decode cX10_turnMemory 108 = .ok (.goto 7, 3) := by decide +kernel
theorem dX10_turnMemory_111 : decode cX10_turnMemory 111 = .ok (.iload 7, 2) := by decide +kernel
theorem dX10_turnMemory_113 : decode cX10_turnMemory 113 = .ok (.iconst 4, 1) := by decide +kernel
theorem dX10_turnMemory_114 : decode cX10_turnMemory 114 = .ok (.iadd, 1) := by decide +kernel
theorem dX10_turnMemory_115 : decode cX10_turnMemory 115 = .ok (.lload_n 1, 1) := by decide +kernel
theorem dX10_turnMemory_116 : decode cX10_turnMemory 116 = .ok (.invokestatic 105, 3) := by decide +kernel
theorem dX10_turnMemory_119 : decode cX10_turnMemory 119 = .ok (.invokestatic 94, 3) := by decide +kernel
theorem dX10_turnMemory_122 : decode cX10_turnMemory 122 = .ok (.iconst 5, 1) := by decide +kernel
theorem dX10_turnMemory_123 : decode cX10_turnMemory 123 = .ok (.iconst 0, 1) := by decide +kernel
theorem dX10_turnMemory_124 : decode cX10_turnMemory 124 = .ok (.invokevirtual 84, 3) := by decide +kernel
theorem dX10_turnMemory_127 : decode cX10_turnMemory 127 = .ok (.goto 45, 3) := by decide +kernel
theorem dX10_turnMemory_130 : decode cX10_turnMemory 130 = .ok (.iload_n 3, 1) := by decide +kernel
theorem dX10_turnMemory_131 : decode cX10_turnMemory 131 = .ok (.iconst 1, 1) := by decide +kernel
theorem dX10_turnMemory_132 : decode cX10_turnMemory 132 = .ok (.iand, 1) := by decide +kernel
theorem dX10_turnMemory_133 : decode cX10_turnMemory 133 = .ok (.ifCond .eq 20, 3) := by decide +kernel
theorem dX10_turnMemory_136 : decode cX10_turnMemory 136 = .ok (.aload_n 0, 1) := by decide +kernel
theorem dX10_turnMemory_137 : decode cX10_turnMemory 137 = .ok (.iload 7, 2) := by decide +kernel
theorem dX10_turnMemory_139 : decode cX10_turnMemory 139 = .ok (.iconst 5, 1) := by decide +kernel
theorem dX10_turnMemory_140 : decode cX10_turnMemory 140 = .ok (.lload_n 1, 1) := by decide +kernel
theorem dX10_turnMemory_141 : decode cX10_turnMemory 141 = .ok (.invokestatic 91, 3) := by decide +kernel
theorem dX10_turnMemory_144 : decode cX10_turnMemory 144 = .ok (.invokestatic 94, 3) := by decide +kernel
theorem dX10_turnMemory_147 : decode cX10_turnMemory 147 = .ok (.invokevirtual 154, 3) := by decide +kernel
theorem dX10_turnMemory_150 : decode cX10_turnMemory 150 = .ok (.goto 22, 3) := by decide +kernel
theorem dX10_turnMemory_153 : decode cX10_turnMemory 153 = .ok (.aload_n 0, 1) := by decide +kernel
theorem dX10_turnMemory_154 : decode cX10_turnMemory 154 = .ok (.bipush 6, 2) := by decide +kernel
theorem dX10_turnMemory_156 : decode cX10_turnMemory 156 = .ok (.lload_n 1, 1) := by decide +kernel
theorem dX10_turnMemory_157 : decode cX10_turnMemory 157 = .ok (.invokestatic 98, 3) := by decide +kernel
theorem dX10_turnMemory_160 : decode cX10_turnMemory 160 = .ok (.invokevirtual 101, 3) := by decide +kernel
theorem dX10_turnMemory_163 : decode cX10_turnMemory 163 = .ok (.aload_n 0, 1) := by decide +kernel
theorem dX10_turnMemory_164 : decode cX10_turnMemory 164 = .ok (.iload 7, 2) := by decide +kernel
theorem dX10_turnMemory_166 : decode cX10_turnMemory 166 = .ok (.iconst 5, 1) := by decide +kernel
theorem dX10_turnMemory_167 : decode cX10_turnMemory 167 = .ok (.bipush 6, 2) := by decide +kernel
theorem dX10_turnMemory_169 : decode cX10_turnMemory 169 = .ok (.invokevirtual 154, 3) := by decide +kernel
theorem dX10_turnMemory_172 : decode cX10_turnMemory 172 = .ok (.return_, 1) := by decide +kernel
theorem dX10_turnRead_0 : decode cX10_turnRead 0 = .ok (.lload_n 1, 1) := by decide +kernel
theorem dX10_turnRead_1 : decode cX10_turnRead 1 = .ok (.invokestatic 49, 3) := by decide +kernel
theorem dX10_turnRead_4 : decode cX10_turnRead 4 = .ok (.istore_n 3, 1) := by decide +kernel
theorem dX10_turnRead_5 : decode cX10_turnRead 5 = .ok (.iload_n 3, 1) := by decide +kernel
theorem dX10_turnRead_6 : decode cX10_turnRead 6 = .ok (.invokestatic 151, 3) := by decide +kernel
theorem dX10_turnRead_9 : decode cX10_turnRead 9 = .ok (.istore 4, 2) := by decide +kernel
theorem dX10_turnRead_11 : decode cX10_turnRead 11 = .ok (.aload_n 0, 1) := by decide +kernel
theorem dX10_turnRead_12 : decode cX10_turnRead 12 = .ok (.iconst 5, 1) := by decide +kernel
theorem dX10_turnRead_13 : decode cX10_turnRead 13 = .ok (.lload_n 1, 1) := by decide +kernel
theorem dX10_turnRead_14 : decode cX10_turnRead 14 = .ok (.invokestatic 98, 3) := by decide +kernel
theorem dX10_turnRead_17 : decode cX10_turnRead 17 = .ok (.invokevirtual 101, 3) := by decide +kernel
theorem dX10_turnRead_20 : decode cX10_turnRead 20 = .ok (.iload_n 3, 1) := by decide +kernel
theorem dX10_turnRead_21 : decode cX10_turnRead 21 = .ok (.bipush 64, 2) := by decide +kernel
theorem dX10_turnRead_23 : decode cX10_turnRead 23 = .ok (.if_icmp .lt 20, 3) := by decide +kernel
theorem dX10_turnRead_26 : decode cX10_turnRead 26 = .ok (.aload_n 0, 1) := by decide +kernel
theorem dX10_turnRead_27 : decode cX10_turnRead 27 = .ok (.bipush 59, 2) := by decide +kernel
theorem dX10_turnRead_29 : decode cX10_turnRead 29 = .ok (.iconst 0, 1) := by decide +kernel
theorem dX10_turnRead_30 : decode cX10_turnRead 30 = .ok (.iconst 0, 1) := by decide +kernel
theorem dX10_turnRead_31 : decode cX10_turnRead 31 = .ok (.iconst 5, 1) := by decide +kernel
theorem dX10_turnRead_32 : decode cX10_turnRead 32 = .ok (.iconst 5, 1) := by decide +kernel
theorem dX10_turnRead_33 : decode cX10_turnRead 33 = .ok (.lload_n 1, 1) := by decide +kernel
theorem dX10_turnRead_34 : decode cX10_turnRead 34 = .ok (.invokestatic 91, 3) := by decide +kernel
theorem dX10_turnRead_37 : decode cX10_turnRead 37 = .ok (.invokestatic 94, 3) := by decide +kernel
theorem dX10_turnRead_40 : decode cX10_turnRead 40 = .ok (.invokevirtual 115, 3) := by decide +kernel
theorem dX10_turnRead_43 : decode cX10_turnRead 43 = .ok (.aload_n 0, 1) := by decide +kernel
theorem dX10_turnRead_44 : decode cX10_turnRead 44 = .ok (.iconst 5, 1) := by decide +kernel
theorem dX10_turnRead_45 : decode cX10_turnRead 45 = .ok (.invokevirtual 132, 3) := by decide +kernel
theorem dX10_turnRead_48 : decode cX10_turnRead 48 = .ok (.aload_n 0, 1) := by decide +kernel
theorem dX10_turnRead_49 : decode cX10_turnRead 49 = .ok (.bipush 6, 2) := by decide +kernel
theorem dX10_turnRead_51 : decode cX10_turnRead 51 = .ok (.iconst 5, 1) := by decide +kernel
theorem dX10_turnRead_52 : decode cX10_turnRead 52 = .ok (.iload 4, 2) := by decide +kernel
theorem dX10_turnRead_54 : decode cX10_turnRead 54 = .ok (.invokevirtual 111, 3) := by decide +kernel
theorem dX10_turnRead_57 : decode cX10_turnRead 57 = .ok (.aload_n 0, 1) := by decide +kernel
theorem dX10_turnRead_58 : decode cX10_turnRead 58 = .ok (.bipush 7, 2) := by decide +kernel
theorem dX10_turnRead_60 : decode cX10_turnRead 60 = .ok (.bipush 9, 2) := by decide +kernel
theorem dX10_turnRead_62 : decode cX10_turnRead 62 = .ok (.bipush 6, 2) := by decide +kernel
theorem dX10_turnRead_64 : decode cX10_turnRead 64 = .ok (.bipush 12, 2) := by decide +kernel
theorem dX10_turnRead_66 : decode cX10_turnRead 66 = .ok (.invokevirtual 135, 3) := by decide +kernel
theorem dX10_turnRead_69 : decode cX10_turnRead 69 = .ok (.aload_n 0, 1) := by decide +kernel
theorem dX10_turnRead_70 : decode cX10_turnRead 70 = .ok (.bipush 10, 2) := by decide +kernel
theorem dX10_turnRead_72 : decode cX10_turnRead 72 = .ok (.iconst 0, 1) := by decide +kernel
theorem dX10_turnRead_73 : decode cX10_turnRead 73 = .ok (.iconst 0, 1) := by decide +kernel
theorem dX10_turnRead_74 : decode cX10_turnRead 74 = .ok (.invokevirtual 111, 3) := by decide +kernel
theorem dX10_turnRead_77 : decode cX10_turnRead 77 = .ok (.aload_n 0, 1) := by decide +kernel
theorem dX10_turnRead_78 : decode cX10_turnRead 78 = .ok (.bipush 115, 2) := by decide +kernel
theorem dX10_turnRead_80 : decode cX10_turnRead 80 = .ok (.invokevirtual 61, 3) := by decide +kernel
theorem dX10_turnRead_83 : decode cX10_turnRead 83 = .ok (.aload_n 0, 1) := by decide +kernel
theorem dX10_turnRead_84 : decode cX10_turnRead 84 = .ok (.bipush 51, 2) := by decide +kernel
theorem dX10_turnRead_86 : decode cX10_turnRead 86 = .ok (.iconst 0, 1) := by decide +kernel
theorem dX10_turnRead_87 : decode cX10_turnRead 87 = .ok (.iconst 0, 1) := by decide +kernel
theorem dX10_turnRead_88 : decode cX10_turnRead 88 = .ok (.iconst 5, 1) := by decide +kernel
theorem dX10_turnRead_89 : decode cX10_turnRead 89 = .ok (.iconst 5, 1) := by decide +kernel
theorem dX10_turnRead_90 : decode cX10_turnRead 90 = .ok (.bipush 8, 2) := by decide +kernel
theorem dX10_turnRead_92 : decode cX10_turnRead 92 = .ok (.invokevirtual 115, 3) := by decide +kernel
theorem dX10_turnRead_95 : decode cX10_turnRead 95 = .ok (.aload_n 0, 1) := by decide +kernel
theorem dX10_turnRead_96 : decode cX10_turnRead 96 = .ok (.iconst 3, 1) := by decide +kernel
theorem dX10_turnRead_97 : decode cX10_turnRead 97 = .ok (.iconst 4, 1) := by decide +kernel
theorem dX10_turnRead_98 : decode cX10_turnRead 98 = .ok (.bipush 10, 2) := by decide +kernel
theorem dX10_turnRead_100 : decode cX10_turnRead 100 = .ok (.iconst 5, 1) := by decide +kernel
theorem dX10_turnRead_101 : decode cX10_turnRead 101 = .ok (.iconst 0, 1) := by decide +kernel
theorem dX10_turnRead_102 : decode cX10_turnRead 102 = .ok (.invokevirtual 84, 3) := by decide +kernel
theorem dX10_turnRead_105 : decode cX10_turnRead 105 = .ok (.iconst 1, 1) := by decide +kernel
theorem dX10_turnRead_106 : decode cX10_turnRead 106 = .ok (.istore 5, 2) := by decide +kernel
theorem dX10_turnRead_108 : decode cX10_turnRead 108 = .ok (.iload 5, 2) := by decide +kernel
theorem dX10_turnRead_110 : decode cX10_turnRead 110 = .ok (.iload 4, 2) := by decide +kernel
theorem dX10_turnRead_112 : decode cX10_turnRead 112 = .ok (.if_icmp .ge 48, 3) := by decide +kernel
theorem dX10_turnRead_115 : decode cX10_turnRead 115 = .ok (.aload_n 0, 1) := by decide +kernel
theorem dX10_turnRead_116 : decode cX10_turnRead 116 = .ok (.bipush 19, 2) := by decide +kernel
theorem dX10_turnRead_118 : decode cX10_turnRead 118 = .ok (.iconst 1, 1) := by decide +kernel
theorem dX10_turnRead_119 : decode cX10_turnRead 119 = .ok (.bipush 10, 2) := by decide +kernel
theorem dX10_turnRead_121 : decode cX10_turnRead 121 = .ok (.bipush 10, 2) := by decide +kernel
theorem dX10_turnRead_123 : decode cX10_turnRead 123 = .ok (.bipush 8, 2) := by decide +kernel
theorem dX10_turnRead_125 : decode cX10_turnRead 125 = .ok (.invokevirtual 84, 3) := by decide +kernel
theorem dX10_turnRead_128 : decode cX10_turnRead 128 = .ok (.aload_n 0, 1) := by decide +kernel
theorem dX10_turnRead_129 : decode cX10_turnRead 129 = .ok (.iconst 3, 1) := by decide +kernel
theorem dX10_turnRead_130 : decode cX10_turnRead 130 = .ok (.iconst 4, 1) := by decide +kernel
theorem dX10_turnRead_131 : decode cX10_turnRead 131 = .ok (.bipush 6, 2) := by decide +kernel
theorem dX10_turnRead_133 : decode cX10_turnRead 133 = .ok (.iconst 5, 1) := by decide +kernel
theorem dX10_turnRead_134 : decode cX10_turnRead 134 = .ok (.iload 5, 2) := by decide +kernel
theorem dX10_turnRead_136 : decode cX10_turnRead 136 = .ok (.invokevirtual 84, 3) := by decide +kernel
theorem dX10_turnRead_139 : decode cX10_turnRead 139 = .ok (.aload_n 0, 1) := by decide +kernel
theorem dX10_turnRead_140 : decode cX10_turnRead 140 = .ok (.bipush 51, 2) := by decide +kernel
theorem dX10_turnRead_142 : decode cX10_turnRead 142 = .ok (.iconst 0, 1) := by decide +kernel
theorem dX10_turnRead_143 : decode cX10_turnRead 143 = .ok (.bipush 6, 2) := by decide +kernel
theorem dX10_turnRead_145 : decode cX10_turnRead 145 = .ok (.bipush 10, 2) := by decide +kernel
theorem dX10_turnRead_147 : decode cX10_turnRead 147 = .ok (.bipush 10, 2) := by decide +kernel
theorem dX10_turnRead_149 : decode cX10_turnRead 149 = .ok (.bipush 6, 2) := by decide +kernel
theorem dX10_turnRead_151 : decode cX10_turnRead 151 = .ok (.invokevirtual 115, 3) := by decide +kernel
theorem dX10_turnRead_154 : decode cX10_turnRead 154 = .ok (.iinc 5 1, 3) := by decide +kernel
theorem dX10_turnRead_157 : decode cX10_turnRead 157 = .ok (.goto (-49), 3) := by decide +kernel
theorem dX10_turnRead_160 : decode cX10_turnRead 160 = .ok (.return_, 1) := by decide +kernel
theorem dX11_init_0 : decode cX11_init 0 = .ok (.aload_n 0, 1) := by decide +kernel
theorem dX11_init_1 : decode cX11_init 1 = .ok (.invokespecial 1, 3) := by decide +kernel
theorem dX11_init_4 : decode cX11_init 4 = .ok (.aload_n 0, 1) := by decide +kernel
theorem dX11_init_5 : decode cX11_init 5 = .ok (.new 7, 3) := by decide +kernel
theorem dX11_init_8 : decode cX11_init 8 = .ok (.dup, 1) := by decide +kernel
theorem dX11_init_9 : decode cX11_init 9 = .ok (.invokespecial 9, 3) := by decide +kernel
theorem dX11_init_12 : decode cX11_init 12 = .ok (.putfield 10, 3) := by decide +kernel
theorem dX11_init_15 : decode cX11_init 15 = .ok (.aload_n 0, 1) := by decide +kernel
theorem dX11_init_16 : decode cX11_init 16 = .ok (.new 16, 3) := by decide +kernel
theorem dX11_init_19 : decode cX11_init 19 = .ok (.dup, 1) := by decide +kernel
theorem dX11_init_20 : decode cX11_init 20 = .ok (.invokespecial 18, 3) := by decide +kernel
theorem dX11_init_23 : decode cX11_init 23 = .ok (.putfield 19, 3) := by decide +kernel
theorem dX11_init_26 : decode cX11_init 26 = .ok (.aload_n 0, 1) := by decide +kernel
theorem dX11_init_27 : decode cX11_init 27 = .ok (.new 23, 3) := by decide +kernel
theorem dX11_init_30 : decode cX11_init 30 = .ok (.dup, 1) := by decide +kernel
theorem dX11_init_31 : decode cX11_init 31 = .ok (.aload_n 0, 1) := by decide +kernel
theorem dX11_init_32 : decode cX11_init 32 = .ok (.getfield 19, 3) := by decide +kernel
theorem dX11_init_35 : decode cX11_init 35 = .ok (.invokespecial 25, 3) := by decide +kernel
theorem dX11_init_38 : decode cX11_init 38 = .ok (.putfield 28, 3) := by decide +kernel
theorem dX11_init_41 : decode cX11_init 41 = .ok (.aload_n 0, 1) := by decide +kernel
theorem dX11_init_42 : decode cX11_init 42 = .ok (.new 32, 3) := by decide +kernel
theorem dX11_init_45 : decode cX11_init 45 = .ok (.dup, 1) := by decide +kernel
theorem dX11_init_46 : decode cX11_init 46 = .ok (.invokespecial 34, 3) := by decide +kernel
theorem dX11_init_49 : decode cX11_init 49 = .ok (.putfield 35, 3) := by decide +kernel
theorem dX11_init_52 : decode cX11_init 52 = .ok (.aload_n 0, 1) := by decide +kernel
theorem dX11_init_53 : decode cX11_init 53 = .ok (.new 39, 3) := by decide +kernel
theorem dX11_init_56 : decode cX11_init 56 = .ok (.dup, 1) := by decide +kernel
theorem dX11_init_57 : decode cX11_init 57 = .ok (.invokespecial 41, 3) := by decide +kernel
theorem dX11_init_60 : decode cX11_init 60 = .ok (.putfield 42, 3) := by decide +kernel
theorem dX11_init_63 : decode cX11_init 63 = .ok (.aload_n 0, 1) := by decide +kernel
theorem dX11_init_64 : decode cX11_init 64 = .ok (.new 39, 3) := by decide +kernel
theorem dX11_init_67 : decode cX11_init 67 = .ok (.dup, 1) := by decide +kernel
theorem dX11_init_68 : decode cX11_init 68 = .ok (.invokespecial 41, 3) := by decide +kernel
theorem dX11_init_71 : decode cX11_init 71 = .ok (.putfield 46, 3) := by decide +kernel
theorem dX11_init_74 : decode cX11_init 74 = .ok (.aload_n 0, 1) := by decide +kernel
theorem dX11_init_75 : decode cX11_init 75 = .ok (.new 49, 3) := by decide +kernel
theorem dX11_init_78 : decode cX11_init 78 = .ok (.dup, 1) := by decide +kernel
theorem dX11_init_79 : decode cX11_init 79 = .ok (.invokespecial 51, 3) := by decide +kernel
theorem dX11_init_82 : decode cX11_init 82 = .ok (.putfield 52, 3) := by decide +kernel
theorem dX11_init_85 : decode cX11_init 85 = .ok (.aload_n 0, 1) := by decide +kernel
theorem dX11_init_86 : decode cX11_init 86 = .ok (.new 49, 3) := by decide +kernel
theorem dX11_init_89 : decode cX11_init 89 = .ok (.dup, 1) := by decide +kernel
theorem dX11_init_90 : decode cX11_init 90 = .ok (.invokespecial 51, 3) := by decide +kernel
theorem dX11_init_93 : decode cX11_init 93 = .ok (.putfield 56, 3) := by decide +kernel
theorem dX11_init_96 : decode cX11_init 96 = .ok (.aload_n 0, 1) := by decide +kernel
theorem dX11_init_97 : decode cX11_init 97 = .ok (.new 59, 3) := by decide +kernel
theorem dX11_init_100 : decode cX11_init 100 = .ok (.dup, 1) := by decide +kernel
theorem dX11_init_101 : decode cX11_init 101 = .ok (.aload_n 0, 1) := by decide +kernel
theorem dX11_init_102 : decode cX11_init 102 = .ok (.getfield 10, 3) := by decide +kernel
theorem dX11_init_105 : decode cX11_init 105 = .ok (.aload_n 0, 1) := by decide +kernel
theorem dX11_init_106 : decode cX11_init 106 = .ok (.getfield 46, 3) := by decide +kernel
theorem dX11_init_109 : decode cX11_init 109 = .ok (.invokespecial 61, 3) := by decide +kernel
theorem dX11_init_112 : decode cX11_init 112 = .ok (.putfield 64, 3) := by decide +kernel
theorem dX11_init_115 : decode cX11_init 115 = .ok (.aload_n 0, 1) := by decide +kernel
theorem dX11_init_116 : decode cX11_init 116 = .ok (.new 68, 3) := by decide +kernel
theorem dX11_init_119 : decode cX11_init 119 = .ok (.dup, 1) := by decide +kernel
theorem dX11_init_120 : decode cX11_init 120 = .ok (.aload_n 0, 1) := by decide +kernel
theorem dX11_init_121 : decode cX11_init 121 = .ok (.getfield 46, 3) := by decide +kernel
theorem dX11_init_124 : decode cX11_init 124 = .ok (.aload_n 0, 1) := by decide +kernel
theorem dX11_init_125 : decode cX11_init 125 = .ok (.getfield 56, 3) := by decide +kernel
theorem dX11_init_128 : decode cX11_init 128 = .ok (.invokespecial 70, 3) := by decide +kernel
theorem dX11_init_131 : decode cX11_init 131 = .ok (.putfield 73, 3) := by decide +kernel
theorem dX11_init_134 : decode cX11_init 134 = .ok (.aload_n 0, 1) := by decide +kernel
theorem dX11_init_135 : decode cX11_init 135 = .ok (.new 77, 3) := by decide +kernel
theorem dX11_init_138 : decode cX11_init 138 = .ok (.dup, 1) := by decide +kernel
theorem dX11_init_139 : decode cX11_init 139 = .ok (.aload_n 0, 1) := by decide +kernel
theorem dX11_init_140 : decode cX11_init 140 = .ok (.getfield 52, 3) := by decide +kernel
theorem dX11_init_143 : decode cX11_init 143 = .ok (.aload_n 0, 1) := by decide +kernel
theorem dX11_init_144 : decode cX11_init 144 = .ok (.getfield 35, 3) := by decide +kernel
theorem dX11_init_147 : decode cX11_init 147 = .ok (.invokespecial 79, 3) := by decide +kernel
theorem dX11_init_150 : decode cX11_init 150 = .ok (.putfield 82, 3) := by decide +kernel
theorem dX11_init_153 : decode cX11_init 153 = .ok (.aload_n 0, 1) := by decide +kernel
theorem dX11_init_154 : decode cX11_init 154 = .ok (.new 86, 3) := by decide +kernel
theorem dX11_init_157 : decode cX11_init 157 = .ok (.dup, 1) := by decide +kernel
theorem dX11_init_158 : decode cX11_init 158 = .ok (.aload_n 0, 1) := by decide +kernel
theorem dX11_init_159 : decode cX11_init 159 = .ok (.getfield 52, 3) := by decide +kernel
theorem dX11_init_162 : decode cX11_init 162 = .ok (.invokespecial 88, 3) := by decide +kernel
theorem dX11_init_165 : decode cX11_init 165 = .ok (.putfield 91, 3) := by decide +kernel
theorem dX11_init_168 : decode cX11_init 168 = .ok (.aload_n 0, 1) := by decide +kernel
theorem dX11_init_169 : decode cX11_init 169 = .ok (.new 86, 3) := by decide +kernel
theorem dX11_init_172 : decode cX11_init 172 = .ok (.dup, 1) := by decide +kernel
theorem dX11_init_173 : decode cX11_init 173 = .ok (.aload_n 0, 1) := by decide +kernel
theorem dX11_init_174 : decode cX11_init 174 = .ok (.getfield 52, 3) := by decide +kernel
theorem dX11_init_177 : decode cX11_init 177 = .ok (.invokespecial 88, 3) := by decide +kernel
theorem dX11_init_180 : decode cX11_init 180 = .ok (.putfield 95, 3) := by decide +kernel
theorem dX11_init_183 : decode cX11_init 183 = .ok (.return_, 1) := by decide +kernel
theorem dX11_feed_0 : decode cX11_feed 0 = .ok (.aload_n 0, 1) := by decide +kernel
theorem dX11_feed_1 : decode cX11_feed 1 = .ok (.getfield 10, 3) := by decide +kernel
theorem dX11_feed_4 : decode cX11_feed 4 = .ok (.bipush 20, 2) := by decide +kernel
theorem dX11_feed_6 : decode cX11_feed 6 = .ok (.invokevirtual 98, 3) := by decide +kernel
theorem dX11_feed_9 : decode cX11_feed 9 = .ok (.ifCond .ne 5, 3) := by decide +kernel
theorem dX11_feed_12 : decode cX11_feed 12 = .ok (.iconst (-1), 1) := by decide +kernel
theorem dX11_feed_13 : decode cX11_feed 13 = .ok (.ireturn, 1) := by decide +kernel
theorem dX11_feed_14 : decode cX11_feed 14 = .ok (.aload_n 0, 1) := by decide +kernel
theorem dX11_feed_15 : decode cX11_feed 15 = .ok (.getfield 10, 3) := by decide +kernel
theorem dX11_feed_18 : decode cX11_feed 18 = .ok (.iload_n 1, 1) := by decide +kernel
theorem dX11_feed_19 : decode cX11_feed 19 = .ok (.invokevirtual 102, 3) := by decide +kernel
theorem dX11_feed_22 : decode cX11_feed 22 = .ok (.aload_n 0, 1) := by decide +kernel
theorem dX11_feed_23 : decode cX11_feed 23 = .ok (.getfield 10, 3) := by decide +kernel
theorem dX11_feed_26 : decode cX11_feed 26 = .ok (.iload_n 2, 1) := by decide +kernel
theorem dX11_feed_27 : decode cX11_feed 27 = .ok (.invokevirtual 102, 3) := by decide +kernel
theorem dX11_feed_30 : decode cX11_feed 30 = .ok (.aload_n 0, 1) := by decide +kernel
theorem dX11_feed_31 : decode cX11_feed 31 = .ok (.getfield 10, 3) := by decide +kernel
theorem dX11_feed_34 : decode cX11_feed 34 = .ok (.iload_n 3, 1) := by decide +kernel
theorem dX11_feed_35 : decode cX11_feed 35 = .ok (.invokevirtual 102, 3) := by decide +kernel
theorem dX11_feed_38 : decode cX11_feed 38 = .ok (.aload_n 0, 1) := by decide +kernel
theorem dX11_feed_39 : decode cX11_feed 39 = .ok (.getfield 10, 3) := by decide +kernel
theorem dX11_feed_42 : decode cX11_feed 42 = .ok (.iload 4, 2) := by decide +kernel
theorem dX11_feed_44 : decode cX11_feed 44 = .ok (.invokevirtual 102, 3) := by decide +kernel
theorem dX11_feed_47 : decode cX11_feed 47 = .ok (.aload_n 0, 1) := by decide +kernel
theorem dX11_feed_48 : decode cX11_feed 48 = .ok (.getfield 10, 3) := by decide +kernel
theorem dX11_feed_51 : decode cX11_feed 51 = .ok (.iload 5, 2) := by decide +kernel
theorem dX11_feed_53 : decode cX11_feed 53 = .ok (.invokevirtual 102, 3) := by decide +kernel
theorem dX11_feed_56 : decode cX11_feed 56 = .ok (.aload_n 0, 1) := by decide +kernel
theorem dX11_feed_57 : decode cX11_feed 57 = .ok (.getfield 10, 3) := by decide +kernel
theorem dX11_feed_60 : decode cX11_feed 60 = .ok (.getfield 106, 3) := by decide +kernel
theorem dX11_feed_63 : decode cX11_feed 63 = .ok (.ireturn, 1) := by decide +kernel
theorem dX11_end_0 : decode cX11_end 0 = .ok (.iload_n 1, 1) := by decide +kernel
theorem dX11_end_1 : decode cX11_end 1 = .ok (.ifCond .lt 14, 3) := by decide +kernel
theorem dX11_end_4 : decode cX11_end 4 = .ok (.iload_n 1, 1) := by decide +kernel
theorem dX11_end_5 : decode cX11_end 5 = .ok (.aload_n 0, 1) := by decide +kernel
theorem dX11_end_6 : decode cX11_end 6 = .ok (.getfield 10, 3) := by decide +kernel
theorem dX11_end_9 : decode cX11_end 9 = .ok (.getfield 106, 3) := by decide +kernel
theorem dX11_end_12 : decode cX11_end 12 = .ok (.if_icmp .le 5, 3) := by decide +kernel
theorem dX11_end_15 : decode cX11_end 15 = .ok (.iconst (-1), 1) := by decide +kernel
theorem dX11_end_16 : decode cX11_end 16 = .ok (.ireturn, 1) := by decide +kernel
theorem dX11_end_17 : decode cX11_end 17 = .ok (.aload_n 0, 1) := by decide +kernel
theorem dX11_end_18 : decode cX11_end 18 = .ok (.getfield 10, 3) := by decide +kernel
theorem dX11_end_21 : decode cX11_end 21 = .ok (.iload_n 1, 1) := by decide +kernel
theorem dX11_end_22 : decode cX11_end 22 = .ok (.putfield 106, 3) := by decide +kernel
theorem dX11_end_25 : decode cX11_end 25 = .ok (.iload_n 1, 1) := by decide +kernel
theorem dX11_end_26 : decode cX11_end 26 = .ok (.ireturn, 1) := by decide +kernel
theorem dX11_packet_0 : decode cX11_packet 0 = .ok (.aload_n 0, 1) := by decide +kernel
theorem dX11_packet_1 : decode cX11_packet 1 = .ok (.getfield 19, 3) := by decide +kernel
theorem dX11_packet_4 : decode cX11_packet 4 = .ok (.aload_n 0, 1) := by decide +kernel
theorem dX11_packet_5 : decode cX11_packet 5 = .ok (.getfield 10, 3) := by decide +kernel
theorem dX11_packet_8 : decode cX11_packet 8 = .ok (.invokevirtual 110, 3) := by decide +kernel
theorem dX11_packet_11 : decode cX11_packet 11 = .ok (.istore_n 1, 1) := by decide +kernel
theorem dX11_packet_12 : decode cX11_packet 12 = .ok (.aload_n 0, 1) := by decide +kernel
theorem dX11_packet_13 : decode cX11_packet 13 = .ok (.getfield 10, 3) := by decide +kernel
theorem dX11_packet_16 : decode cX11_packet 16 = .ok (.iconst 0, 1) := by decide +kernel
theorem dX11_packet_17 : decode cX11_packet 17 = .ok (.putfield 106, 3) := by decide +kernel
theorem dX11_packet_20 : decode cX11_packet 20 = .ok (.iload_n 1, 1) := by decide +kernel
theorem dX11_packet_21 : decode cX11_packet 21 = .ok (.ireturn, 1) := by decide +kernel
theorem dX11_bytes_0 : decode cX11_bytes 0 = .ok (.aload_n 0, 1) := by decide +kernel
theorem dX11_bytes_1 : decode cX11_bytes 1 = .ok (.getfield 19, 3) := by decide +kernel
theorem dX11_bytes_4 : decode cX11_bytes 4 = .ok (.iload_n 1, 1) := by decide +kernel
theorem dX11_bytes_5 : decode cX11_bytes 5 = .ok (.iload_n 2, 1) := by decide +kernel
theorem dX11_bytes_6 : decode cX11_bytes 6 = .ok (.invokevirtual 114, 3) := by decide +kernel
theorem dX11_bytes_9 : decode cX11_bytes 9 = .ok (.lreturn, 1) := by decide +kernel
theorem dX11_compile_0 : decode cX11_compile 0 = .ok (.aload_n 0, 1) := by decide +kernel
theorem dX11_compile_1 : decode cX11_compile 1 = .ok (.getfield 64, 3) := by decide +kernel
theorem dX11_compile_4 : decode cX11_compile 4 = .ok (.aload_n 0, 1) := by decide +kernel
theorem dX11_compile_5 : decode cX11_compile 5 = .ok (.getfield 46, 3) := by decide +kernel
theorem dX11_compile_8 : decode cX11_compile 8 = .ok (.invokevirtual 118, 3) := by decide +kernel
theorem dX11_compile_11 : decode cX11_compile 11 = .ok (.aload_n 0, 1) := by decide +kernel
theorem dX11_compile_12 : decode cX11_compile 12 = .ok (.getfield 64, 3) := by decide +kernel
theorem dX11_compile_15 : decode cX11_compile 15 = .ok (.iconst 0, 1) := by decide +kernel
theorem dX11_compile_16 : decode cX11_compile 16 = .ok (.iconst 1, 1) := by decide +kernel
theorem dX11_compile_17 : decode cX11_compile 17 = .ok (.iconst 0, 1) := by decide +kernel
theorem dX11_compile_18 : decode cX11_compile 18 = .ok (.invokevirtual 122, 3) := by decide +kernel
theorem dX11_compile_21 : decode cX11_compile 21 = .ok (.aload_n 0, 1) := by decide +kernel
theorem dX11_compile_22 : decode cX11_compile 22 = .ok (.getfield 64, 3) := by decide +kernel
theorem dX11_compile_25 : decode cX11_compile 25 = .ok (.invokevirtual 126, 3) := by decide +kernel
theorem dX11_compile_28 : decode cX11_compile 28 = .ok (.istore_n 1, 1) := by decide +kernel
theorem dX11_compile_29 : decode cX11_compile 29 = .ok (.aload_n 0, 1) := by decide +kernel
theorem dX11_compile_30 : decode cX11_compile 30 = .ok (.getfield 10, 3) := by decide +kernel
theorem dX11_compile_33 : decode cX11_compile 33 = .ok (.iconst 0, 1) := by decide +kernel
theorem dX11_compile_34 : decode cX11_compile 34 = .ok (.putfield 106, 3) := by decide +kernel
theorem dX11_compile_37 : decode cX11_compile 37 = .ok (.iload_n 1, 1) := by decide +kernel
theorem dX11_compile_38 : decode cX11_compile 38 = .ok (.ifCond .lt 7, 3) := by decide +kernel
theorem dX11_compile_41 : decode cX11_compile 41 = .ok (.iconst (-1), 1) := by decide +kernel
theorem dX11_compile_42 : decode cX11_compile 42 = .ok (.iload_n 1, 1) := by decide +kernel
theorem dX11_compile_43 : decode cX11_compile 43 = .ok (.isub, 1) := by decide +kernel
theorem dX11_compile_44 : decode cX11_compile 44 = .ok (.ireturn, 1) := by decide +kernel
theorem dX11_compile_45 : decode cX11_compile 45 = .ok (.aload_n 0, 1) := by decide +kernel
theorem dX11_compile_46 : decode cX11_compile 46 = .ok (.getfield 46, 3) := by decide +kernel
theorem dX11_compile_49 : decode cX11_compile 49 = .ok (.invokevirtual 130, 3) := by decide +kernel
theorem dX11_compile_52 : decode cX11_compile 52 = .ok (.aload_n 0, 1) := by decide +kernel
theorem dX11_compile_53 : decode cX11_compile 53 = .ok (.getfield 73, 3) := by decide +kernel
theorem dX11_compile_56 : decode cX11_compile 56 = .ok (.aload_n 0, 1) := by decide +kernel
theorem dX11_compile_57 : decode cX11_compile 57 = .ok (.getfield 46, 3) := by decide +kernel
theorem dX11_compile_60 : decode cX11_compile 60 = .ok (.aload_n 0, 1) := by decide +kernel
theorem dX11_compile_61 : decode cX11_compile 61 = .ok (.getfield 56, 3) := by decide +kernel
theorem dX11_compile_64 : decode cX11_compile 64 = .ok (.invokevirtual 133, 3) := by decide +kernel
theorem dX11_compile_67 : decode cX11_compile 67 = .ok (.istore_n 2, 1) := by decide +kernel
theorem dX11_compile_68 : decode cX11_compile 68 = .ok (.iload_n 2, 1) := by decide +kernel
theorem dX11_compile_69 : decode cX11_compile 69 = .ok (.ifCond .ge 7, 3) := by decide +kernel
theorem dX11_compile_72 : decode cX11_compile 72 = .ok (.sipush (-3000), 3) := by decide +kernel
theorem dX11_compile_75 : decode cX11_compile 75 = .ok (.ireturn, 1) := by decide +kernel
theorem dX11_compile_76 : decode cX11_compile 76 = .ok (.aload_n 0, 1) := by decide +kernel
theorem dX11_compile_77 : decode cX11_compile 77 = .ok (.invokevirtual 137, 3) := by decide +kernel
theorem dX11_compile_80 : decode cX11_compile 80 = .ok (.aload_n 0, 1) := by decide +kernel
theorem dX11_compile_81 : decode cX11_compile 81 = .ok (.iconst 1, 1) := by decide +kernel
theorem dX11_compile_82 : decode cX11_compile 82 = .ok (.putfield 140, 3) := by decide +kernel
theorem dX11_compile_85 : decode cX11_compile 85 = .ok (.iload_n 2, 1) := by decide +kernel
theorem dX11_compile_86 : decode cX11_compile 86 = .ok (.ireturn, 1) := by decide +kernel
theorem dX11_swapSpares_0 : decode cX11_swapSpares 0 = .ok (.aload_n 0, 1) := by decide +kernel
theorem dX11_swapSpares_1 : decode cX11_swapSpares 1 = .ok (.getfield 42, 3) := by decide +kernel
theorem dX11_swapSpares_4 : decode cX11_swapSpares 4 = .ok (.astore_n 1, 1) := by decide +kernel
theorem dX11_swapSpares_5 : decode cX11_swapSpares 5 = .ok (.aload_n 0, 1) := by decide +kernel
theorem dX11_swapSpares_6 : decode cX11_swapSpares 6 = .ok (.aload_n 0, 1) := by decide +kernel
theorem dX11_swapSpares_7 : decode cX11_swapSpares 7 = .ok (.getfield 46, 3) := by decide +kernel
theorem dX11_swapSpares_10 : decode cX11_swapSpares 10 = .ok (.putfield 42, 3) := by decide +kernel
theorem dX11_swapSpares_13 : decode cX11_swapSpares 13 = .ok (.aload_n 0, 1) := by decide +kernel
theorem dX11_swapSpares_14 : decode cX11_swapSpares 14 = .ok (.aload_n 1, 1) := by decide +kernel
theorem dX11_swapSpares_15 : decode cX11_swapSpares 15 = .ok (.putfield 46, 3) := by decide +kernel
theorem dX11_swapSpares_18 : decode cX11_swapSpares 18 = .ok (.aload_n 0, 1) := by decide +kernel
theorem dX11_swapSpares_19 : decode cX11_swapSpares 19 = .ok (.getfield 52, 3) := by decide +kernel
theorem dX11_swapSpares_22 : decode cX11_swapSpares 22 = .ok (.astore_n 2, 1) := by decide +kernel
theorem dX11_swapSpares_23 : decode cX11_swapSpares 23 = .ok (.aload_n 0, 1) := by decide +kernel
theorem dX11_swapSpares_24 : decode cX11_swapSpares 24 = .ok (.aload_n 0, 1) := by decide +kernel
theorem dX11_swapSpares_25 : decode cX11_swapSpares 25 = .ok (.getfield 56, 3) := by decide +kernel
theorem dX11_swapSpares_28 : decode cX11_swapSpares 28 = .ok (.putfield 52, 3) := by decide +kernel
theorem dX11_swapSpares_31 : decode cX11_swapSpares 31 = .ok (.aload_n 0, 1) := by decide +kernel
theorem dX11_swapSpares_32 : decode cX11_swapSpares 32 = .ok (.aload_n 2, 1) := by decide +kernel
theorem dX11_swapSpares_33 : decode cX11_swapSpares 33 = .ok (.putfield 56, 3) := by decide +kernel
theorem dX11_swapSpares_36 : decode cX11_swapSpares 36 = .ok (.return_, 1) := by decide +kernel
theorem dX11_load_0 : decode cX11_load 0 = .ok (.aload_n 0, 1) := by decide +kernel
theorem dX11_load_1 : decode cX11_load 1 = .ok (.getfield 52, 3) := by decide +kernel
theorem dX11_load_4 : decode cX11_load 4 = .ok (.aload_n 0, 1) := by decide +kernel
theorem dX11_load_5 : decode cX11_load 5 = .ok (.getfield 10, 3) := by decide +kernel
theorem dX11_load_8 : decode cX11_load 8 = .ok (.invokevirtual 144, 3) := by decide +kernel
theorem dX11_load_11 : decode cX11_load 11 = .ok (.istore_n 1, 1) := by decide +kernel
theorem dX11_load_12 : decode cX11_load 12 = .ok (.aload_n 0, 1) := by decide +kernel
theorem dX11_load_13 : decode cX11_load 13 = .ok (.getfield 10, 3) := by decide +kernel
theorem dX11_load_16 : decode cX11_load 16 = .ok (.iconst 0, 1) := by decide +kernel
theorem dX11_load_17 : decode cX11_load 17 = .ok (.putfield 106, 3) := by decide +kernel
theorem dX11_load_20 : decode cX11_load 20 = .ok (.iload_n 1, 1) := by decide +kernel
theorem dX11_load_21 : decode cX11_load 21 = .ok (.ireturn, 1) := by decide +kernel
theorem dX11_instruction_0 : decode cX11_instruction 0 = .ok (.aload_n 0, 1) := by decide +kernel
theorem dX11_instruction_1 : decode cX11_instruction 1 = .ok (.getfield 52, 3) := by decide +kernel
theorem dX11_instruction_4 : decode cX11_instruction 4 = .ok (.iload_n 1, 1) := by decide +kernel
theorem dX11_instruction_5 : decode cX11_instruction 5 = .ok (.invokevirtual 147, 3) := by decide +kernel
theorem dX11_instruction_8 : decode cX11_instruction 8 = .ok (.lreturn, 1) := by decide +kernel
theorem dX11_verify_0 : decode cX11_verify 0 = .ok (.aload_n 0, 1) := by decide +kernel
theorem dX11_verify_1 : decode cX11_verify 1 = .ok (.getfield 91, 3) := by decide +kernel
theorem dX11_verify_4 : decode cX11_verify 4 = .ok (.aload_n 0, 1) := by decide +kernel
theorem dX11_verify_5 : decode cX11_verify 5 = .ok (.getfield 52, 3) := by decide +kernel
theorem dX11_verify_8 : decode cX11_verify 8 = .ok (.invokevirtual 151, 3) := by decide +kernel
theorem dX11_verify_11 : decode cX11_verify 11 = .ok (.ireturn, 1) := by decide +kernel
theorem dX11_known_0 : decode cX11_known 0 = .ok (.aload_n 0, 1) := by decide +kernel
theorem dX11_known_1 : decode cX11_known 1 = .ok (.getfield 91, 3) := by decide +kernel
theorem dX11_known_4 : decode cX11_known 4 = .ok (.iload_n 1, 1) := by decide +kernel
theorem dX11_known_5 : decode cX11_known 5 = .ok (.iload_n 2, 1) := by decide +kernel
theorem dX11_known_6 : decode cX11_known 6 = .ok (.iload_n 3, 1) := by decide +kernel
theorem dX11_known_7 : decode cX11_known 7 = .ok (.invokevirtual 155, 3) := by decide +kernel
theorem dX11_known_10 : decode cX11_known 10 = .ok (.lreturn, 1) := by decide +kernel
theorem dX11_run_0 : decode cX11_run 0 = .ok (.aload_n 0, 1) := by decide +kernel
theorem dX11_run_1 : decode cX11_run 1 = .ok (.getfield 52, 3) := by decide +kernel
theorem dX11_run_4 : decode cX11_run 4 = .ok (.getfield 159, 3) := by decide +kernel
theorem dX11_run_7 : decode cX11_run 7 = .ok (.ifCond .eq 14, 3) := by decide +kernel
theorem dX11_run_10 : decode cX11_run 10 = .ok (.aload_n 0, 1) := by decide +kernel
theorem dX11_run_11 : decode cX11_run 11 = .ok (.getfield 19, 3) := by decide +kernel
theorem dX11_run_14 : decode cX11_run 14 = .ok (.iload_n 1, 1) := by decide +kernel
theorem dX11_run_15 : decode cX11_run 15 = .ok (.invokevirtual 160, 3) := by decide +kernel
theorem dX11_run_18 : decode cX11_run 18 = .ok (.ifCond .ge 5, 3) := by decide +kernel
theorem dX11_run_21 : decode cX11_run 21 = .ok (.lconst 0, 1) := by decide +kernel
theorem dX11_run_22 : decode cX11_run 22 = .ok (.lreturn, 1) := by decide +kernel
theorem dX11_run_23 : decode cX11_run 23 = .ok (.aload_n 0, 1) := by decide +kernel
theorem dX11_run_24 : decode cX11_run 24 = .ok (.getfield 52, 3) := by decide +kernel
theorem dX11_run_27 : decode cX11_run 27 = .ok (.aload_n 0, 1) := by decide +kernel
theorem dX11_run_28 : decode cX11_run 28 = .ok (.getfield 28, 3) := by decide +kernel
theorem dX11_run_31 : decode cX11_run 31 = .ok (.iload_n 1, 1) := by decide +kernel
theorem dX11_run_32 : decode cX11_run 32 = .ok (.aload_n 0, 1) := by decide +kernel
theorem dX11_run_33 : decode cX11_run 33 = .ok (.getfield 19, 3) := by decide +kernel
theorem dX11_run_36 : decode cX11_run 36 = .ok (.iload_n 1, 1) := by decide +kernel
theorem dX11_run_37 : decode cX11_run 37 = .ok (.invokevirtual 160, 3) := by decide +kernel
theorem dX11_run_40 : decode cX11_run 40 = .ok (.invokevirtual 164, 3) := by decide +kernel
theorem dX11_run_43 : decode cX11_run 43 = .ok (.lreturn, 1) := by decide +kernel
theorem dX11_translate_0 : decode cX11_translate 0 = .ok (.aload_n 0, 1) := by decide +kernel
theorem dX11_translate_1 : decode cX11_translate 1 = .ok (.getfield 95, 3) := by decide +kernel
theorem dX11_translate_4 : decode cX11_translate 4 = .ok (.aload_n 0, 1) := by decide +kernel
theorem dX11_translate_5 : decode cX11_translate 5 = .ok (.getfield 52, 3) := by decide +kernel
theorem dX11_translate_8 : decode cX11_translate 8 = .ok (.invokevirtual 151, 3) := by decide +kernel
theorem dX11_translate_11 : decode cX11_translate 11 = .ok (.ifCond .eq 5, 3) := by decide +kernel
theorem dX11_translate_14 : decode cX11_translate 14 = .ok (.iconst (-1), 1) := by decide +kernel
theorem dX11_translate_15 : decode cX11_translate 15 = .ok (.ireturn, 1) := by decide +kernel
theorem dX11_translate_16 : decode cX11_translate 16 = .ok (.aload_n 0, 1) := by decide +kernel
theorem dX11_translate_17 : decode cX11_translate 17 = .ok (.getfield 82, 3) := by decide +kernel
theorem dX11_translate_20 : decode cX11_translate 20 = .ok (.aload_n 0, 1) := by decide +kernel
theorem dX11_translate_21 : decode cX11_translate 21 = .ok (.getfield 52, 3) := by decide +kernel
theorem dX11_translate_24 : decode cX11_translate 24 = .ok (.invokevirtual 168, 3) := by decide +kernel
theorem dX11_translate_27 : decode cX11_translate 27 = .ok (.ireturn, 1) := by decide +kernel
theorem dX11_raw_0 : decode cX11_raw 0 = .ok (.aload_n 0, 1) := by decide +kernel
theorem dX11_raw_1 : decode cX11_raw 1 = .ok (.getfield 35, 3) := by decide +kernel
theorem dX11_raw_4 : decode cX11_raw 4 = .ok (.aload_n 0, 1) := by decide +kernel
theorem dX11_raw_5 : decode cX11_raw 5 = .ok (.getfield 10, 3) := by decide +kernel
theorem dX11_raw_8 : decode cX11_raw 8 = .ok (.invokevirtual 171, 3) := by decide +kernel
theorem dX11_raw_11 : decode cX11_raw 11 = .ok (.istore_n 1, 1) := by decide +kernel
theorem dX11_raw_12 : decode cX11_raw 12 = .ok (.aload_n 0, 1) := by decide +kernel
theorem dX11_raw_13 : decode cX11_raw 13 = .ok (.getfield 10, 3) := by decide +kernel
theorem dX11_raw_16 : decode cX11_raw 16 = .ok (.iconst 0, 1) := by decide +kernel
theorem dX11_raw_17 : decode cX11_raw 17 = .ok (.putfield 106, 3) := by decide +kernel
theorem dX11_raw_20 : decode cX11_raw 20 = .ok (.iload_n 1, 1) := by decide +kernel
theorem dX11_raw_21 : decode cX11_raw 21 = .ok (.ireturn, 1) := by decide +kernel
theorem dX11_word_0 : decode cX11_word 0 = .ok (.aload_n 0, 1) := by decide +kernel
theorem dX11_word_1 : decode cX11_word 1 = .ok (.getfield 35, 3) := by decide +kernel
theorem dX11_word_4 : decode cX11_word 4 = .ok (.iload_n 1, 1) := by decide +kernel
theorem dX11_word_5 : decode cX11_word 5 = .ok (.invokevirtual 172, 3) := by decide +kernel
theorem dX11_word_8 : decode cX11_word 8 = .ok (.ireturn, 1) := by decide +kernel
theorem dX11_emulate_0 : decode cX11_emulate 0 = .ok (.aload_n 0, 1) := by decide +kernel
theorem dX11_emulate_1 : decode cX11_emulate 1 = .ok (.getfield 35, 3) := by decide +kernel
theorem dX11_emulate_4 : decode cX11_emulate 4 = .ok (.getfield 174, 3) := by decide +kernel
theorem dX11_emulate_7 : decode cX11_emulate 7 = .ok (.ifCond .eq 14, 3) := by decide +kernel
theorem dX11_emulate_10 : decode cX11_emulate 10 = .ok (.aload_n 0, 1) := by decide +kernel
theorem dX11_emulate_11 : decode cX11_emulate 11 = .ok (.getfield 19, 3) := by decide +kernel
theorem dX11_emulate_14 : decode cX11_emulate 14 = .ok (.iload_n 1, 1) := by decide +kernel
theorem dX11_emulate_15 : decode cX11_emulate 15 = .ok (.invokevirtual 160, 3) := by decide +kernel
theorem dX11_emulate_18 : decode cX11_emulate 18 = .ok (.ifCond .ge 5, 3) := by decide +kernel
theorem dX11_emulate_21 : decode cX11_emulate 21 = .ok (.lconst 0, 1) := by decide +kernel
theorem dX11_emulate_22 : decode cX11_emulate 22 = .ok (.lreturn, 1) := by decide +kernel
theorem dX11_emulate_23 : decode cX11_emulate 23 = .ok (.aload_n 0, 1) := by decide +kernel
theorem dX11_emulate_24 : decode cX11_emulate 24 = .ok (.getfield 35, 3) := by decide +kernel
theorem dX11_emulate_27 : decode cX11_emulate 27 = .ok (.aload_n 0, 1) := by decide +kernel
theorem dX11_emulate_28 : decode cX11_emulate 28 = .ok (.getfield 28, 3) := by decide +kernel
theorem dX11_emulate_31 : decode cX11_emulate 31 = .ok (.iload_n 1, 1) := by decide +kernel
theorem dX11_emulate_32 : decode cX11_emulate 32 = .ok (.aload_n 0, 1) := by decide +kernel
theorem dX11_emulate_33 : decode cX11_emulate 33 = .ok (.getfield 19, 3) := by decide +kernel
theorem dX11_emulate_36 : decode cX11_emulate 36 = .ok (.iload_n 1, 1) := by decide +kernel
theorem dX11_emulate_37 : decode cX11_emulate 37 = .ok (.invokevirtual 160, 3) := by decide +kernel
theorem dX11_emulate_40 : decode cX11_emulate 40 = .ok (.invokevirtual 175, 3) := by decide +kernel
theorem dX11_emulate_43 : decode cX11_emulate 43 = .ok (.lreturn, 1) := by decide +kernel
theorem dX11_ended_0 : decode cX11_ended 0 = .ok (.iload_n 1, 1) := by decide +kernel
theorem dX11_ended_1 : decode cX11_ended 1 = .ok (.tableswitch 51 0 2 #[27, 35, 43], 27) := by decide +kernel
theorem dX11_ended_28 : decode cX11_ended 28 = .ok (.aload_n 0, 1) := by decide +kernel
theorem dX11_ended_29 : decode cX11_ended 29 = .ok (.getfield 28, 3) := by decide +kernel
theorem dX11_ended_32 : decode cX11_ended 32 = .ok (.getfield 176, 3) := by decide +kernel
theorem dX11_ended_35 : decode cX11_ended 35 = .ok (.ireturn, 1) := by decide +kernel
theorem dX11_ended_36 : decode cX11_ended 36 = .ok (.aload_n 0, 1) := by decide +kernel
theorem dX11_ended_37 : decode cX11_ended 37 = .ok (.getfield 28, 3) := by decide +kernel
theorem dX11_ended_40 : decode cX11_ended 40 = .ok (.getfield 179, 3) := by decide +kernel
theorem dX11_ended_43 : decode cX11_ended 43 = .ok (.ireturn, 1) := by decide +kernel
theorem dX11_ended_44 : decode cX11_ended 44 = .ok (.aload_n 0, 1) := by decide +kernel
theorem dX11_ended_45 : decode cX11_ended 45 = .ok (.getfield 28, 3) := by decide +kernel
theorem dX11_ended_48 : decode cX11_ended 48 = .ok (.getfield 182, 3) := by decide +kernel
theorem dX11_ended_51 : decode cX11_ended 51 = .ok (.ireturn, 1) := by decide +kernel
theorem dX11_ended_52 : decode cX11_ended 52 = .ok (.iconst 0, 1) := by decide +kernel
theorem dX11_ended_53 : decode cX11_ended 53 = .ok (.ireturn, 1) := by decide +kernel
theorem dX11_register_0 : decode cX11_register 0 = .ok (.iload_n 1, 1) := by decide +kernel
theorem dX11_register_1 : decode cX11_register 1 = .ok (.ifCond .lt 14, 3) := by decide +kernel
theorem dX11_register_4 : decode cX11_register 4 = .ok (.iload_n 1, 1) := by decide +kernel
theorem dX11_register_5 : decode cX11_register 5 = .ok (.aload_n 0, 1) := by decide +kernel
theorem dX11_register_6 : decode cX11_register 6 = .ok (.getfield 28, 3) := by decide +kernel
theorem dX11_register_9 : decode cX11_register 9 = .ok (.getfield 185, 3) := by decide +kernel
theorem dX11_register_12 : decode cX11_register 12 = .ok (.if_icmp .lt 7, 3) := by decide +kernel
theorem dX11_register_15 : decode cX11_register 15 = .ok (.lconst 0, 1) := by decide +kernel
theorem dX11_register_16 : decode cX11_register 16 = .ok (.goto 11, 3) := by decide +kernel
theorem dX11_register_19 : decode cX11_register 19 = .ok (.aload_n 0, 1) := by decide +kernel
theorem dX11_register_20 : decode cX11_register 20 = .ok (.getfield 28, 3) := by decide +kernel
theorem dX11_register_23 : decode cX11_register 23 = .ok (.iload_n 1, 1) := by decide +kernel
theorem dX11_register_24 : decode cX11_register 24 = .ok (.invokevirtual 188, 3) := by decide +kernel
theorem dX11_register_27 : decode cX11_register 27 = .ok (.lreturn, 1) := by decide +kernel
theorem dX11_stack_0 : decode cX11_stack 0 = .ok (.iload_n 1, 1) := by decide +kernel
theorem dX11_stack_1 : decode cX11_stack 1 = .ok (.ifCond .lt 9, 3) := by decide +kernel
theorem dX11_stack_4 : decode cX11_stack 4 = .ok (.iload_n 1, 1) := by decide +kernel
theorem dX11_stack_5 : decode cX11_stack 5 = .ok (.bipush 64, 2) := by decide +kernel
theorem dX11_stack_7 : decode cX11_stack 7 = .ok (.if_icmp .lt 7, 3) := by decide +kernel
theorem dX11_stack_10 : decode cX11_stack 10 = .ok (.iconst (-1), 1) := by decide +kernel
theorem dX11_stack_11 : decode cX11_stack 11 = .ok (.goto 16, 3) := by decide +kernel
theorem dX11_stack_14 : decode cX11_stack 14 = .ok (.aload_n 0, 1) := by decide +kernel
theorem dX11_stack_15 : decode cX11_stack 15 = .ok (.getfield 28, 3) := by decide +kernel
theorem dX11_stack_18 : decode cX11_stack 18 = .ok (.getfield 191, 3) := by decide +kernel
theorem dX11_stack_21 : decode cX11_stack 21 = .ok (.iload_n 1, 1) := by decide +kernel
theorem dX11_stack_22 : decode cX11_stack 22 = .ok (.baload, 1) := by decide +kernel
theorem dX11_stack_23 : decode cX11_stack 23 = .ok (.sipush 255, 3) := by decide +kernel
theorem dX11_stack_26 : decode cX11_stack 26 = .ok (.iand, 1) := by decide +kernel
theorem dX11_stack_27 : decode cX11_stack 27 = .ok (.ireturn, 1) := by decide +kernel
theorem dX11_matches_0 : decode cX11_matches 0 = .ok (.aload_n 0, 1) := by decide +kernel
theorem dX11_matches_1 : decode cX11_matches 1 = .ok (.getfield 140, 3) := by decide +kernel
theorem dX11_matches_4 : decode cX11_matches 4 = .ok (.ifCond .ne 5, 3) := by decide +kernel
theorem dX11_matches_7 : decode cX11_matches 7 = .ok (.iconst (-1), 1) := by decide +kernel
theorem dX11_matches_8 : decode cX11_matches 8 = .ok (.ireturn, 1) := by decide +kernel
theorem dX11_matches_9 : decode cX11_matches 9 = .ok (.iconst 0, 1) := by decide +kernel
theorem dX11_matches_10 : decode cX11_matches 10 = .ok (.istore_n 1, 1) := by decide +kernel
theorem dX11_matches_11 : decode cX11_matches 11 = .ok (.iconst 0, 1) := by decide +kernel
theorem dX11_matches_12 : decode cX11_matches 12 = .ok (.istore_n 2, 1) := by decide +kernel
theorem dX11_matches_13 : decode cX11_matches 13 = .ok (.iload_n 2, 1) := by decide +kernel
theorem dX11_matches_14 : decode cX11_matches 14 = .ok (.aload_n 0, 1) := by decide +kernel
theorem dX11_matches_15 : decode cX11_matches 15 = .ok (.getfield 19, 3) := by decide +kernel
theorem dX11_matches_18 : decode cX11_matches 18 = .ok (.getfield 195, 3) := by decide +kernel
theorem dX11_matches_21 : decode cX11_matches 21 = .ok (.if_icmp .ge 30, 3) := by decide +kernel
theorem dX11_matches_24 : decode cX11_matches 24 = .ok (.aload_n 0, 1) := by decide +kernel
theorem dX11_matches_25 : decode cX11_matches 25 = .ok (.getfield 42, 3) := by decide +kernel
theorem dX11_matches_28 : decode cX11_matches 28 = .ok (.aload_n 0, 1) := by decide +kernel
theorem dX11_matches_29 : decode cX11_matches 29 = .ok (.getfield 19, 3) := by decide +kernel
theorem dX11_matches_32 : decode cX11_matches 32 = .ok (.iload_n 2, 1) := by decide +kernel
theorem dX11_matches_33 : decode cX11_matches 33 = .ok (.invokevirtual 198, 3) := by decide +kernel
theorem dX11_matches_36 : decode cX11_matches 36 = .ok (.ifCond .eq 9, 3) := by decide +kernel
theorem dX11_matches_39 : decode cX11_matches 39 = .ok (.iload_n 1, 1) := by decide +kernel
theorem dX11_matches_40 : decode cX11_matches 40 = .ok (.iconst 1, 1) := by decide +kernel
theorem dX11_matches_41 : decode cX11_matches 41 = .ok (.iload_n 2, 1) := by decide +kernel
theorem dX11_matches_42 : decode cX11_matches 42 = .ok (.ishl, 1) := by decide +kernel
theorem dX11_matches_43 : decode cX11_matches 43 = .ok (.ior, 1) := by decide +kernel
theorem dX11_matches_44 : decode cX11_matches 44 = .ok (.istore_n 1, 1) := by decide +kernel
theorem dX11_matches_45 : decode cX11_matches 45 = .ok (.iinc 2 1, 3) := by decide +kernel
theorem dX11_matches_48 : decode cX11_matches 48 = .ok (.goto (-35), 3) := by decide +kernel
theorem dX11_matches_51 : decode cX11_matches 51 = .ok (.iload_n 1, 1) := by decide +kernel
theorem dX11_matches_52 : decode cX11_matches 52 = .ok (.ireturn, 1) := by decide +kernel
theorem dX11_count_0 : decode cX11_count 0 = .ok (.iload_n 1, 1) := by decide +kernel
theorem dX11_count_1 : decode cX11_count 1 = .ok (.tableswitch 109 0 5 #[39, 47, 55, 63, 71, 90], 39) := by decide +kernel
theorem dX11_count_40 : decode cX11_count 40 = .ok (.aload_n 0, 1) := by decide +kernel
theorem dX11_count_41 : decode cX11_count 41 = .ok (.getfield 19, 3) := by decide +kernel
theorem dX11_count_44 : decode cX11_count 44 = .ok (.getfield 195, 3) := by decide +kernel
theorem dX11_count_47 : decode cX11_count 47 = .ok (.ireturn, 1) := by decide +kernel
theorem dX11_count_48 : decode cX11_count 48 = .ok (.aload_n 0, 1) := by decide +kernel
theorem dX11_count_49 : decode cX11_count 49 = .ok (.getfield 52, 3) := by decide +kernel
theorem dX11_count_52 : decode cX11_count 52 = .ok (.getfield 159, 3) := by decide +kernel
theorem dX11_count_55 : decode cX11_count 55 = .ok (.ireturn, 1) := by decide +kernel
theorem dX11_count_56 : decode cX11_count 56 = .ok (.aload_n 0, 1) := by decide +kernel
theorem dX11_count_57 : decode cX11_count 57 = .ok (.getfield 35, 3) := by decide +kernel
theorem dX11_count_60 : decode cX11_count 60 = .ok (.getfield 174, 3) := by decide +kernel
theorem dX11_count_63 : decode cX11_count 63 = .ok (.ireturn, 1) := by decide +kernel
theorem dX11_count_64 : decode cX11_count 64 = .ok (.aload_n 0, 1) := by decide +kernel
theorem dX11_count_65 : decode cX11_count 65 = .ok (.getfield 10, 3) := by decide +kernel
theorem dX11_count_68 : decode cX11_count 68 = .ok (.getfield 106, 3) := by decide +kernel
theorem dX11_count_71 : decode cX11_count 71 = .ok (.ireturn, 1) := by decide +kernel
theorem dX11_count_72 : decode cX11_count 72 = .ok (.aload_n 0, 1) := by decide +kernel
theorem dX11_count_73 : decode cX11_count 73 = .ok (.getfield 140, 3) := by decide +kernel
theorem dX11_count_76 : decode cX11_count 76 = .ok (.ifCond .eq 13, 3) := by decide +kernel
theorem dX11_count_79 : decode cX11_count 79 = .ok (.aload_n 0, 1) := by decide +kernel
theorem dX11_count_80 : decode cX11_count 80 = .ok (.getfield 42, 3) := by decide +kernel
theorem dX11_count_83 : decode cX11_count 83 = .ok (.getfield 202, 3) := by decide +kernel
theorem dX11_count_86 : decode cX11_count 86 = .ok (.goto 4, 3) := by decide +kernel
theorem dX11_count_89 : decode cX11_count 89 = .ok (.iconst 0, 1) := by decide +kernel
theorem dX11_count_90 : decode cX11_count 90 = .ok (.ireturn, 1) := by decide +kernel
theorem dX11_count_91 : decode cX11_count 91 = .ok (.aload_n 0, 1) := by decide +kernel
theorem dX11_count_92 : decode cX11_count 92 = .ok (.getfield 140, 3) := by decide +kernel
theorem dX11_count_95 : decode cX11_count 95 = .ok (.ifCond .eq 13, 3) := by decide +kernel
theorem dX11_count_98 : decode cX11_count 98 = .ok (.aload_n 0, 1) := by decide +kernel
theorem dX11_count_99 : decode cX11_count 99 = .ok (.getfield 42, 3) := by decide +kernel
theorem dX11_count_102 : decode cX11_count 102 = .ok (.getfield 205, 3) := by decide +kernel
theorem dX11_count_105 : decode cX11_count 105 = .ok (.goto 4, 3) := by decide +kernel
theorem dX11_count_108 : decode cX11_count 108 = .ok (.iconst 0, 1) := by decide +kernel
theorem dX11_count_109 : decode cX11_count 109 = .ok (.ireturn, 1) := by decide +kernel
theorem dX11_count_110 : decode cX11_count 110 = .ok (.iconst (-1), 1) := by decide +kernel
theorem dX11_count_111 : decode cX11_count 111 = .ok (.ireturn, 1) := by decide +kernel
theorem dX11_below_0 : decode cX11_below 0 = .ok (.lload_n 0, 1) := by decide +kernel
theorem dX11_below_1 : decode cX11_below 1 = .ok (.ldc2_w 208, 3) := by decide +kernel
theorem dX11_below_4 : decode cX11_below 4 = .ok (.ladd, 1) := by decide +kernel
theorem dX11_below_5 : decode cX11_below 5 = .ok (.lload_n 2, 1) := by decide +kernel
theorem dX11_below_6 : decode cX11_below 6 = .ok (.ldc2_w 208, 3) := by decide +kernel
theorem dX11_below_9 : decode cX11_below 9 = .ok (.ladd, 1) := by decide +kernel
theorem dX11_below_10 : decode cX11_below 10 = .ok (.lcmp, 1) := by decide +kernel
theorem dX11_below_11 : decode cX11_below 11 = .ok (.ifCond .ge 7, 3) := by decide +kernel
theorem dX11_below_14 : decode cX11_below 14 = .ok (.iconst 1, 1) := by decide +kernel
theorem dX11_below_15 : decode cX11_below 15 = .ok (.goto 4, 3) := by decide +kernel
theorem dX11_below_18 : decode cX11_below 18 = .ok (.iconst 0, 1) := by decide +kernel
theorem dX11_below_19 : decode cX11_below 19 = .ok (.ireturn, 1) := by decide +kernel
theorem dX11_lesser_0 : decode cX11_lesser 0 = .ok (.lload_n 0, 1) := by decide +kernel
theorem dX11_lesser_1 : decode cX11_lesser 1 = .ok (.lload_n 2, 1) := by decide +kernel
theorem dX11_lesser_2 : decode cX11_lesser 2 = .ok (.invokestatic 210, 3) := by decide +kernel
theorem dX11_lesser_5 : decode cX11_lesser 5 = .ok (.ifCond .eq 7, 3) := by decide +kernel
theorem dX11_lesser_8 : decode cX11_lesser 8 = .ok (.lload_n 0, 1) := by decide +kernel
theorem dX11_lesser_9 : decode cX11_lesser 9 = .ok (.goto 4, 3) := by decide +kernel
theorem dX11_lesser_12 : decode cX11_lesser 12 = .ok (.lload_n 2, 1) := by decide +kernel
theorem dX11_lesser_13 : decode cX11_lesser 13 = .ok (.lreturn, 1) := by decide +kernel
theorem dX11_greater_0 : decode cX11_greater 0 = .ok (.lload_n 0, 1) := by decide +kernel
theorem dX11_greater_1 : decode cX11_greater 1 = .ok (.lload_n 2, 1) := by decide +kernel
theorem dX11_greater_2 : decode cX11_greater 2 = .ok (.invokestatic 210, 3) := by decide +kernel
theorem dX11_greater_5 : decode cX11_greater 5 = .ok (.ifCond .eq 7, 3) := by decide +kernel
theorem dX11_greater_8 : decode cX11_greater 8 = .ok (.lload_n 2, 1) := by decide +kernel
theorem dX11_greater_9 : decode cX11_greater 9 = .ok (.goto 4, 3) := by decide +kernel
theorem dX11_greater_12 : decode cX11_greater 12 = .ok (.lload_n 0, 1) := by decide +kernel
theorem dX11_greater_13 : decode cX11_greater 13 = .ok (.lreturn, 1) := by decide +kernel
theorem dX11_quotient_0 : decode cX11_quotient 0 = .ok (.lload_n 2, 1) := by decide +kernel
theorem dX11_quotient_1 : decode cX11_quotient 1 = .ok (.lconst 0, 1) := by decide +kernel
theorem dX11_quotient_2 : decode cX11_quotient 2 = .ok (.lcmp, 1) := by decide +kernel
theorem dX11_quotient_3 : decode cX11_quotient 3 = .ok (.ifCond .ne 5, 3) := by decide +kernel
theorem dX11_quotient_6 : decode cX11_quotient 6 = .ok (.lconst 0, 1) := by decide +kernel
theorem dX11_quotient_7 : decode cX11_quotient 7 = .ok (.lreturn, 1) := by decide +kernel
theorem dX11_quotient_8 : decode cX11_quotient 8 = .ok (.lload_n 0, 1) := by decide +kernel
theorem dX11_quotient_9 : decode cX11_quotient 9 = .ok (.ldc2_w 208, 3) := by decide +kernel
theorem dX11_quotient_12 : decode cX11_quotient 12 = .ok (.ladd, 1) := by decide +kernel
theorem dX11_quotient_13 : decode cX11_quotient 13 = .ok (.lload_n 2, 1) := by decide +kernel
theorem dX11_quotient_14 : decode cX11_quotient 14 = .ok (.ldc2_w 208, 3) := by decide +kernel
theorem dX11_quotient_17 : decode cX11_quotient 17 = .ok (.ladd, 1) := by decide +kernel
theorem dX11_quotient_18 : decode cX11_quotient 18 = .ok (.lcmp, 1) := by decide +kernel
theorem dX11_quotient_19 : decode cX11_quotient 19 = .ok (.ifCond .ge 7, 3) := by decide +kernel
theorem dX11_quotient_22 : decode cX11_quotient 22 = .ok (.iconst 1, 1) := by decide +kernel
theorem dX11_quotient_23 : decode cX11_quotient 23 = .ok (.goto 4, 3) := by decide +kernel
theorem dX11_quotient_26 : decode cX11_quotient 26 = .ok (.iconst 0, 1) := by decide +kernel
theorem dX11_quotient_27 : decode cX11_quotient 27 = .ok (.istore 4, 2) := by decide +kernel
theorem dX11_quotient_29 : decode cX11_quotient 29 = .ok (.lload_n 2, 1) := by decide +kernel
theorem dX11_quotient_30 : decode cX11_quotient 30 = .ok (.lconst 0, 1) := by decide +kernel
theorem dX11_quotient_31 : decode cX11_quotient 31 = .ok (.lcmp, 1) := by decide +kernel
theorem dX11_quotient_32 : decode cX11_quotient 32 = .ok (.ifCond .ge 14, 3) := by decide +kernel
theorem dX11_quotient_35 : decode cX11_quotient 35 = .ok (.iload 4, 2) := by decide +kernel
theorem dX11_quotient_37 : decode cX11_quotient 37 = .ok (.ifCond .eq 7, 3) := by decide +kernel
theorem dX11_quotient_40 : decode cX11_quotient 40 = .ok (.lconst 0, 1) := by decide +kernel
theorem dX11_quotient_41 : decode cX11_quotient 41 = .ok (.goto 4, 3) := by decide +kernel
theorem dX11_quotient_44 : decode cX11_quotient 44 = .ok (.lconst 1, 1) := by decide +kernel
theorem dX11_quotient_45 : decode cX11_quotient 45 = .ok (.lreturn, 1) := by decide +kernel
theorem dX11_quotient_46 : decode cX11_quotient 46 = .ok (.lload_n 0, 1) := by decide +kernel
theorem dX11_quotient_47 : decode cX11_quotient 47 = .ok (.lconst 0, 1) := by decide +kernel
theorem dX11_quotient_48 : decode cX11_quotient 48 = .ok (.lcmp, 1) := by decide +kernel
theorem dX11_quotient_49 : decode cX11_quotient 49 = .ok (.ifCond .lt 7, 3) := by decide +kernel
theorem dX11_quotient_52 : decode cX11_quotient 52 = .ok (.lload_n 0, 1) := by decide +kernel
theorem dX11_quotient_53 : decode cX11_quotient 53 = .ok (.lload_n 2, 1) := by decide +kernel
theorem dX11_quotient_54 : decode cX11_quotient 54 = .ok (.ldiv, 1) := by decide +kernel
theorem dX11_quotient_55 : decode cX11_quotient 55 = .ok (.lreturn, 1) := by decide +kernel
theorem dX11_quotient_56 : decode cX11_quotient 56 = .ok (.lload_n 0, 1) := by decide +kernel
theorem dX11_quotient_57 : decode cX11_quotient 57 = .ok (.iconst 1, 1) := by decide +kernel
theorem dX11_quotient_58 : decode cX11_quotient 58 = .ok (.lushr, 1) := by decide +kernel
theorem dX11_quotient_59 : decode cX11_quotient 59 = .ok (.lload_n 2, 1) := by decide +kernel
theorem dX11_quotient_60 : decode cX11_quotient 60 = .ok (.ldiv, 1) := by decide +kernel
theorem dX11_quotient_61 : decode cX11_quotient 61 = .ok (.iconst 1, 1) := by decide +kernel
theorem dX11_quotient_62 : decode cX11_quotient 62 = .ok (.lshl, 1) := by decide +kernel
theorem dX11_quotient_63 : decode cX11_quotient 63 = .ok (.lstore 5, 2) := by decide +kernel
theorem dX11_quotient_65 : decode cX11_quotient 65 = .ok (.lload_n 0, 1) := by decide +kernel
theorem dX11_quotient_66 : decode cX11_quotient 66 = .ok (.lload 5, 2) := by decide +kernel
theorem dX11_quotient_68 : decode cX11_quotient 68 = .ok (.lload_n 2, 1) := by decide +kernel
theorem dX11_quotient_69 : decode cX11_quotient 69 = .ok (.lmul, 1) := by decide +kernel
theorem dX11_quotient_70 : decode cX11_quotient 70 = .ok (.lsub, 1) := by decide +kernel
theorem dX11_quotient_71 : decode cX11_quotient 71 = .ok (.lstore 7, 2) := by decide +kernel
theorem dX11_quotient_73 : decode cX11_quotient 73 = .ok (.lload 7, 2) := by decide +kernel
theorem dX11_quotient_75 : decode cX11_quotient 75 = .ok (.ldc2_w 208, 3) := by decide +kernel
theorem dX11_quotient_78 : decode cX11_quotient 78 = .ok (.ladd, 1) := by decide +kernel
theorem dX11_quotient_79 : decode cX11_quotient 79 = .ok (.lload_n 2, 1) := by decide +kernel
theorem dX11_quotient_80 : decode cX11_quotient 80 = .ok (.ldc2_w 208, 3) := by decide +kernel
theorem dX11_quotient_83 : decode cX11_quotient 83 = .ok (.ladd, 1) := by decide +kernel
theorem dX11_quotient_84 : decode cX11_quotient 84 = .ok (.lcmp, 1) := by decide +kernel
theorem dX11_quotient_85 : decode cX11_quotient 85 = .ok (.ifCond .ge 8, 3) := by decide +kernel
theorem dX11_quotient_88 : decode cX11_quotient 88 = .ok (.lload 5, 2) := by decide +kernel
theorem dX11_quotient_90 : decode cX11_quotient 90 = .ok (.goto 7, 3) := by decide +kernel
theorem dX11_quotient_93 : decode cX11_quotient 93 = .ok (.lload 5, 2) := by decide +kernel
theorem dX11_quotient_95 : decode cX11_quotient 95 = .ok (.lconst 1, 1) := by decide +kernel
theorem dX11_quotient_96 : decode cX11_quotient 96 = .ok (.ladd, 1) := by decide +kernel
theorem dX11_quotient_97 : decode cX11_quotient 97 = .ok (.lreturn, 1) := by decide +kernel
theorem dX11_worked_0 : decode cX11_worked 0 = .ok (.iload_n 1, 1) := by decide +kernel
theorem dX11_worked_1 : decode cX11_worked 1 = .ok (.ifCond .eq 7, 3) := by decide +kernel
theorem dX11_worked_4 : decode cX11_worked 4 = .ok (.lload_n 2, 1) := by decide +kernel
theorem dX11_worked_5 : decode cX11_worked 5 = .ok (.goto 8, 3) := by decide +kernel
theorem dX11_worked_8 : decode cX11_worked 8 = .ok (.lload_n 2, 1) := by decide +kernel
theorem dX11_worked_9 : decode cX11_worked 9 = .ok (.ldc2_w 214, 3) := by decide +kernel
theorem dX11_worked_12 : decode cX11_worked 12 = .ok (.land, 1) := by decide +kernel
theorem dX11_worked_13 : decode cX11_worked 13 = .ok (.lstore 6, 2) := by decide +kernel
theorem dX11_worked_15 : decode cX11_worked 15 = .ok (.iload_n 1, 1) := by decide +kernel
theorem dX11_worked_16 : decode cX11_worked 16 = .ok (.ifCond .eq 8, 3) := by decide +kernel
theorem dX11_worked_19 : decode cX11_worked 19 = .ok (.lload 4, 2) := by decide +kernel
theorem dX11_worked_21 : decode cX11_worked 21 = .ok (.goto 9, 3) := by decide +kernel
theorem dX11_worked_24 : decode cX11_worked 24 = .ok (.lload 4, 2) := by decide +kernel
theorem dX11_worked_26 : decode cX11_worked 26 = .ok (.ldc2_w 214, 3) := by decide +kernel
theorem dX11_worked_29 : decode cX11_worked 29 = .ok (.land, 1) := by decide +kernel
theorem dX11_worked_30 : decode cX11_worked 30 = .ok (.lstore 8, 2) := by decide +kernel
theorem dX11_worked_32 : decode cX11_worked 32 = .ok (.lload 8, 2) := by decide +kernel
theorem dX11_worked_34 : decode cX11_worked 34 = .ok (.iload_n 1, 1) := by decide +kernel
theorem dX11_worked_35 : decode cX11_worked 35 = .ok (.ifCond .eq 8, 3) := by decide +kernel
theorem dX11_worked_38 : decode cX11_worked 38 = .ok (.bipush 63, 2) := by decide +kernel
theorem dX11_worked_40 : decode cX11_worked 40 = .ok (.goto 5, 3) := by decide +kernel
theorem dX11_worked_43 : decode cX11_worked 43 = .ok (.bipush 31, 2) := by decide +kernel
theorem dX11_worked_45 : decode cX11_worked 45 = .ok (.i2l, 1) := by decide +kernel
theorem dX11_worked_46 : decode cX11_worked 46 = .ok (.land, 1) := by decide +kernel
theorem dX11_worked_47 : decode cX11_worked 47 = .ok (.l2i, 1) := by decide +kernel
theorem dX11_worked_48 : decode cX11_worked 48 = .ok (.istore 10, 2) := by decide +kernel
theorem dX11_worked_50 : decode cX11_worked 50 = .ok (.iload_n 0, 1) := by decide +kernel
theorem dX11_worked_51 : decode cX11_worked 51 = .ok (.tableswitch 226 0 12 #[65, 75, 85, 95, 107, 117, 127, 137, 147, 155, 185, 195, 202], 65) := by decide +kernel
theorem dX11_worked_116 : decode cX11_worked 116 = .ok (.lload 6, 2) := by decide +kernel
theorem dX11_worked_118 : decode cX11_worked 118 = .ok (.lload 8, 2) := by decide +kernel
theorem dX11_worked_120 : decode cX11_worked 120 = .ok (.ladd, 1) := by decide +kernel
theorem dX11_worked_121 : decode cX11_worked 121 = .ok (.lstore 11, 2) := by decide +kernel
theorem dX11_worked_123 : decode cX11_worked 123 = .ok (.goto 157, 3) := by decide +kernel
theorem dX11_worked_126 : decode cX11_worked 126 = .ok (.lload 6, 2) := by decide +kernel
theorem dX11_worked_128 : decode cX11_worked 128 = .ok (.lload 8, 2) := by decide +kernel
theorem dX11_worked_130 : decode cX11_worked 130 = .ok (.lsub, 1) := by decide +kernel
theorem dX11_worked_131 : decode cX11_worked 131 = .ok (.lstore 11, 2) := by decide +kernel
theorem dX11_worked_133 : decode cX11_worked 133 = .ok (.goto 147, 3) := by decide +kernel
theorem dX11_worked_136 : decode cX11_worked 136 = .ok (.lload 6, 2) := by decide +kernel
theorem dX11_worked_138 : decode cX11_worked 138 = .ok (.lload 8, 2) := by decide +kernel
theorem dX11_worked_140 : decode cX11_worked 140 = .ok (.lmul, 1) := by decide +kernel
theorem dX11_worked_141 : decode cX11_worked 141 = .ok (.lstore 11, 2) := by decide +kernel
theorem dX11_worked_143 : decode cX11_worked 143 = .ok (.goto 137, 3) := by decide +kernel
theorem dX11_worked_146 : decode cX11_worked 146 = .ok (.lload 6, 2) := by decide +kernel
theorem dX11_worked_148 : decode cX11_worked 148 = .ok (.lload 8, 2) := by decide +kernel
theorem dX11_worked_150 : decode cX11_worked 150 = .ok (.invokestatic 216, 3) := by decide +kernel
theorem dX11_worked_153 : decode cX11_worked 153 = .ok (.lstore 11, 2) := by decide +kernel
theorem dX11_worked_155 : decode cX11_worked 155 = .ok (.goto 125, 3) := by decide +kernel
theorem dX11_worked_158 : decode cX11_worked 158 = .ok (.lload 6, 2) := by decide +kernel
theorem dX11_worked_160 : decode cX11_worked 160 = .ok (.lload 8, 2) := by decide +kernel
theorem dX11_worked_162 : decode cX11_worked 162 = .ok (.lor, 1) := by decide +kernel
theorem dX11_worked_163 : decode cX11_worked 163 = .ok (.lstore 11, 2) := by decide +kernel
theorem dX11_worked_165 : decode cX11_worked 165 = .ok (.goto 115, 3) := by decide +kernel
theorem dX11_worked_168 : decode cX11_worked 168 = .ok (.lload 6, 2) := by decide +kernel
theorem dX11_worked_170 : decode cX11_worked 170 = .ok (.lload 8, 2) := by decide +kernel
theorem dX11_worked_172 : decode cX11_worked 172 = .ok (.land, 1) := by decide +kernel
theorem dX11_worked_173 : decode cX11_worked 173 = .ok (.lstore 11, 2) := by decide +kernel
theorem dX11_worked_175 : decode cX11_worked 175 = .ok (.goto 105, 3) := by decide +kernel
theorem dX11_worked_178 : decode cX11_worked 178 = .ok (.lload 6, 2) := by decide +kernel
theorem dX11_worked_180 : decode cX11_worked 180 = .ok (.iload 10, 2) := by decide +kernel
theorem dX11_worked_182 : decode cX11_worked 182 = .ok (.lshl, 1) := by decide +kernel
theorem dX11_worked_183 : decode cX11_worked 183 = .ok (.lstore 11, 2) := by decide +kernel
theorem dX11_worked_185 : decode cX11_worked 185 = .ok (.goto 95, 3) := by decide +kernel
theorem dX11_worked_188 : decode cX11_worked 188 = .ok (.lload 6, 2) := by decide +kernel
theorem dX11_worked_190 : decode cX11_worked 190 = .ok (.iload 10, 2) := by decide +kernel
theorem dX11_worked_192 : decode cX11_worked 192 = .ok (.lushr, 1) := by decide +kernel
theorem dX11_worked_193 : decode cX11_worked 193 = .ok (.lstore 11, 2) := by decide +kernel
theorem dX11_worked_195 : decode cX11_worked 195 = .ok (.goto 85, 3) := by decide +kernel
theorem dX11_worked_198 : decode cX11_worked 198 = .ok (.lload 6, 2) := by decide +kernel
theorem dX11_worked_200 : decode cX11_worked 200 = .ok (.lneg, 1) := by decide +kernel
theorem dX11_worked_201 : decode cX11_worked 201 = .ok (.lstore 11, 2) := by decide +kernel
theorem dX11_worked_203 : decode cX11_worked 203 = .ok (.goto 77, 3) := by decide +kernel
theorem dX11_worked_206 : decode cX11_worked 206 = .ok (.lload 8, 2) := by decide +kernel
theorem dX11_worked_208 : decode cX11_worked 208 = .ok (.lconst 0, 1) := by decide +kernel
theorem dX11_worked_209 : decode cX11_worked 209 = .ok (.lcmp, 1) := by decide +kernel
theorem dX11_worked_210 : decode cX11_worked 210 = .ok (.ifCond .ne 8, 3) := by decide +kernel
theorem dX11_worked_213 : decode cX11_worked 213 = .ok (.lload 6, 2) := by decide +kernel
theorem dX11_worked_215 : decode cX11_worked 215 = .ok (.goto 16, 3) := by decide +kernel
theorem dX11_worked_218 : decode cX11_worked 218 = .ok (.lload 6, 2) := by decide +kernel
theorem dX11_worked_220 : decode cX11_worked 220 = .ok (.lload 6, 2) := by decide +kernel
theorem dX11_worked_222 : decode cX11_worked 222 = .ok (.lload 8, 2) := by decide +kernel
theorem dX11_worked_224 : decode cX11_worked 224 = .ok (.invokestatic 216, 3) := by decide +kernel
theorem dX11_worked_227 : decode cX11_worked 227 = .ok (.lload 8, 2) := by decide +kernel
theorem dX11_worked_229 : decode cX11_worked 229 = .ok (.lmul, 1) := by decide +kernel
theorem dX11_worked_230 : decode cX11_worked 230 = .ok (.lsub, 1) := by decide +kernel
theorem dX11_worked_231 : decode cX11_worked 231 = .ok (.lstore 11, 2) := by decide +kernel
theorem dX11_worked_233 : decode cX11_worked 233 = .ok (.goto 47, 3) := by decide +kernel
theorem dX11_worked_236 : decode cX11_worked 236 = .ok (.lload 6, 2) := by decide +kernel
theorem dX11_worked_238 : decode cX11_worked 238 = .ok (.lload 8, 2) := by decide +kernel
theorem dX11_worked_240 : decode cX11_worked 240 = .ok (.lxor, 1) := by decide +kernel
theorem dX11_worked_241 : decode cX11_worked 241 = .ok (.lstore 11, 2) := by decide +kernel
theorem dX11_worked_243 : decode cX11_worked 243 = .ok (.goto 37, 3) := by decide +kernel
theorem dX11_worked_246 : decode cX11_worked 246 = .ok (.lload 8, 2) := by decide +kernel
theorem dX11_worked_248 : decode cX11_worked 248 = .ok (.lstore 11, 2) := by decide +kernel
theorem dX11_worked_250 : decode cX11_worked 250 = .ok (.goto 30, 3) := by decide +kernel
theorem dX11_worked_253 : decode cX11_worked 253 = .ok (.iload_n 1, 1) := by decide +kernel
theorem dX11_worked_254 : decode cX11_worked 254 = .ok (.ifCond .eq 11, 3) := by decide +kernel
theorem dX11_worked_257 : decode cX11_worked 257 = .ok (.lload 6, 2) := by decide +kernel
theorem dX11_worked_259 : decode cX11_worked 259 = .ok (.iload 10, 2) := by decide +kernel
theorem dX11_worked_261 : decode cX11_worked 261 = .ok (.lshr, 1) := by decide +kernel
theorem dX11_worked_262 : decode cX11_worked 262 = .ok (.goto 10, 3) := by decide +kernel
theorem dX11_worked_265 : decode cX11_worked 265 = .ok (.lload 6, 2) := by decide +kernel
theorem dX11_worked_267 : decode cX11_worked 267 = .ok (.l2i, 1) := by decide +kernel
theorem dX11_worked_268 : decode cX11_worked 268 = .ok (.iload 10, 2) := by decide +kernel
theorem dX11_worked_270 : decode cX11_worked 270 = .ok (.ishr, 1) := by decide +kernel
theorem dX11_worked_271 : decode cX11_worked 271 = .ok (.i2l, 1) := by decide +kernel
theorem dX11_worked_272 : decode cX11_worked 272 = .ok (.lstore 11, 2) := by decide +kernel
theorem dX11_worked_274 : decode cX11_worked 274 = .ok (.goto 6, 3) := by decide +kernel
theorem dX11_worked_277 : decode cX11_worked 277 = .ok (.lconst 0, 1) := by decide +kernel
theorem dX11_worked_278 : decode cX11_worked 278 = .ok (.lstore 11, 2) := by decide +kernel
theorem dX11_worked_280 : decode cX11_worked 280 = .ok (.iload_n 1, 1) := by decide +kernel
theorem dX11_worked_281 : decode cX11_worked 281 = .ok (.ifCond .eq 8, 3) := by decide +kernel
theorem dX11_worked_284 : decode cX11_worked 284 = .ok (.lload 11, 2) := by decide +kernel
theorem dX11_worked_286 : decode cX11_worked 286 = .ok (.goto 9, 3) := by decide +kernel
theorem dX11_worked_289 : decode cX11_worked 289 = .ok (.lload 11, 2) := by decide +kernel
theorem dX11_worked_291 : decode cX11_worked 291 = .ok (.ldc2_w 214, 3) := by decide +kernel
theorem dX11_worked_294 : decode cX11_worked 294 = .ok (.land, 1) := by decide +kernel
theorem dX11_worked_295 : decode cX11_worked 295 = .ok (.lreturn, 1) := by decide +kernel
theorem dX11_holds_0 : decode cX11_holds 0 = .ok (.iload_n 1, 1) := by decide +kernel
theorem dX11_holds_1 : decode cX11_holds 1 = .ok (.ifCond .eq 7, 3) := by decide +kernel
theorem dX11_holds_4 : decode cX11_holds 4 = .ok (.lload_n 2, 1) := by decide +kernel
theorem dX11_holds_5 : decode cX11_holds 5 = .ok (.goto 6, 3) := by decide +kernel
theorem dX11_holds_8 : decode cX11_holds 8 = .ok (.lload_n 2, 1) := by decide +kernel
theorem dX11_holds_9 : decode cX11_holds 9 = .ok (.l2i, 1) := by decide +kernel
theorem dX11_holds_10 : decode cX11_holds 10 = .ok (.i2l, 1) := by decide +kernel
theorem dX11_holds_11 : decode cX11_holds 11 = .ok (.lstore 6, 2) := by decide +kernel
theorem dX11_holds_13 : decode cX11_holds 13 = .ok (.iload_n 1, 1) := by decide +kernel
theorem dX11_holds_14 : decode cX11_holds 14 = .ok (.ifCond .eq 8, 3) := by decide +kernel
theorem dX11_holds_17 : decode cX11_holds 17 = .ok (.lload 4, 2) := by decide +kernel
theorem dX11_holds_19 : decode cX11_holds 19 = .ok (.goto 7, 3) := by decide +kernel
theorem dX11_holds_22 : decode cX11_holds 22 = .ok (.lload 4, 2) := by decide +kernel
theorem dX11_holds_24 : decode cX11_holds 24 = .ok (.l2i, 1) := by decide +kernel
theorem dX11_holds_25 : decode cX11_holds 25 = .ok (.i2l, 1) := by decide +kernel
theorem dX11_holds_26 : decode cX11_holds 26 = .ok (.lstore 8, 2) := by decide +kernel
theorem dX11_holds_28 : decode cX11_holds 28 = .ok (.iload_n 0, 1) := by decide +kernel
theorem dX11_holds_29 : decode cX11_holds 29 = .ok (.tableswitch 221 0 13 #[71, 73, 87, 95, 111, 127, 141, 155, 221, 221, 169, 177, 193, 207], 71) := by decide +kernel
theorem dX11_holds_100 : decode cX11_holds 100 = .ok (.iconst 1, 1) := by decide +kernel
theorem dX11_holds_101 : decode cX11_holds 101 = .ok (.ireturn, 1) := by decide +kernel
theorem dX11_holds_102 : decode cX11_holds 102 = .ok (.lload 6, 2) := by decide +kernel
theorem dX11_holds_104 : decode cX11_holds 104 = .ok (.lload 8, 2) := by decide +kernel
theorem dX11_holds_106 : decode cX11_holds 106 = .ok (.lcmp, 1) := by decide +kernel
theorem dX11_holds_107 : decode cX11_holds 107 = .ok (.ifCond .ne 7, 3) := by decide +kernel
theorem dX11_holds_110 : decode cX11_holds 110 = .ok (.iconst 1, 1) := by decide +kernel
theorem dX11_holds_111 : decode cX11_holds 111 = .ok (.goto 4, 3) := by decide +kernel
theorem dX11_holds_114 : decode cX11_holds 114 = .ok (.iconst 0, 1) := by decide +kernel
theorem dX11_holds_115 : decode cX11_holds 115 = .ok (.ireturn, 1) := by decide +kernel
theorem dX11_holds_116 : decode cX11_holds 116 = .ok (.lload 8, 2) := by decide +kernel
theorem dX11_holds_118 : decode cX11_holds 118 = .ok (.lload 6, 2) := by decide +kernel
theorem dX11_holds_120 : decode cX11_holds 120 = .ok (.invokestatic 210, 3) := by decide +kernel
theorem dX11_holds_123 : decode cX11_holds 123 = .ok (.ireturn, 1) := by decide +kernel
theorem dX11_holds_124 : decode cX11_holds 124 = .ok (.lload 6, 2) := by decide +kernel
theorem dX11_holds_126 : decode cX11_holds 126 = .ok (.lload 8, 2) := by decide +kernel
theorem dX11_holds_128 : decode cX11_holds 128 = .ok (.invokestatic 210, 3) := by decide +kernel
theorem dX11_holds_131 : decode cX11_holds 131 = .ok (.ifCond .ne 7, 3) := by decide +kernel
theorem dX11_holds_134 : decode cX11_holds 134 = .ok (.iconst 1, 1) := by decide +kernel
theorem dX11_holds_135 : decode cX11_holds 135 = .ok (.goto 4, 3) := by decide +kernel
theorem dX11_holds_138 : decode cX11_holds 138 = .ok (.iconst 0, 1) := by decide +kernel
theorem dX11_holds_139 : decode cX11_holds 139 = .ok (.ireturn, 1) := by decide +kernel
theorem dX11_holds_140 : decode cX11_holds 140 = .ok (.lload 6, 2) := by decide +kernel
theorem dX11_holds_142 : decode cX11_holds 142 = .ok (.lload 8, 2) := by decide +kernel
theorem dX11_holds_144 : decode cX11_holds 144 = .ok (.land, 1) := by decide +kernel
theorem dX11_holds_145 : decode cX11_holds 145 = .ok (.lconst 0, 1) := by decide +kernel
theorem dX11_holds_146 : decode cX11_holds 146 = .ok (.lcmp, 1) := by decide +kernel
theorem dX11_holds_147 : decode cX11_holds 147 = .ok (.ifCond .eq 7, 3) := by decide +kernel
theorem dX11_holds_150 : decode cX11_holds 150 = .ok (.iconst 1, 1) := by decide +kernel
theorem dX11_holds_151 : decode cX11_holds 151 = .ok (.goto 4, 3) := by decide +kernel
theorem dX11_holds_154 : decode cX11_holds 154 = .ok (.iconst 0, 1) := by decide +kernel
theorem dX11_holds_155 : decode cX11_holds 155 = .ok (.ireturn, 1) := by decide +kernel
theorem dX11_holds_156 : decode cX11_holds 156 = .ok (.lload 6, 2) := by decide +kernel
theorem dX11_holds_158 : decode cX11_holds 158 = .ok (.lload 8, 2) := by decide +kernel
theorem dX11_holds_160 : decode cX11_holds 160 = .ok (.lcmp, 1) := by decide +kernel
theorem dX11_holds_161 : decode cX11_holds 161 = .ok (.ifCond .eq 7, 3) := by decide +kernel
theorem dX11_holds_164 : decode cX11_holds 164 = .ok (.iconst 1, 1) := by decide +kernel
theorem dX11_holds_165 : decode cX11_holds 165 = .ok (.goto 4, 3) := by decide +kernel
theorem dX11_holds_168 : decode cX11_holds 168 = .ok (.iconst 0, 1) := by decide +kernel
theorem dX11_holds_169 : decode cX11_holds 169 = .ok (.ireturn, 1) := by decide +kernel
theorem dX11_holds_170 : decode cX11_holds 170 = .ok (.lload 6, 2) := by decide +kernel
theorem dX11_holds_172 : decode cX11_holds 172 = .ok (.lload 8, 2) := by decide +kernel
theorem dX11_holds_174 : decode cX11_holds 174 = .ok (.lcmp, 1) := by decide +kernel
theorem dX11_holds_175 : decode cX11_holds 175 = .ok (.ifCond .le 7, 3) := by decide +kernel
theorem dX11_holds_178 : decode cX11_holds 178 = .ok (.iconst 1, 1) := by decide +kernel
theorem dX11_holds_179 : decode cX11_holds 179 = .ok (.goto 4, 3) := by decide +kernel
theorem dX11_holds_182 : decode cX11_holds 182 = .ok (.iconst 0, 1) := by decide +kernel
theorem dX11_holds_183 : decode cX11_holds 183 = .ok (.ireturn, 1) := by decide +kernel
theorem dX11_holds_184 : decode cX11_holds 184 = .ok (.lload 6, 2) := by decide +kernel
theorem dX11_holds_186 : decode cX11_holds 186 = .ok (.lload 8, 2) := by decide +kernel
theorem dX11_holds_188 : decode cX11_holds 188 = .ok (.lcmp, 1) := by decide +kernel
theorem dX11_holds_189 : decode cX11_holds 189 = .ok (.ifCond .lt 7, 3) := by decide +kernel
theorem dX11_holds_192 : decode cX11_holds 192 = .ok (.iconst 1, 1) := by decide +kernel
theorem dX11_holds_193 : decode cX11_holds 193 = .ok (.goto 4, 3) := by decide +kernel
theorem dX11_holds_196 : decode cX11_holds 196 = .ok (.iconst 0, 1) := by decide +kernel
theorem dX11_holds_197 : decode cX11_holds 197 = .ok (.ireturn, 1) := by decide +kernel
theorem dX11_holds_198 : decode cX11_holds 198 = .ok (.lload 6, 2) := by decide +kernel
theorem dX11_holds_200 : decode cX11_holds 200 = .ok (.lload 8, 2) := by decide +kernel
theorem dX11_holds_202 : decode cX11_holds 202 = .ok (.invokestatic 210, 3) := by decide +kernel
theorem dX11_holds_205 : decode cX11_holds 205 = .ok (.ireturn, 1) := by decide +kernel
theorem dX11_holds_206 : decode cX11_holds 206 = .ok (.lload 8, 2) := by decide +kernel
theorem dX11_holds_208 : decode cX11_holds 208 = .ok (.lload 6, 2) := by decide +kernel
theorem dX11_holds_210 : decode cX11_holds 210 = .ok (.invokestatic 210, 3) := by decide +kernel
theorem dX11_holds_213 : decode cX11_holds 213 = .ok (.ifCond .ne 7, 3) := by decide +kernel
theorem dX11_holds_216 : decode cX11_holds 216 = .ok (.iconst 1, 1) := by decide +kernel
theorem dX11_holds_217 : decode cX11_holds 217 = .ok (.goto 4, 3) := by decide +kernel
theorem dX11_holds_220 : decode cX11_holds 220 = .ok (.iconst 0, 1) := by decide +kernel
theorem dX11_holds_221 : decode cX11_holds 221 = .ok (.ireturn, 1) := by decide +kernel
theorem dX11_holds_222 : decode cX11_holds 222 = .ok (.lload 6, 2) := by decide +kernel
theorem dX11_holds_224 : decode cX11_holds 224 = .ok (.lload 8, 2) := by decide +kernel
theorem dX11_holds_226 : decode cX11_holds 226 = .ok (.lcmp, 1) := by decide +kernel
theorem dX11_holds_227 : decode cX11_holds 227 = .ok (.ifCond .ge 7, 3) := by decide +kernel
theorem dX11_holds_230 : decode cX11_holds 230 = .ok (.iconst 1, 1) := by decide +kernel
theorem dX11_holds_231 : decode cX11_holds 231 = .ok (.goto 4, 3) := by decide +kernel
theorem dX11_holds_234 : decode cX11_holds 234 = .ok (.iconst 0, 1) := by decide +kernel
theorem dX11_holds_235 : decode cX11_holds 235 = .ok (.ireturn, 1) := by decide +kernel
theorem dX11_holds_236 : decode cX11_holds 236 = .ok (.lload 6, 2) := by decide +kernel
theorem dX11_holds_238 : decode cX11_holds 238 = .ok (.lload 8, 2) := by decide +kernel
theorem dX11_holds_240 : decode cX11_holds 240 = .ok (.lcmp, 1) := by decide +kernel
theorem dX11_holds_241 : decode cX11_holds 241 = .ok (.ifCond .gt 7, 3) := by decide +kernel
theorem dX11_holds_244 : decode cX11_holds 244 = .ok (.iconst 1, 1) := by decide +kernel
theorem dX11_holds_245 : decode cX11_holds 245 = .ok (.goto 4, 3) := by decide +kernel
theorem dX11_holds_248 : decode cX11_holds 248 = .ok (.iconst 0, 1) := by decide +kernel
theorem dX11_holds_249 : decode cX11_holds 249 = .ok (.ireturn, 1) := by decide +kernel
theorem dX11_holds_250 : decode cX11_holds 250 = .ok (.iconst 0, 1) := by decide +kernel
theorem dX11_holds_251 : decode cX11_holds 251 = .ok (.ireturn, 1) := by decide +kernel
theorem dX11_otherOp_0 : decode cX11_otherOp 0 = .ok (.iload_n 0, 1) := by decide +kernel
theorem dX11_otherOp_1 : decode cX11_otherOp 1 = .ok (.tableswitch 67 1 10 #[55, 64, 61, 67, 57, 67, 67, 67, 67, 59], 55) := by decide +kernel
theorem dX11_otherOp_56 : decode cX11_otherOp 56 = .ok (.iconst 5, 1) := by decide +kernel
theorem dX11_otherOp_57 : decode cX11_otherOp 57 = .ok (.ireturn, 1) := by decide +kernel
theorem dX11_otherOp_58 : decode cX11_otherOp 58 = .ok (.iconst 1, 1) := by decide +kernel
theorem dX11_otherOp_59 : decode cX11_otherOp 59 = .ok (.ireturn, 1) := by decide +kernel
theorem dX11_otherOp_60 : decode cX11_otherOp 60 = .ok (.iconst 3, 1) := by decide +kernel
theorem dX11_otherOp_61 : decode cX11_otherOp 61 = .ok (.ireturn, 1) := by decide +kernel
theorem dX11_otherOp_62 : decode cX11_otherOp 62 = .ok (.bipush 10, 2) := by decide +kernel
theorem dX11_otherOp_64 : decode cX11_otherOp 64 = .ok (.ireturn, 1) := by decide +kernel
theorem dX11_otherOp_65 : decode cX11_otherOp 65 = .ok (.bipush 11, 2) := by decide +kernel
theorem dX11_otherOp_67 : decode cX11_otherOp 67 = .ok (.ireturn, 1) := by decide +kernel
theorem dX11_otherOp_68 : decode cX11_otherOp 68 = .ok (.iconst 2, 1) := by decide +kernel
theorem dX11_otherOp_69 : decode cX11_otherOp 69 = .ok (.ireturn, 1) := by decide +kernel

theorem dX10_init_0 : decode cX10_init 0 = .ok (.aload_n 0, 1) := by decide +kernel
theorem dX10_init_1 : decode cX10_init 1 = .ok (.invokespecial 1, 3) := by decide +kernel
theorem dX10_init_4 : decode cX10_init 4 = .ok (.aload_n 0, 1) := by decide +kernel
theorem dX10_init_5 : decode cX10_init 5 = .ok (.iconst 2, 1) := by decide +kernel
theorem dX10_init_6 : decode cX10_init 6 = .ok (.putfield 7, 3) := by decide +kernel
theorem dX10_init_9 : decode cX10_init 9 = .ok (.aload_n 0, 1) := by decide +kernel
theorem dX10_init_10 : decode cX10_init 10 = .ok (.bipush 14, 2) := by decide +kernel
theorem dX10_init_12 : decode cX10_init 12 = .ok (.newarray .int, 2) := by decide +kernel
theorem dX10_init_14 : decode cX10_init 14 = .ok (.putfield 13, 3) := by decide +kernel
theorem dX10_init_17 : decode cX10_init 17 = .ok (.aload_n 0, 1) := by decide +kernel
theorem dX10_init_18 : decode cX10_init 18 = .ok (.bipush 14, 2) := by decide +kernel
theorem dX10_init_20 : decode cX10_init 20 = .ok (.newarray .int, 2) := by decide +kernel
theorem dX10_init_22 : decode cX10_init 22 = .ok (.putfield 17, 3) := by decide +kernel
theorem dX10_init_25 : decode cX10_init 25 = .ok (.aload_n 0, 1) := by decide +kernel
theorem dX10_init_26 : decode cX10_init 26 = .ok (.bipush 14, 2) := by decide +kernel
theorem dX10_init_28 : decode cX10_init 28 = .ok (.newarray .int, 2) := by decide +kernel
theorem dX10_init_30 : decode cX10_init 30 = .ok (.putfield 20, 3) := by decide +kernel
theorem dX10_init_33 : decode cX10_init 33 = .ok (.aload_n 0, 1) := by decide +kernel
theorem dX10_init_34 : decode cX10_init 34 = .ok (.bipush 8, 2) := by decide +kernel
theorem dX10_init_36 : decode cX10_init 36 = .ok (.newarray .int, 2) := by decide +kernel
theorem dX10_init_38 : decode cX10_init 38 = .ok (.putfield 23, 3) := by decide +kernel
theorem dX10_init_41 : decode cX10_init 41 = .ok (.aload_n 0, 1) := by decide +kernel
theorem dX10_init_42 : decode cX10_init 42 = .ok (.bipush 11, 2) := by decide +kernel
theorem dX10_init_44 : decode cX10_init 44 = .ok (.newarray .int, 2) := by decide +kernel
theorem dX10_init_46 : decode cX10_init 46 = .ok (.putfield 26, 3) := by decide +kernel
theorem dX10_init_49 : decode cX10_init 49 = .ok (.aload_n 0, 1) := by decide +kernel
theorem dX10_init_50 : decode cX10_init 50 = .ok (.bipush 22, 2) := by decide +kernel
theorem dX10_init_52 : decode cX10_init 52 = .ok (.newarray .int, 2) := by decide +kernel
theorem dX10_init_54 : decode cX10_init 54 = .ok (.putfield 29, 3) := by decide +kernel
theorem dX10_init_57 : decode cX10_init 57 = .ok (.aload_n 0, 1) := by decide +kernel
theorem dX10_init_58 : decode cX10_init 58 = .ok (.sipush 154, 3) := by decide +kernel
theorem dX10_init_61 : decode cX10_init 61 = .ok (.newarray .int, 2) := by decide +kernel
theorem dX10_init_63 : decode cX10_init 63 = .ok (.putfield 32, 3) := by decide +kernel
theorem dX10_init_66 : decode cX10_init 66 = .ok (.aload_n 0, 1) := by decide +kernel
theorem dX10_init_67 : decode cX10_init 67 = .ok (.bipush 60, 2) := by decide +kernel
theorem dX10_init_69 : decode cX10_init 69 = .ok (.newarray .int, 2) := by decide +kernel
theorem dX10_init_71 : decode cX10_init 71 = .ok (.putfield 35, 3) := by decide +kernel
theorem dX10_init_74 : decode cX10_init 74 = .ok (.aload_n 0, 1) := by decide +kernel
theorem dX10_init_75 : decode cX10_init 75 = .ok (.sipush 301, 3) := by decide +kernel
theorem dX10_init_78 : decode cX10_init 78 = .ok (.newarray .int, 2) := by decide +kernel
theorem dX10_init_80 : decode cX10_init 80 = .ok (.putfield 38, 3) := by decide +kernel
theorem dX10_init_83 : decode cX10_init 83 = .ok (.aload_n 0, 1) := by decide +kernel
theorem dX10_init_84 : decode cX10_init 84 = .ok (.sipush 301, 3) := by decide +kernel
theorem dX10_init_87 : decode cX10_init 87 = .ok (.newarray .int, 2) := by decide +kernel
theorem dX10_init_89 : decode cX10_init 89 = .ok (.putfield 41, 3) := by decide +kernel
theorem dX10_init_92 : decode cX10_init 92 = .ok (.aload_n 0, 1) := by decide +kernel
theorem dX10_init_93 : decode cX10_init 93 = .ok (.sipush 301, 3) := by decide +kernel
theorem dX10_init_96 : decode cX10_init 96 = .ok (.newarray .int, 2) := by decide +kernel
theorem dX10_init_98 : decode cX10_init 98 = .ok (.putfield 44, 3) := by decide +kernel
theorem dX10_init_101 : decode cX10_init 101 = .ok (.aload_n 0, 1) := by decide +kernel
theorem dX10_init_102 : decode cX10_init 102 = .ok (.sipush 2107, 3) := by decide +kernel
theorem dX10_init_105 : decode cX10_init 105 = .ok (.newarray .int, 2) := by decide +kernel
theorem dX10_init_107 : decode cX10_init 107 = .ok (.putfield 47, 3) := by decide +kernel
theorem dX10_init_110 : decode cX10_init 110 = .ok (.aload_n 0, 1) := by decide +kernel
theorem dX10_init_111 : decode cX10_init 111 = .ok (.sipush 4214, 3) := by decide +kernel
theorem dX10_init_114 : decode cX10_init 114 = .ok (.newarray .int, 2) := by decide +kernel
theorem dX10_init_116 : decode cX10_init 116 = .ok (.putfield 50, 3) := by decide +kernel
theorem dX10_init_119 : decode cX10_init 119 = .ok (.aload_n 0, 1) := by decide +kernel
theorem dX10_init_120 : decode cX10_init 120 = .ok (.sipush 301, 3) := by decide +kernel
theorem dX10_init_123 : decode cX10_init 123 = .ok (.newarray .int, 2) := by decide +kernel
theorem dX10_init_125 : decode cX10_init 125 = .ok (.putfield 53, 3) := by decide +kernel
theorem dX10_init_128 : decode cX10_init 128 = .ok (.aload_n 0, 1) := by decide +kernel
theorem dX10_init_129 : decode cX10_init 129 = .ok (.sipush 301, 3) := by decide +kernel
theorem dX10_init_132 : decode cX10_init 132 = .ok (.newarray .int, 2) := by decide +kernel
theorem dX10_init_134 : decode cX10_init 134 = .ok (.putfield 56, 3) := by decide +kernel
theorem dX10_init_137 : decode cX10_init 137 = .ok (.aload_n 0, 1) := by decide +kernel
theorem dX10_init_138 : decode cX10_init 138 = .ok (.sipush 301, 3) := by decide +kernel
theorem dX10_init_141 : decode cX10_init 141 = .ok (.newarray .int, 2) := by decide +kernel
theorem dX10_init_143 : decode cX10_init 143 = .ok (.putfield 59, 3) := by decide +kernel
theorem dX10_init_146 : decode cX10_init 146 = .ok (.aload_n 0, 1) := by decide +kernel
theorem dX10_init_147 : decode cX10_init 147 = .ok (.bipush 14, 2) := by decide +kernel
theorem dX10_init_149 : decode cX10_init 149 = .ok (.newarray .int, 2) := by decide +kernel
theorem dX10_init_151 : decode cX10_init 151 = .ok (.putfield 62, 3) := by decide +kernel
theorem dX10_init_154 : decode cX10_init 154 = .ok (.aload_n 0, 1) := by decide +kernel
theorem dX10_init_155 : decode cX10_init 155 = .ok (.bipush 8, 2) := by decide +kernel
theorem dX10_init_157 : decode cX10_init 157 = .ok (.newarray .int, 2) := by decide +kernel
theorem dX10_init_159 : decode cX10_init 159 = .ok (.putfield 65, 3) := by decide +kernel
theorem dX10_init_162 : decode cX10_init 162 = .ok (.aload_n 0, 1) := by decide +kernel
theorem dX10_init_163 : decode cX10_init 163 = .ok (.iconst 2, 1) := by decide +kernel
theorem dX10_init_164 : decode cX10_init 164 = .ok (.invokevirtual 68, 3) := by decide +kernel
theorem dX10_init_167 : decode cX10_init 167 = .ok (.return_, 1) := by decide +kernel
theorem dX10_thrown_0 : decode cX10_thrown 0 = .ok (.aload_n 0, 1) := by decide +kernel
theorem dX10_thrown_1 : decode cX10_thrown 1 = .ok (.getfield 72, 3) := by decide +kernel
theorem dX10_thrown_4 : decode cX10_thrown 4 = .ok (.ireturn, 1) := by decide +kernel
theorem dX10_within_0 : decode cX10_within 0 = .ok (.iload_n 0, 1) := by decide +kernel
theorem dX10_within_1 : decode cX10_within 1 = .ok (.iload_n 1, 1) := by decide +kernel
theorem dX10_within_2 : decode cX10_within 2 = .ok (.if_icmp .lt 12, 3) := by decide +kernel
theorem dX10_within_5 : decode cX10_within 5 = .ok (.iload_n 0, 1) := by decide +kernel
theorem dX10_within_6 : decode cX10_within 6 = .ok (.iload_n 2, 1) := by decide +kernel
theorem dX10_within_7 : decode cX10_within 7 = .ok (.if_icmp .gt 7, 3) := by decide +kernel
theorem dX10_within_10 : decode cX10_within 10 = .ok (.iconst 1, 1) := by decide +kernel
theorem dX10_within_11 : decode cX10_within 11 = .ok (.goto 4, 3) := by decide +kernel
theorem dX10_within_14 : decode cX10_within 14 = .ok (.iconst 0, 1) := by decide +kernel
theorem dX10_within_15 : decode cX10_within 15 = .ok (.ireturn, 1) := by decide +kernel
theorem dX10_isObject_0 : decode cX10_isObject 0 = .ok (.iload_n 1, 1) := by decide +kernel
theorem dX10_isObject_1 : decode cX10_isObject 1 = .ok (.iconst 0, 1) := by decide +kernel
theorem dX10_isObject_2 : decode cX10_isObject 2 = .ok (.aload_n 0, 1) := by decide +kernel
theorem dX10_isObject_3 : decode cX10_isObject 3 = .ok (.getfield 7, 3) := by decide +kernel
theorem dX10_isObject_6 : decode cX10_isObject 6 = .ok (.iconst 1, 1) := by decide +kernel
theorem dX10_isObject_7 : decode cX10_isObject 7 = .ok (.isub, 1) := by decide +kernel
theorem dX10_isObject_8 : decode cX10_isObject 8 = .ok (.invokestatic 75, 3) := by decide +kernel
theorem dX10_isObject_11 : decode cX10_isObject 11 = .ok (.ireturn, 1) := by decide +kernel
theorem dX10_isArrow_0 : decode cX10_isArrow 0 = .ok (.iload_n 1, 1) := by decide +kernel
theorem dX10_isArrow_1 : decode cX10_isArrow 1 = .ok (.iconst 0, 1) := by decide +kernel
theorem dX10_isArrow_2 : decode cX10_isArrow 2 = .ok (.aload_n 0, 1) := by decide +kernel
theorem dX10_isArrow_3 : decode cX10_isArrow 3 = .ok (.getfield 79, 3) := by decide +kernel
theorem dX10_isArrow_6 : decode cX10_isArrow 6 = .ok (.iconst 1, 1) := by decide +kernel
theorem dX10_isArrow_7 : decode cX10_isArrow 7 = .ok (.isub, 1) := by decide +kernel
theorem dX10_isArrow_8 : decode cX10_isArrow 8 = .ok (.invokestatic 75, 3) := by decide +kernel
theorem dX10_isArrow_11 : decode cX10_isArrow 11 = .ok (.ireturn, 1) := by decide +kernel
theorem dX10_fresh_0 : decode cX10_fresh 0 = .ok (.aload_n 0, 1) := by decide +kernel
theorem dX10_fresh_1 : decode cX10_fresh 1 = .ok (.iload_n 1, 1) := by decide +kernel
theorem dX10_fresh_2 : decode cX10_fresh 2 = .ok (.putfield 7, 3) := by decide +kernel
theorem dX10_fresh_5 : decode cX10_fresh 5 = .ok (.aload_n 0, 1) := by decide +kernel
theorem dX10_fresh_6 : decode cX10_fresh 6 = .ok (.iconst 0, 1) := by decide +kernel
theorem dX10_fresh_7 : decode cX10_fresh 7 = .ok (.putfield 79, 3) := by decide +kernel
theorem dX10_fresh_10 : decode cX10_fresh 10 = .ok (.aload_n 0, 1) := by decide +kernel
theorem dX10_fresh_11 : decode cX10_fresh 11 = .ok (.iconst 0, 1) := by decide +kernel
theorem dX10_fresh_12 : decode cX10_fresh 12 = .ok (.putfield 82, 3) := by decide +kernel
theorem dX10_fresh_15 : decode cX10_fresh 15 = .ok (.iconst 0, 1) := by decide +kernel
theorem dX10_fresh_16 : decode cX10_fresh 16 = .ok (.istore_n 2, 1) := by decide +kernel
theorem dX10_fresh_17 : decode cX10_fresh 17 = .ok (.iload_n 2, 1) := by decide +kernel
theorem dX10_fresh_18 : decode cX10_fresh 18 = .ok (.bipush 8, 2) := by decide +kernel
theorem dX10_fresh_20 : decode cX10_fresh 20 = .ok (.if_icmp .ge 16, 3) := by decide +kernel
theorem dX10_fresh_23 : decode cX10_fresh 23 = .ok (.aload_n 0, 1) := by decide +kernel
theorem dX10_fresh_24 : decode cX10_fresh 24 = .ok (.getfield 23, 3) := by decide +kernel
theorem dX10_fresh_27 : decode cX10_fresh 27 = .ok (.iload_n 2, 1) := by decide +kernel
theorem dX10_fresh_28 : decode cX10_fresh 28 = .ok (.iconst 2, 1) := by decide +kernel
theorem dX10_fresh_29 : decode cX10_fresh 29 = .ok (.iastore, 1) := by decide +kernel
theorem dX10_fresh_30 : decode cX10_fresh 30 = .ok (.iinc 2 1, 3) := by decide +kernel
theorem dX10_fresh_33 : decode cX10_fresh 33 = .ok (.goto (-16), 3) := by decide +kernel
theorem dX10_fresh_36 : decode cX10_fresh 36 = .ok (.aload_n 0, 1) := by decide +kernel
theorem dX10_fresh_37 : decode cX10_fresh 37 = .ok (.invokevirtual 85, 3) := by decide +kernel
theorem dX10_fresh_40 : decode cX10_fresh 40 = .ok (.pop, 1) := by decide +kernel
theorem dX10_fresh_41 : decode cX10_fresh 41 = .ok (.return_, 1) := by decide +kernel
theorem dX10_putPath_0 : decode cX10_putPath 0 = .ok (.aload_n 0, 1) := by decide +kernel
theorem dX10_putPath_1 : decode cX10_putPath 1 = .ok (.getfield 38, 3) := by decide +kernel
theorem dX10_putPath_4 : decode cX10_putPath 4 = .ok (.aload_n 0, 1) := by decide +kernel
theorem dX10_putPath_5 : decode cX10_putPath 5 = .ok (.getfield 89, 3) := by decide +kernel
theorem dX10_putPath_8 : decode cX10_putPath 8 = .ok (.iload_n 1, 1) := by decide +kernel
theorem dX10_putPath_9 : decode cX10_putPath 9 = .ok (.iastore, 1) := by decide +kernel
theorem dX10_putPath_10 : decode cX10_putPath 10 = .ok (.aload_n 0, 1) := by decide +kernel
theorem dX10_putPath_11 : decode cX10_putPath 11 = .ok (.getfield 41, 3) := by decide +kernel
theorem dX10_putPath_14 : decode cX10_putPath 14 = .ok (.aload_n 0, 1) := by decide +kernel
theorem dX10_putPath_15 : decode cX10_putPath 15 = .ok (.getfield 89, 3) := by decide +kernel
theorem dX10_putPath_18 : decode cX10_putPath 18 = .ok (.iload_n 2, 1) := by decide +kernel
theorem dX10_putPath_19 : decode cX10_putPath 19 = .ok (.iastore, 1) := by decide +kernel
theorem dX10_putPath_20 : decode cX10_putPath 20 = .ok (.aload_n 0, 1) := by decide +kernel
theorem dX10_putPath_21 : decode cX10_putPath 21 = .ok (.getfield 44, 3) := by decide +kernel
theorem dX10_putPath_24 : decode cX10_putPath 24 = .ok (.aload_n 0, 1) := by decide +kernel
theorem dX10_putPath_25 : decode cX10_putPath 25 = .ok (.getfield 89, 3) := by decide +kernel
theorem dX10_putPath_28 : decode cX10_putPath 28 = .ok (.iload_n 3, 1) := by decide +kernel
theorem dX10_putPath_29 : decode cX10_putPath 29 = .ok (.iastore, 1) := by decide +kernel
theorem dX10_putPath_30 : decode cX10_putPath 30 = .ok (.iconst 0, 1) := by decide +kernel
theorem dX10_putPath_31 : decode cX10_putPath 31 = .ok (.istore 4, 2) := by decide +kernel
theorem dX10_putPath_33 : decode cX10_putPath 33 = .ok (.iload 4, 2) := by decide +kernel
theorem dX10_putPath_35 : decode cX10_putPath 35 = .ok (.bipush 14, 2) := by decide +kernel
theorem dX10_putPath_37 : decode cX10_putPath 37 = .ok (.if_icmp .ge 25, 3) := by decide +kernel
theorem dX10_putPath_40 : decode cX10_putPath 40 = .ok (.aload_n 0, 1) := by decide +kernel
theorem dX10_putPath_41 : decode cX10_putPath 41 = .ok (.getfield 50, 3) := by decide +kernel
theorem dX10_putPath_44 : decode cX10_putPath 44 = .ok (.bipush 14, 2) := by decide +kernel
theorem dX10_putPath_46 : decode cX10_putPath 46 = .ok (.aload_n 0, 1) := by decide +kernel
theorem dX10_putPath_47 : decode cX10_putPath 47 = .ok (.getfield 89, 3) := by decide +kernel
theorem dX10_putPath_50 : decode cX10_putPath 50 = .ok (.imul, 1) := by decide +kernel
theorem dX10_putPath_51 : decode cX10_putPath 51 = .ok (.iload 4, 2) := by decide +kernel
theorem dX10_putPath_53 : decode cX10_putPath 53 = .ok (.iadd, 1) := by decide +kernel
theorem dX10_putPath_54 : decode cX10_putPath 54 = .ok (.iconst (-1), 1) := by decide +kernel
theorem dX10_putPath_55 : decode cX10_putPath 55 = .ok (.iastore, 1) := by decide +kernel
theorem dX10_putPath_56 : decode cX10_putPath 56 = .ok (.iinc 4 1, 3) := by decide +kernel
theorem dX10_putPath_59 : decode cX10_putPath 59 = .ok (.goto (-26), 3) := by decide +kernel
theorem dX10_putPath_62 : decode cX10_putPath 62 = .ok (.aload_n 0, 1) := by decide +kernel
theorem dX10_putPath_63 : decode cX10_putPath 63 = .ok (.dup, 1) := by decide +kernel
theorem dX10_putPath_64 : decode cX10_putPath 64 = .ok (.getfield 89, 3) := by decide +kernel
theorem dX10_putPath_67 : decode cX10_putPath 67 = .ok (.iconst 1, 1) := by decide +kernel
theorem dX10_putPath_68 : decode cX10_putPath 68 = .ok (.iadd, 1) := by decide +kernel
theorem dX10_putPath_69 : decode cX10_putPath 69 = .ok (.putfield 89, 3) := by decide +kernel
theorem dX10_putPath_72 : decode cX10_putPath 72 = .ok (.return_, 1) := by decide +kernel
theorem dX10_goOn_0 : decode cX10_goOn 0 = .ok (.aload_n 0, 1) := by decide +kernel
theorem dX10_goOn_1 : decode cX10_goOn 1 = .ok (.getfield 89, 3) := by decide +kernel
theorem dX10_goOn_4 : decode cX10_goOn 4 = .ok (.istore_n 3, 1) := by decide +kernel
theorem dX10_goOn_5 : decode cX10_goOn 5 = .ok (.aload_n 0, 1) := by decide +kernel
theorem dX10_goOn_6 : decode cX10_goOn 6 = .ok (.aload_n 0, 1) := by decide +kernel
theorem dX10_goOn_7 : decode cX10_goOn 7 = .ok (.getfield 38, 3) := by decide +kernel
theorem dX10_goOn_10 : decode cX10_goOn 10 = .ok (.iload_n 1, 1) := by decide +kernel
theorem dX10_goOn_11 : decode cX10_goOn 11 = .ok (.iaload, 1) := by decide +kernel
theorem dX10_goOn_12 : decode cX10_goOn 12 = .ok (.aload_n 0, 1) := by decide +kernel
theorem dX10_goOn_13 : decode cX10_goOn 13 = .ok (.getfield 17, 3) := by decide +kernel
theorem dX10_goOn_16 : decode cX10_goOn 16 = .ok (.iload_n 2, 1) := by decide +kernel
theorem dX10_goOn_17 : decode cX10_goOn 17 = .ok (.iaload, 1) := by decide +kernel
theorem dX10_goOn_18 : decode cX10_goOn 18 = .ok (.aload_n 0, 1) := by decide +kernel
theorem dX10_goOn_19 : decode cX10_goOn 19 = .ok (.getfield 44, 3) := by decide +kernel
theorem dX10_goOn_22 : decode cX10_goOn 22 = .ok (.iload_n 1, 1) := by decide +kernel
theorem dX10_goOn_23 : decode cX10_goOn 23 = .ok (.iaload, 1) := by decide +kernel
theorem dX10_goOn_24 : decode cX10_goOn 24 = .ok (.iconst 1, 1) := by decide +kernel
theorem dX10_goOn_25 : decode cX10_goOn 25 = .ok (.iadd, 1) := by decide +kernel
theorem dX10_goOn_26 : decode cX10_goOn 26 = .ok (.invokevirtual 92, 3) := by decide +kernel
theorem dX10_goOn_29 : decode cX10_goOn 29 = .ok (.iconst 0, 1) := by decide +kernel
theorem dX10_goOn_30 : decode cX10_goOn 30 = .ok (.istore 4, 2) := by decide +kernel
theorem dX10_goOn_32 : decode cX10_goOn 32 = .ok (.iload 4, 2) := by decide +kernel
theorem dX10_goOn_34 : decode cX10_goOn 34 = .ok (.aload_n 0, 1) := by decide +kernel
theorem dX10_goOn_35 : decode cX10_goOn 35 = .ok (.getfield 44, 3) := by decide +kernel
theorem dX10_goOn_38 : decode cX10_goOn 38 = .ok (.iload_n 1, 1) := by decide +kernel
theorem dX10_goOn_39 : decode cX10_goOn 39 = .ok (.iaload, 1) := by decide +kernel
theorem dX10_goOn_40 : decode cX10_goOn 40 = .ok (.if_icmp .ge 33, 3) := by decide +kernel
theorem dX10_goOn_43 : decode cX10_goOn 43 = .ok (.aload_n 0, 1) := by decide +kernel
theorem dX10_goOn_44 : decode cX10_goOn 44 = .ok (.getfield 47, 3) := by decide +kernel
theorem dX10_goOn_47 : decode cX10_goOn 47 = .ok (.bipush 7, 2) := by decide +kernel
theorem dX10_goOn_49 : decode cX10_goOn 49 = .ok (.iload_n 3, 1) := by decide +kernel
theorem dX10_goOn_50 : decode cX10_goOn 50 = .ok (.imul, 1) := by decide +kernel
theorem dX10_goOn_51 : decode cX10_goOn 51 = .ok (.iload 4, 2) := by decide +kernel
theorem dX10_goOn_53 : decode cX10_goOn 53 = .ok (.iadd, 1) := by decide +kernel
theorem dX10_goOn_54 : decode cX10_goOn 54 = .ok (.aload_n 0, 1) := by decide +kernel
theorem dX10_goOn_55 : decode cX10_goOn 55 = .ok (.getfield 47, 3) := by decide +kernel
theorem dX10_goOn_58 : decode cX10_goOn 58 = .ok (.bipush 7, 2) := by decide +kernel
theorem dX10_goOn_60 : decode cX10_goOn 60 = .ok (.iload_n 1, 1) := by decide +kernel
theorem dX10_goOn_61 : decode cX10_goOn 61 = .ok (.imul, 1) := by decide +kernel
theorem dX10_goOn_62 : decode cX10_goOn 62 = .ok (.iload 4, 2) := by decide +kernel
theorem dX10_goOn_64 : decode cX10_goOn 64 = .ok (.iadd, 1) := by decide +kernel
theorem dX10_goOn_65 : decode cX10_goOn 65 = .ok (.iaload, 1) := by decide +kernel
theorem dX10_goOn_66 : decode cX10_goOn 66 = .ok (.iastore, 1) := by decide +kernel
theorem dX10_goOn_67 : decode cX10_goOn 67 = .ok (.iinc 4 1, 3) := by decide +kernel
theorem dX10_goOn_70 : decode cX10_goOn 70 = .ok (.goto (-38), 3) := by decide +kernel
theorem dX10_goOn_73 : decode cX10_goOn 73 = .ok (.aload_n 0, 1) := by decide +kernel
theorem dX10_goOn_74 : decode cX10_goOn 74 = .ok (.getfield 47, 3) := by decide +kernel
theorem dX10_goOn_77 : decode cX10_goOn 77 = .ok (.bipush 7, 2) := by decide +kernel
theorem dX10_goOn_79 : decode cX10_goOn 79 = .ok (.iload_n 3, 1) := by decide +kernel
theorem dX10_goOn_80 : decode cX10_goOn 80 = .ok (.imul, 1) := by decide +kernel
theorem dX10_goOn_81 : decode cX10_goOn 81 = .ok (.aload_n 0, 1) := by decide +kernel
theorem dX10_goOn_82 : decode cX10_goOn 82 = .ok (.getfield 44, 3) := by decide +kernel
theorem dX10_goOn_85 : decode cX10_goOn 85 = .ok (.iload_n 1, 1) := by decide +kernel
theorem dX10_goOn_86 : decode cX10_goOn 86 = .ok (.iaload, 1) := by decide +kernel
theorem dX10_goOn_87 : decode cX10_goOn 87 = .ok (.iadd, 1) := by decide +kernel
theorem dX10_goOn_88 : decode cX10_goOn 88 = .ok (.iload_n 2, 1) := by decide +kernel
theorem dX10_goOn_89 : decode cX10_goOn 89 = .ok (.iastore, 1) := by decide +kernel
theorem dX10_goOn_90 : decode cX10_goOn 90 = .ok (.aload_n 0, 1) := by decide +kernel
theorem dX10_goOn_91 : decode cX10_goOn 91 = .ok (.getfield 50, 3) := by decide +kernel
theorem dX10_goOn_94 : decode cX10_goOn 94 = .ok (.bipush 14, 2) := by decide +kernel
theorem dX10_goOn_96 : decode cX10_goOn 96 = .ok (.iload_n 1, 1) := by decide +kernel
theorem dX10_goOn_97 : decode cX10_goOn 97 = .ok (.imul, 1) := by decide +kernel
theorem dX10_goOn_98 : decode cX10_goOn 98 = .ok (.iload_n 2, 1) := by decide +kernel
theorem dX10_goOn_99 : decode cX10_goOn 99 = .ok (.iadd, 1) := by decide +kernel
theorem dX10_goOn_100 : decode cX10_goOn 100 = .ok (.iload_n 3, 1) := by decide +kernel
theorem dX10_goOn_101 : decode cX10_goOn 101 = .ok (.iastore, 1) := by decide +kernel
theorem dX10_goOn_102 : decode cX10_goOn 102 = .ok (.return_, 1) := by decide +kernel
theorem dX10_layPaths_0 : decode cX10_layPaths 0 = .ok (.aload_n 0, 1) := by decide +kernel
theorem dX10_layPaths_1 : decode cX10_layPaths 1 = .ok (.iconst 0, 1) := by decide +kernel
theorem dX10_layPaths_2 : decode cX10_layPaths 2 = .ok (.putfield 89, 3) := by decide +kernel
theorem dX10_layPaths_5 : decode cX10_layPaths 5 = .ok (.iconst 0, 1) := by decide +kernel
theorem dX10_layPaths_6 : decode cX10_layPaths 6 = .ok (.istore_n 1, 1) := by decide +kernel
theorem dX10_layPaths_7 : decode cX10_layPaths 7 = .ok (.iload_n 1, 1) := by decide +kernel
theorem dX10_layPaths_8 : decode cX10_layPaths 8 = .ok (.aload_n 0, 1) := by decide +kernel
theorem dX10_layPaths_9 : decode cX10_layPaths 9 = .ok (.getfield 7, 3) := by decide +kernel
theorem dX10_layPaths_12 : decode cX10_layPaths 12 = .ok (.if_icmp .ge 16, 3) := by decide +kernel
theorem dX10_layPaths_15 : decode cX10_layPaths 15 = .ok (.aload_n 0, 1) := by decide +kernel
theorem dX10_layPaths_16 : decode cX10_layPaths 16 = .ok (.iload_n 1, 1) := by decide +kernel
theorem dX10_layPaths_17 : decode cX10_layPaths 17 = .ok (.iload_n 1, 1) := by decide +kernel
theorem dX10_layPaths_18 : decode cX10_layPaths 18 = .ok (.iconst 0, 1) := by decide +kernel
theorem dX10_layPaths_19 : decode cX10_layPaths 19 = .ok (.invokevirtual 92, 3) := by decide +kernel
theorem dX10_layPaths_22 : decode cX10_layPaths 22 = .ok (.iinc 1 1, 3) := by decide +kernel
theorem dX10_layPaths_25 : decode cX10_layPaths 25 = .ok (.goto (-18), 3) := by decide +kernel
theorem dX10_layPaths_28 : decode cX10_layPaths 28 = .ok (.aload_n 0, 1) := by decide +kernel
theorem dX10_layPaths_29 : decode cX10_layPaths 29 = .ok (.getfield 89, 3) := by decide +kernel
theorem dX10_layPaths_32 : decode cX10_layPaths 32 = .ok (.istore_n 1, 1) := by decide +kernel
theorem dX10_layPaths_33 : decode cX10_layPaths 33 = .ok (.iconst 0, 1) := by decide +kernel
theorem dX10_layPaths_34 : decode cX10_layPaths 34 = .ok (.istore_n 2, 1) := by decide +kernel
theorem dX10_layPaths_35 : decode cX10_layPaths 35 = .ok (.iload_n 2, 1) := by decide +kernel
theorem dX10_layPaths_36 : decode cX10_layPaths 36 = .ok (.aload_n 0, 1) := by decide +kernel
theorem dX10_layPaths_37 : decode cX10_layPaths 37 = .ok (.getfield 79, 3) := by decide +kernel
theorem dX10_layPaths_40 : decode cX10_layPaths 40 = .ok (.if_icmp .ge 20, 3) := by decide +kernel
theorem dX10_layPaths_43 : decode cX10_layPaths 43 = .ok (.aload_n 0, 1) := by decide +kernel
theorem dX10_layPaths_44 : decode cX10_layPaths 44 = .ok (.aload_n 0, 1) := by decide +kernel
theorem dX10_layPaths_45 : decode cX10_layPaths 45 = .ok (.getfield 13, 3) := by decide +kernel
theorem dX10_layPaths_48 : decode cX10_layPaths 48 = .ok (.iload_n 2, 1) := by decide +kernel
theorem dX10_layPaths_49 : decode cX10_layPaths 49 = .ok (.iaload, 1) := by decide +kernel
theorem dX10_layPaths_50 : decode cX10_layPaths 50 = .ok (.iload_n 2, 1) := by decide +kernel
theorem dX10_layPaths_51 : decode cX10_layPaths 51 = .ok (.invokevirtual 96, 3) := by decide +kernel
theorem dX10_layPaths_54 : decode cX10_layPaths 54 = .ok (.iinc 2 1, 3) := by decide +kernel
theorem dX10_layPaths_57 : decode cX10_layPaths 57 = .ok (.goto (-22), 3) := by decide +kernel
theorem dX10_layPaths_60 : decode cX10_layPaths 60 = .ok (.iload_n 1, 1) := by decide +kernel
theorem dX10_layPaths_61 : decode cX10_layPaths 61 = .ok (.istore_n 2, 1) := by decide +kernel
theorem dX10_layPaths_62 : decode cX10_layPaths 62 = .ok (.iload_n 2, 1) := by decide +kernel
theorem dX10_layPaths_63 : decode cX10_layPaths 63 = .ok (.aload_n 0, 1) := by decide +kernel
theorem dX10_layPaths_64 : decode cX10_layPaths 64 = .ok (.getfield 89, 3) := by decide +kernel
theorem dX10_layPaths_67 : decode cX10_layPaths 67 = .ok (.if_icmp .ge 58, 3) := by decide +kernel
theorem dX10_layPaths_70 : decode cX10_layPaths 70 = .ok (.iconst 0, 1) := by decide +kernel
theorem dX10_layPaths_71 : decode cX10_layPaths 71 = .ok (.istore_n 3, 1) := by decide +kernel
theorem dX10_layPaths_72 : decode cX10_layPaths 72 = .ok (.iload_n 3, 1) := by decide +kernel
theorem dX10_layPaths_73 : decode cX10_layPaths 73 = .ok (.aload_n 0, 1) := by decide +kernel
theorem dX10_layPaths_74 : decode cX10_layPaths 74 = .ok (.getfield 79, 3) := by decide +kernel
theorem dX10_layPaths_77 : decode cX10_layPaths 77 = .ok (.if_icmp .ge 42, 3) := by decide +kernel
theorem dX10_layPaths_80 : decode cX10_layPaths 80 = .ok (.aload_n 0, 1) := by decide +kernel
theorem dX10_layPaths_81 : decode cX10_layPaths 81 = .ok (.getfield 13, 3) := by decide +kernel
theorem dX10_layPaths_84 : decode cX10_layPaths 84 = .ok (.iload_n 3, 1) := by decide +kernel
theorem dX10_layPaths_85 : decode cX10_layPaths 85 = .ok (.iaload, 1) := by decide +kernel
theorem dX10_layPaths_86 : decode cX10_layPaths 86 = .ok (.aload_n 0, 1) := by decide +kernel
theorem dX10_layPaths_87 : decode cX10_layPaths 87 = .ok (.getfield 41, 3) := by decide +kernel
theorem dX10_layPaths_90 : decode cX10_layPaths 90 = .ok (.iload_n 2, 1) := by decide +kernel
theorem dX10_layPaths_91 : decode cX10_layPaths 91 = .ok (.iaload, 1) := by decide +kernel
theorem dX10_layPaths_92 : decode cX10_layPaths 92 = .ok (.if_icmp .ne 21, 3) := by decide +kernel
theorem dX10_layPaths_95 : decode cX10_layPaths 95 = .ok (.aload_n 0, 1) := by decide +kernel
theorem dX10_layPaths_96 : decode cX10_layPaths 96 = .ok (.getfield 89, 3) := by decide +kernel
theorem dX10_layPaths_99 : decode cX10_layPaths 99 = .ok (.sipush 300, 3) := by decide +kernel
theorem dX10_layPaths_102 : decode cX10_layPaths 102 = .ok (.if_icmp .ne 5, 3) := by decide +kernel
theorem dX10_layPaths_105 : decode cX10_layPaths 105 = .ok (.iconst 0, 1) := by decide +kernel
theorem dX10_layPaths_106 : decode cX10_layPaths 106 = .ok (.ireturn, 1) := by decide +kernel
theorem dX10_layPaths_107 : decode cX10_layPaths 107 = .ok (.aload_n 0, 1) := by decide +kernel
theorem dX10_layPaths_108 : decode cX10_layPaths 108 = .ok (.iload_n 2, 1) := by decide +kernel
theorem dX10_layPaths_109 : decode cX10_layPaths 109 = .ok (.iload_n 3, 1) := by decide +kernel
theorem dX10_layPaths_110 : decode cX10_layPaths 110 = .ok (.invokevirtual 96, 3) := by decide +kernel
theorem dX10_layPaths_113 : decode cX10_layPaths 113 = .ok (.iinc 3 1, 3) := by decide +kernel
theorem dX10_layPaths_116 : decode cX10_layPaths 116 = .ok (.goto (-44), 3) := by decide +kernel
theorem dX10_layPaths_119 : decode cX10_layPaths 119 = .ok (.iinc 2 1, 3) := by decide +kernel
theorem dX10_layPaths_122 : decode cX10_layPaths 122 = .ok (.goto (-60), 3) := by decide +kernel
theorem dX10_layPaths_125 : decode cX10_layPaths 125 = .ok (.iconst 1, 1) := by decide +kernel
theorem dX10_layPaths_126 : decode cX10_layPaths 126 = .ok (.ireturn, 1) := by decide +kernel
theorem dX10_isPath_0 : decode cX10_isPath 0 = .ok (.iload_n 1, 1) := by decide +kernel
theorem dX10_isPath_1 : decode cX10_isPath 1 = .ok (.iconst 0, 1) := by decide +kernel
theorem dX10_isPath_2 : decode cX10_isPath 2 = .ok (.aload_n 0, 1) := by decide +kernel
theorem dX10_isPath_3 : decode cX10_isPath 3 = .ok (.getfield 89, 3) := by decide +kernel
theorem dX10_isPath_6 : decode cX10_isPath 6 = .ok (.iconst 1, 1) := by decide +kernel
theorem dX10_isPath_7 : decode cX10_isPath 7 = .ok (.isub, 1) := by decide +kernel
theorem dX10_isPath_8 : decode cX10_isPath 8 = .ok (.invokestatic 75, 3) := by decide +kernel
theorem dX10_isPath_11 : decode cX10_isPath 11 = .ok (.ireturn, 1) := by decide +kernel
theorem dX10_areParallel_0 : decode cX10_areParallel 0 = .ok (.aload_n 0, 1) := by decide +kernel
theorem dX10_areParallel_1 : decode cX10_areParallel 1 = .ok (.getfield 38, 3) := by decide +kernel
theorem dX10_areParallel_4 : decode cX10_areParallel 4 = .ok (.iload_n 1, 1) := by decide +kernel
theorem dX10_areParallel_5 : decode cX10_areParallel 5 = .ok (.iaload, 1) := by decide +kernel
theorem dX10_areParallel_6 : decode cX10_areParallel 6 = .ok (.aload_n 0, 1) := by decide +kernel
theorem dX10_areParallel_7 : decode cX10_areParallel 7 = .ok (.getfield 38, 3) := by decide +kernel
theorem dX10_areParallel_10 : decode cX10_areParallel 10 = .ok (.iload_n 2, 1) := by decide +kernel
theorem dX10_areParallel_11 : decode cX10_areParallel 11 = .ok (.iaload, 1) := by decide +kernel
theorem dX10_areParallel_12 : decode cX10_areParallel 12 = .ok (.if_icmp .ne 22, 3) := by decide +kernel
theorem dX10_areParallel_15 : decode cX10_areParallel 15 = .ok (.aload_n 0, 1) := by decide +kernel
theorem dX10_areParallel_16 : decode cX10_areParallel 16 = .ok (.getfield 41, 3) := by decide +kernel
theorem dX10_areParallel_19 : decode cX10_areParallel 19 = .ok (.iload_n 1, 1) := by decide +kernel
theorem dX10_areParallel_20 : decode cX10_areParallel 20 = .ok (.iaload, 1) := by decide +kernel
theorem dX10_areParallel_21 : decode cX10_areParallel 21 = .ok (.aload_n 0, 1) := by decide +kernel
theorem dX10_areParallel_22 : decode cX10_areParallel 22 = .ok (.getfield 41, 3) := by decide +kernel
theorem dX10_areParallel_25 : decode cX10_areParallel 25 = .ok (.iload_n 2, 1) := by decide +kernel
theorem dX10_areParallel_26 : decode cX10_areParallel 26 = .ok (.iaload, 1) := by decide +kernel
theorem dX10_areParallel_27 : decode cX10_areParallel 27 = .ok (.if_icmp .ne 7, 3) := by decide +kernel
theorem dX10_areParallel_30 : decode cX10_areParallel 30 = .ok (.iconst 1, 1) := by decide +kernel
theorem dX10_areParallel_31 : decode cX10_areParallel 31 = .ok (.goto 4, 3) := by decide +kernel
theorem dX10_areParallel_34 : decode cX10_areParallel 34 = .ok (.iconst 0, 1) := by decide +kernel
theorem dX10_areParallel_35 : decode cX10_areParallel 35 = .ok (.ireturn, 1) := by decide +kernel
theorem dX10_sideOf_0 : decode cX10_sideOf 0 = .ok (.aload_n 0, 1) := by decide +kernel
theorem dX10_sideOf_1 : decode cX10_sideOf 1 = .ok (.getfield 26, 3) := by decide +kernel
theorem dX10_sideOf_4 : decode cX10_sideOf 4 = .ok (.iload_n 1, 1) := by decide +kernel
theorem dX10_sideOf_5 : decode cX10_sideOf 5 = .ok (.iaload, 1) := by decide +kernel
theorem dX10_sideOf_6 : decode cX10_sideOf 6 = .ok (.istore_n 3, 1) := by decide +kernel
theorem dX10_sideOf_7 : decode cX10_sideOf 7 = .ok (.iconst 0, 1) := by decide +kernel
theorem dX10_sideOf_8 : decode cX10_sideOf 8 = .ok (.istore 4, 2) := by decide +kernel
theorem dX10_sideOf_10 : decode cX10_sideOf 10 = .ok (.iload 4, 2) := by decide +kernel
theorem dX10_sideOf_12 : decode cX10_sideOf 12 = .ok (.aload_n 0, 1) := by decide +kernel
theorem dX10_sideOf_13 : decode cX10_sideOf 13 = .ok (.getfield 29, 3) := by decide +kernel
theorem dX10_sideOf_16 : decode cX10_sideOf 16 = .ok (.iconst 2, 1) := by decide +kernel
theorem dX10_sideOf_17 : decode cX10_sideOf 17 = .ok (.iload_n 1, 1) := by decide +kernel
theorem dX10_sideOf_18 : decode cX10_sideOf 18 = .ok (.imul, 1) := by decide +kernel
theorem dX10_sideOf_19 : decode cX10_sideOf 19 = .ok (.iload_n 2, 1) := by decide +kernel
theorem dX10_sideOf_20 : decode cX10_sideOf 20 = .ok (.iadd, 1) := by decide +kernel
theorem dX10_sideOf_21 : decode cX10_sideOf 21 = .ok (.iaload, 1) := by decide +kernel
theorem dX10_sideOf_22 : decode cX10_sideOf 22 = .ok (.if_icmp .ge 36, 3) := by decide +kernel
theorem dX10_sideOf_25 : decode cX10_sideOf 25 = .ok (.aload_n 0, 1) := by decide +kernel
theorem dX10_sideOf_26 : decode cX10_sideOf 26 = .ok (.getfield 50, 3) := by decide +kernel
theorem dX10_sideOf_29 : decode cX10_sideOf 29 = .ok (.bipush 14, 2) := by decide +kernel
theorem dX10_sideOf_31 : decode cX10_sideOf 31 = .ok (.iload_n 3, 1) := by decide +kernel
theorem dX10_sideOf_32 : decode cX10_sideOf 32 = .ok (.imul, 1) := by decide +kernel
theorem dX10_sideOf_33 : decode cX10_sideOf 33 = .ok (.aload_n 0, 1) := by decide +kernel
theorem dX10_sideOf_34 : decode cX10_sideOf 34 = .ok (.getfield 32, 3) := by decide +kernel
theorem dX10_sideOf_37 : decode cX10_sideOf 37 = .ok (.bipush 7, 2) := by decide +kernel
theorem dX10_sideOf_39 : decode cX10_sideOf 39 = .ok (.iconst 2, 1) := by decide +kernel
theorem dX10_sideOf_40 : decode cX10_sideOf 40 = .ok (.iload_n 1, 1) := by decide +kernel
theorem dX10_sideOf_41 : decode cX10_sideOf 41 = .ok (.imul, 1) := by decide +kernel
theorem dX10_sideOf_42 : decode cX10_sideOf 42 = .ok (.iload_n 2, 1) := by decide +kernel
theorem dX10_sideOf_43 : decode cX10_sideOf 43 = .ok (.iadd, 1) := by decide +kernel
theorem dX10_sideOf_44 : decode cX10_sideOf 44 = .ok (.imul, 1) := by decide +kernel
theorem dX10_sideOf_45 : decode cX10_sideOf 45 = .ok (.iload 4, 2) := by decide +kernel
theorem dX10_sideOf_47 : decode cX10_sideOf 47 = .ok (.iadd, 1) := by decide +kernel
theorem dX10_sideOf_48 : decode cX10_sideOf 48 = .ok (.iaload, 1) := by decide +kernel
theorem dX10_sideOf_49 : decode cX10_sideOf 49 = .ok (.iadd, 1) := by decide +kernel
theorem dX10_sideOf_50 : decode cX10_sideOf 50 = .ok (.iaload, 1) := by decide +kernel
theorem dX10_sideOf_51 : decode cX10_sideOf 51 = .ok (.istore_n 3, 1) := by decide +kernel
theorem dX10_sideOf_52 : decode cX10_sideOf 52 = .ok (.iinc 4 1, 3) := by decide +kernel
theorem dX10_sideOf_55 : decode cX10_sideOf 55 = .ok (.goto (-45), 3) := by decide +kernel
theorem dX10_sideOf_58 : decode cX10_sideOf 58 = .ok (.iload_n 3, 1) := by decide +kernel
theorem dX10_sideOf_59 : decode cX10_sideOf 59 = .ok (.ireturn, 1) := by decide +kernel
theorem dX10_begin_0 : decode cX10_begin 0 = .ok (.aload_n 0, 1) := by decide +kernel
theorem dX10_begin_1 : decode cX10_begin 1 = .ok (.iload_n 1, 1) := by decide +kernel
theorem dX10_begin_2 : decode cX10_begin 2 = .ok (.iconst 2, 1) := by decide +kernel
theorem dX10_begin_3 : decode cX10_begin 3 = .ok (.bipush 8, 2) := by decide +kernel
theorem dX10_begin_5 : decode cX10_begin 5 = .ok (.invokestatic 75, 3) := by decide +kernel
theorem dX10_begin_8 : decode cX10_begin 8 = .ok (.ifCond .eq 7, 3) := by decide +kernel
theorem dX10_begin_11 : decode cX10_begin 11 = .ok (.iconst 0, 1) := by decide +kernel
theorem dX10_begin_12 : decode cX10_begin 12 = .ok (.goto 4, 3) := by decide +kernel
theorem dX10_begin_15 : decode cX10_begin 15 = .ok (.iconst 1, 1) := by decide +kernel
theorem dX10_begin_16 : decode cX10_begin 16 = .ok (.putfield 72, 3) := by decide +kernel
theorem dX10_begin_19 : decode cX10_begin 19 = .ok (.aload_n 0, 1) := by decide +kernel
theorem dX10_begin_20 : decode cX10_begin 20 = .ok (.getfield 72, 3) := by decide +kernel
theorem dX10_begin_23 : decode cX10_begin 23 = .ok (.ifCond .le 5, 3) := by decide +kernel
theorem dX10_begin_26 : decode cX10_begin 26 = .ok (.iconst 0, 1) := by decide +kernel
theorem dX10_begin_27 : decode cX10_begin 27 = .ok (.ireturn, 1) := by decide +kernel
theorem dX10_begin_28 : decode cX10_begin 28 = .ok (.aload_n 0, 1) := by decide +kernel
theorem dX10_begin_29 : decode cX10_begin 29 = .ok (.getfield 7, 3) := by decide +kernel
theorem dX10_begin_32 : decode cX10_begin 32 = .ok (.istore_n 2, 1) := by decide +kernel
theorem dX10_begin_33 : decode cX10_begin 33 = .ok (.aload_n 0, 1) := by decide +kernel
theorem dX10_begin_34 : decode cX10_begin 34 = .ok (.iload_n 1, 1) := by decide +kernel
theorem dX10_begin_35 : decode cX10_begin 35 = .ok (.invokevirtual 68, 3) := by decide +kernel
theorem dX10_begin_38 : decode cX10_begin 38 = .ok (.iload_n 2, 1) := by decide +kernel
theorem dX10_begin_39 : decode cX10_begin 39 = .ok (.ireturn, 1) := by decide +kernel
theorem dX10_putArrow_0 : decode cX10_putArrow 0 = .ok (.aload_n 0, 1) := by decide +kernel
theorem dX10_putArrow_1 : decode cX10_putArrow 1 = .ok (.getfield 13, 3) := by decide +kernel
theorem dX10_putArrow_4 : decode cX10_putArrow 4 = .ok (.aload_n 0, 1) := by decide +kernel
theorem dX10_putArrow_5 : decode cX10_putArrow 5 = .ok (.getfield 79, 3) := by decide +kernel
theorem dX10_putArrow_8 : decode cX10_putArrow 8 = .ok (.iload_n 1, 1) := by decide +kernel
theorem dX10_putArrow_9 : decode cX10_putArrow 9 = .ok (.iastore, 1) := by decide +kernel
theorem dX10_putArrow_10 : decode cX10_putArrow 10 = .ok (.aload_n 0, 1) := by decide +kernel
theorem dX10_putArrow_11 : decode cX10_putArrow 11 = .ok (.getfield 17, 3) := by decide +kernel
theorem dX10_putArrow_14 : decode cX10_putArrow 14 = .ok (.aload_n 0, 1) := by decide +kernel
theorem dX10_putArrow_15 : decode cX10_putArrow 15 = .ok (.getfield 79, 3) := by decide +kernel
theorem dX10_putArrow_18 : decode cX10_putArrow 18 = .ok (.iload_n 2, 1) := by decide +kernel
theorem dX10_putArrow_19 : decode cX10_putArrow 19 = .ok (.iastore, 1) := by decide +kernel
theorem dX10_putArrow_20 : decode cX10_putArrow 20 = .ok (.aload_n 0, 1) := by decide +kernel
theorem dX10_putArrow_21 : decode cX10_putArrow 21 = .ok (.getfield 20, 3) := by decide +kernel
theorem dX10_putArrow_24 : decode cX10_putArrow 24 = .ok (.aload_n 0, 1) := by decide +kernel
theorem dX10_putArrow_25 : decode cX10_putArrow 25 = .ok (.getfield 79, 3) := by decide +kernel
theorem dX10_putArrow_28 : decode cX10_putArrow 28 = .ok (.iconst 0, 1) := by decide +kernel
theorem dX10_putArrow_29 : decode cX10_putArrow 29 = .ok (.iastore, 1) := by decide +kernel
theorem dX10_putArrow_30 : decode cX10_putArrow 30 = .ok (.aload_n 0, 1) := by decide +kernel
theorem dX10_putArrow_31 : decode cX10_putArrow 31 = .ok (.dup, 1) := by decide +kernel
theorem dX10_putArrow_32 : decode cX10_putArrow 32 = .ok (.getfield 79, 3) := by decide +kernel
theorem dX10_putArrow_35 : decode cX10_putArrow 35 = .ok (.iconst 1, 1) := by decide +kernel
theorem dX10_putArrow_36 : decode cX10_putArrow 36 = .ok (.iadd, 1) := by decide +kernel
theorem dX10_putArrow_37 : decode cX10_putArrow 37 = .ok (.putfield 79, 3) := by decide +kernel
theorem dX10_putArrow_40 : decode cX10_putArrow 40 = .ok (.return_, 1) := by decide +kernel
theorem dX10_addArrow_0 : decode cX10_addArrow 0 = .ok (.aload_n 0, 1) := by decide +kernel
theorem dX10_addArrow_1 : decode cX10_addArrow 1 = .ok (.aload_n 0, 1) := by decide +kernel
theorem dX10_addArrow_2 : decode cX10_addArrow 2 = .ok (.iload_n 1, 1) := by decide +kernel
theorem dX10_addArrow_3 : decode cX10_addArrow 3 = .ok (.invokevirtual 100, 3) := by decide +kernel
theorem dX10_addArrow_6 : decode cX10_addArrow 6 = .ok (.ifCond .eq 11, 3) := by decide +kernel
theorem dX10_addArrow_9 : decode cX10_addArrow 9 = .ok (.aload_n 0, 1) := by decide +kernel
theorem dX10_addArrow_10 : decode cX10_addArrow 10 = .ok (.iload_n 2, 1) := by decide +kernel
theorem dX10_addArrow_11 : decode cX10_addArrow 11 = .ok (.invokevirtual 100, 3) := by decide +kernel
theorem dX10_addArrow_14 : decode cX10_addArrow 14 = .ok (.ifCond .ne 7, 3) := by decide +kernel
theorem dX10_addArrow_17 : decode cX10_addArrow 17 = .ok (.iconst 1, 1) := by decide +kernel
theorem dX10_addArrow_18 : decode cX10_addArrow 18 = .ok (.goto 26, 3) := by decide +kernel
theorem dX10_addArrow_21 : decode cX10_addArrow 21 = .ok (.iload_n 2, 1) := by decide +kernel
theorem dX10_addArrow_22 : decode cX10_addArrow 22 = .ok (.iload_n 1, 1) := by decide +kernel
theorem dX10_addArrow_23 : decode cX10_addArrow 23 = .ok (.if_icmp .gt 7, 3) := by decide +kernel
theorem dX10_addArrow_26 : decode cX10_addArrow 26 = .ok (.iconst 2, 1) := by decide +kernel
theorem dX10_addArrow_27 : decode cX10_addArrow 27 = .ok (.goto 17, 3) := by decide +kernel
theorem dX10_addArrow_30 : decode cX10_addArrow 30 = .ok (.aload_n 0, 1) := by decide +kernel
theorem dX10_addArrow_31 : decode cX10_addArrow 31 = .ok (.getfield 79, 3) := by decide +kernel
theorem dX10_addArrow_34 : decode cX10_addArrow 34 = .ok (.bipush 14, 2) := by decide +kernel
theorem dX10_addArrow_36 : decode cX10_addArrow 36 = .ok (.if_icmp .ne 7, 3) := by decide +kernel
theorem dX10_addArrow_39 : decode cX10_addArrow 39 = .ok (.iconst 3, 1) := by decide +kernel
theorem dX10_addArrow_40 : decode cX10_addArrow 40 = .ok (.goto 4, 3) := by decide +kernel
theorem dX10_addArrow_43 : decode cX10_addArrow 43 = .ok (.iconst 0, 1) := by decide +kernel
theorem dX10_addArrow_44 : decode cX10_addArrow 44 = .ok (.putfield 72, 3) := by decide +kernel
theorem dX10_addArrow_47 : decode cX10_addArrow 47 = .ok (.aload_n 0, 1) := by decide +kernel
theorem dX10_addArrow_48 : decode cX10_addArrow 48 = .ok (.getfield 72, 3) := by decide +kernel
theorem dX10_addArrow_51 : decode cX10_addArrow 51 = .ok (.ifCond .le 5, 3) := by decide +kernel
theorem dX10_addArrow_54 : decode cX10_addArrow 54 = .ok (.iconst 0, 1) := by decide +kernel
theorem dX10_addArrow_55 : decode cX10_addArrow 55 = .ok (.ireturn, 1) := by decide +kernel
theorem dX10_addArrow_56 : decode cX10_addArrow 56 = .ok (.aload_n 0, 1) := by decide +kernel
theorem dX10_addArrow_57 : decode cX10_addArrow 57 = .ok (.iload_n 1, 1) := by decide +kernel
theorem dX10_addArrow_58 : decode cX10_addArrow 58 = .ok (.iload_n 2, 1) := by decide +kernel
theorem dX10_addArrow_59 : decode cX10_addArrow 59 = .ok (.invokevirtual 104, 3) := by decide +kernel
theorem dX10_addArrow_62 : decode cX10_addArrow 62 = .ok (.aload_n 0, 1) := by decide +kernel
theorem dX10_addArrow_63 : decode cX10_addArrow 63 = .ok (.invokevirtual 85, 3) := by decide +kernel
theorem dX10_addArrow_66 : decode cX10_addArrow 66 = .ok (.ifCond .ne 25, 3) := by decide +kernel
theorem dX10_addArrow_69 : decode cX10_addArrow 69 = .ok (.aload_n 0, 1) := by decide +kernel
theorem dX10_addArrow_70 : decode cX10_addArrow 70 = .ok (.dup, 1) := by decide +kernel
theorem dX10_addArrow_71 : decode cX10_addArrow 71 = .ok (.getfield 79, 3) := by decide +kernel
theorem dX10_addArrow_74 : decode cX10_addArrow 74 = .ok (.iconst 1, 1) := by decide +kernel
theorem dX10_addArrow_75 : decode cX10_addArrow 75 = .ok (.isub, 1) := by decide +kernel
theorem dX10_addArrow_76 : decode cX10_addArrow 76 = .ok (.putfield 79, 3) := by decide +kernel
theorem dX10_addArrow_79 : decode cX10_addArrow 79 = .ok (.aload_n 0, 1) := by decide +kernel
theorem dX10_addArrow_80 : decode cX10_addArrow 80 = .ok (.invokevirtual 85, 3) := by decide +kernel
theorem dX10_addArrow_83 : decode cX10_addArrow 83 = .ok (.pop, 1) := by decide +kernel
theorem dX10_addArrow_84 : decode cX10_addArrow 84 = .ok (.aload_n 0, 1) := by decide +kernel
theorem dX10_addArrow_85 : decode cX10_addArrow 85 = .ok (.iconst 3, 1) := by decide +kernel
theorem dX10_addArrow_86 : decode cX10_addArrow 86 = .ok (.putfield 72, 3) := by decide +kernel
theorem dX10_addArrow_89 : decode cX10_addArrow 89 = .ok (.iconst 0, 1) := by decide +kernel
theorem dX10_addArrow_90 : decode cX10_addArrow 90 = .ok (.ireturn, 1) := by decide +kernel
theorem dX10_addArrow_91 : decode cX10_addArrow 91 = .ok (.aload_n 0, 1) := by decide +kernel
theorem dX10_addArrow_92 : decode cX10_addArrow 92 = .ok (.getfield 79, 3) := by decide +kernel
theorem dX10_addArrow_95 : decode cX10_addArrow 95 = .ok (.iconst 1, 1) := by decide +kernel
theorem dX10_addArrow_96 : decode cX10_addArrow 96 = .ok (.isub, 1) := by decide +kernel
theorem dX10_addArrow_97 : decode cX10_addArrow 97 = .ok (.ireturn, 1) := by decide +kernel
theorem dX10_removeCell_0 : decode cX10_removeCell 0 = .ok (.aload_n 0, 1) := by decide +kernel
theorem dX10_removeCell_1 : decode cX10_removeCell 1 = .ok (.dup, 1) := by decide +kernel
theorem dX10_removeCell_2 : decode cX10_removeCell 2 = .ok (.getfield 82, 3) := by decide +kernel
theorem dX10_removeCell_5 : decode cX10_removeCell 5 = .ok (.iconst 1, 1) := by decide +kernel
theorem dX10_removeCell_6 : decode cX10_removeCell 6 = .ok (.isub, 1) := by decide +kernel
theorem dX10_removeCell_7 : decode cX10_removeCell 7 = .ok (.putfield 82, 3) := by decide +kernel
theorem dX10_removeCell_10 : decode cX10_removeCell 10 = .ok (.iload_n 1, 1) := by decide +kernel
theorem dX10_removeCell_11 : decode cX10_removeCell 11 = .ok (.istore_n 2, 1) := by decide +kernel
theorem dX10_removeCell_12 : decode cX10_removeCell 12 = .ok (.iload_n 2, 1) := by decide +kernel
theorem dX10_removeCell_13 : decode cX10_removeCell 13 = .ok (.aload_n 0, 1) := by decide +kernel
theorem dX10_removeCell_14 : decode cX10_removeCell 14 = .ok (.getfield 82, 3) := by decide +kernel
theorem dX10_removeCell_17 : decode cX10_removeCell 17 = .ok (.if_icmp .ge 99, 3) := by decide +kernel
theorem dX10_removeCell_20 : decode cX10_removeCell 20 = .ok (.aload_n 0, 1) := by decide +kernel
theorem dX10_removeCell_21 : decode cX10_removeCell 21 = .ok (.getfield 26, 3) := by decide +kernel
theorem dX10_removeCell_24 : decode cX10_removeCell 24 = .ok (.iload_n 2, 1) := by decide +kernel
theorem dX10_removeCell_25 : decode cX10_removeCell 25 = .ok (.aload_n 0, 1) := by decide +kernel
theorem dX10_removeCell_26 : decode cX10_removeCell 26 = .ok (.getfield 26, 3) := by decide +kernel
theorem dX10_removeCell_29 : decode cX10_removeCell 29 = .ok (.iload_n 2, 1) := by decide +kernel
theorem dX10_removeCell_30 : decode cX10_removeCell 30 = .ok (.iconst 1, 1) := by decide +kernel
theorem dX10_removeCell_31 : decode cX10_removeCell 31 = .ok (.iadd, 1) := by decide +kernel
theorem dX10_removeCell_32 : decode cX10_removeCell 32 = .ok (.iaload, 1) := by decide +kernel
theorem dX10_removeCell_33 : decode cX10_removeCell 33 = .ok (.iastore, 1) := by decide +kernel
theorem dX10_removeCell_34 : decode cX10_removeCell 34 = .ok (.aload_n 0, 1) := by decide +kernel
theorem dX10_removeCell_35 : decode cX10_removeCell 35 = .ok (.getfield 29, 3) := by decide +kernel
theorem dX10_removeCell_38 : decode cX10_removeCell 38 = .ok (.iconst 2, 1) := by decide +kernel
theorem dX10_removeCell_39 : decode cX10_removeCell 39 = .ok (.iload_n 2, 1) := by decide +kernel
theorem dX10_removeCell_40 : decode cX10_removeCell 40 = .ok (.imul, 1) := by decide +kernel
theorem dX10_removeCell_41 : decode cX10_removeCell 41 = .ok (.aload_n 0, 1) := by decide +kernel
theorem dX10_removeCell_42 : decode cX10_removeCell 42 = .ok (.getfield 29, 3) := by decide +kernel
theorem dX10_removeCell_45 : decode cX10_removeCell 45 = .ok (.iconst 2, 1) := by decide +kernel
theorem dX10_removeCell_46 : decode cX10_removeCell 46 = .ok (.iload_n 2, 1) := by decide +kernel
theorem dX10_removeCell_47 : decode cX10_removeCell 47 = .ok (.imul, 1) := by decide +kernel
theorem dX10_removeCell_48 : decode cX10_removeCell 48 = .ok (.iconst 2, 1) := by decide +kernel
theorem dX10_removeCell_49 : decode cX10_removeCell 49 = .ok (.iadd, 1) := by decide +kernel
theorem dX10_removeCell_50 : decode cX10_removeCell 50 = .ok (.iaload, 1) := by decide +kernel
theorem dX10_removeCell_51 : decode cX10_removeCell 51 = .ok (.iastore, 1) := by decide +kernel
theorem dX10_removeCell_52 : decode cX10_removeCell 52 = .ok (.aload_n 0, 1) := by decide +kernel
theorem dX10_removeCell_53 : decode cX10_removeCell 53 = .ok (.getfield 29, 3) := by decide +kernel
theorem dX10_removeCell_56 : decode cX10_removeCell 56 = .ok (.iconst 2, 1) := by decide +kernel
theorem dX10_removeCell_57 : decode cX10_removeCell 57 = .ok (.iload_n 2, 1) := by decide +kernel
theorem dX10_removeCell_58 : decode cX10_removeCell 58 = .ok (.imul, 1) := by decide +kernel
theorem dX10_removeCell_59 : decode cX10_removeCell 59 = .ok (.iconst 1, 1) := by decide +kernel
theorem dX10_removeCell_60 : decode cX10_removeCell 60 = .ok (.iadd, 1) := by decide +kernel
theorem dX10_removeCell_61 : decode cX10_removeCell 61 = .ok (.aload_n 0, 1) := by decide +kernel
theorem dX10_removeCell_62 : decode cX10_removeCell 62 = .ok (.getfield 29, 3) := by decide +kernel
theorem dX10_removeCell_65 : decode cX10_removeCell 65 = .ok (.iconst 2, 1) := by decide +kernel
theorem dX10_removeCell_66 : decode cX10_removeCell 66 = .ok (.iload_n 2, 1) := by decide +kernel
theorem dX10_removeCell_67 : decode cX10_removeCell 67 = .ok (.imul, 1) := by decide +kernel
theorem dX10_removeCell_68 : decode cX10_removeCell 68 = .ok (.iconst 3, 1) := by decide +kernel
theorem dX10_removeCell_69 : decode cX10_removeCell 69 = .ok (.iadd, 1) := by decide +kernel
theorem dX10_removeCell_70 : decode cX10_removeCell 70 = .ok (.iaload, 1) := by decide +kernel
theorem dX10_removeCell_71 : decode cX10_removeCell 71 = .ok (.iastore, 1) := by decide +kernel
theorem dX10_removeCell_72 : decode cX10_removeCell 72 = .ok (.iconst 0, 1) := by decide +kernel
theorem dX10_removeCell_73 : decode cX10_removeCell 73 = .ok (.istore_n 3, 1) := by decide +kernel
theorem dX10_removeCell_74 : decode cX10_removeCell 74 = .ok (.iload_n 3, 1) := by decide +kernel
theorem dX10_removeCell_75 : decode cX10_removeCell 75 = .ok (.bipush 14, 2) := by decide +kernel
theorem dX10_removeCell_77 : decode cX10_removeCell 77 = .ok (.if_icmp .ge 33, 3) := by decide +kernel
theorem dX10_removeCell_80 : decode cX10_removeCell 80 = .ok (.aload_n 0, 1) := by decide +kernel
theorem dX10_removeCell_81 : decode cX10_removeCell 81 = .ok (.getfield 32, 3) := by decide +kernel
theorem dX10_removeCell_84 : decode cX10_removeCell 84 = .ok (.bipush 14, 2) := by decide +kernel
theorem dX10_removeCell_86 : decode cX10_removeCell 86 = .ok (.iload_n 2, 1) := by decide +kernel
theorem dX10_removeCell_87 : decode cX10_removeCell 87 = .ok (.imul, 1) := by decide +kernel
theorem dX10_removeCell_88 : decode cX10_removeCell 88 = .ok (.iload_n 3, 1) := by decide +kernel
theorem dX10_removeCell_89 : decode cX10_removeCell 89 = .ok (.iadd, 1) := by decide +kernel
theorem dX10_removeCell_90 : decode cX10_removeCell 90 = .ok (.aload_n 0, 1) := by decide +kernel
theorem dX10_removeCell_91 : decode cX10_removeCell 91 = .ok (.getfield 32, 3) := by decide +kernel
theorem dX10_removeCell_94 : decode cX10_removeCell 94 = .ok (.bipush 14, 2) := by decide +kernel
theorem dX10_removeCell_96 : decode cX10_removeCell 96 = .ok (.iload_n 2, 1) := by decide +kernel
theorem dX10_removeCell_97 : decode cX10_removeCell 97 = .ok (.iconst 1, 1) := by decide +kernel
theorem dX10_removeCell_98 : decode cX10_removeCell 98 = .ok (.iadd, 1) := by decide +kernel
theorem dX10_removeCell_99 : decode cX10_removeCell 99 = .ok (.imul, 1) := by decide +kernel
theorem dX10_removeCell_100 : decode cX10_removeCell 100 = .ok (.iload_n 3, 1) := by decide +kernel
theorem dX10_removeCell_101 : decode cX10_removeCell 101 = .ok (.iadd, 1) := by decide +kernel
theorem dX10_removeCell_102 : decode cX10_removeCell 102 = .ok (.iaload, 1) := by decide +kernel
theorem dX10_removeCell_103 : decode cX10_removeCell 103 = .ok (.iastore, 1) := by decide +kernel
theorem dX10_removeCell_104 : decode cX10_removeCell 104 = .ok (.iinc 3 1, 3) := by decide +kernel
theorem dX10_removeCell_107 : decode cX10_removeCell 107 = .ok (.goto (-33), 3) := by decide +kernel
theorem dX10_removeCell_110 : decode cX10_removeCell 110 = .ok (.iinc 2 1, 3) := by decide +kernel
theorem dX10_removeCell_113 : decode cX10_removeCell 113 = .ok (.goto (-101), 3) := by decide +kernel
theorem dX10_removeCell_116 : decode cX10_removeCell 116 = .ok (.return_, 1) := by decide +kernel
theorem dX10_hasLetter_0 : decode cX10_hasLetter 0 = .ok (.iconst 0, 1) := by decide +kernel
theorem dX10_hasLetter_1 : decode cX10_hasLetter 1 = .ok (.istore_n 3, 1) := by decide +kernel
theorem dX10_hasLetter_2 : decode cX10_hasLetter 2 = .ok (.iconst 0, 1) := by decide +kernel
theorem dX10_hasLetter_3 : decode cX10_hasLetter 3 = .ok (.istore 4, 2) := by decide +kernel
theorem dX10_hasLetter_5 : decode cX10_hasLetter 5 = .ok (.iload 4, 2) := by decide +kernel
theorem dX10_hasLetter_7 : decode cX10_hasLetter 7 = .ok (.iconst 2, 1) := by decide +kernel
theorem dX10_hasLetter_8 : decode cX10_hasLetter 8 = .ok (.if_icmp .ge 65, 3) := by decide +kernel
theorem dX10_hasLetter_11 : decode cX10_hasLetter 11 = .ok (.iconst 0, 1) := by decide +kernel
theorem dX10_hasLetter_12 : decode cX10_hasLetter 12 = .ok (.istore 5, 2) := by decide +kernel
theorem dX10_hasLetter_14 : decode cX10_hasLetter 14 = .ok (.iload 5, 2) := by decide +kernel
theorem dX10_hasLetter_16 : decode cX10_hasLetter 16 = .ok (.aload_n 0, 1) := by decide +kernel
theorem dX10_hasLetter_17 : decode cX10_hasLetter 17 = .ok (.getfield 29, 3) := by decide +kernel
theorem dX10_hasLetter_20 : decode cX10_hasLetter 20 = .ok (.iconst 2, 1) := by decide +kernel
theorem dX10_hasLetter_21 : decode cX10_hasLetter 21 = .ok (.iload_n 1, 1) := by decide +kernel
theorem dX10_hasLetter_22 : decode cX10_hasLetter 22 = .ok (.imul, 1) := by decide +kernel
theorem dX10_hasLetter_23 : decode cX10_hasLetter 23 = .ok (.iload 4, 2) := by decide +kernel
theorem dX10_hasLetter_25 : decode cX10_hasLetter 25 = .ok (.iadd, 1) := by decide +kernel
theorem dX10_hasLetter_26 : decode cX10_hasLetter 26 = .ok (.iaload, 1) := by decide +kernel
theorem dX10_hasLetter_27 : decode cX10_hasLetter 27 = .ok (.if_icmp .ge 40, 3) := by decide +kernel
theorem dX10_hasLetter_30 : decode cX10_hasLetter 30 = .ok (.iload_n 3, 1) := by decide +kernel
theorem dX10_hasLetter_31 : decode cX10_hasLetter 31 = .ok (.ifCond .ne 24, 3) := by decide +kernel
theorem dX10_hasLetter_34 : decode cX10_hasLetter 34 = .ok (.aload_n 0, 1) := by decide +kernel
theorem dX10_hasLetter_35 : decode cX10_hasLetter 35 = .ok (.getfield 32, 3) := by decide +kernel
theorem dX10_hasLetter_38 : decode cX10_hasLetter 38 = .ok (.bipush 7, 2) := by decide +kernel
theorem dX10_hasLetter_40 : decode cX10_hasLetter 40 = .ok (.iconst 2, 1) := by decide +kernel
theorem dX10_hasLetter_41 : decode cX10_hasLetter 41 = .ok (.iload_n 1, 1) := by decide +kernel
theorem dX10_hasLetter_42 : decode cX10_hasLetter 42 = .ok (.imul, 1) := by decide +kernel
theorem dX10_hasLetter_43 : decode cX10_hasLetter 43 = .ok (.iload 4, 2) := by decide +kernel
theorem dX10_hasLetter_45 : decode cX10_hasLetter 45 = .ok (.iadd, 1) := by decide +kernel
theorem dX10_hasLetter_46 : decode cX10_hasLetter 46 = .ok (.imul, 1) := by decide +kernel
theorem dX10_hasLetter_47 : decode cX10_hasLetter 47 = .ok (.iload 5, 2) := by decide +kernel
theorem dX10_hasLetter_49 : decode cX10_hasLetter 49 = .ok (.iadd, 1) := by decide +kernel
theorem dX10_hasLetter_50 : decode cX10_hasLetter 50 = .ok (.iaload, 1) := by decide +kernel
theorem dX10_hasLetter_51 : decode cX10_hasLetter 51 = .ok (.iload_n 2, 1) := by decide +kernel
theorem dX10_hasLetter_52 : decode cX10_hasLetter 52 = .ok (.if_icmp .ne 7, 3) := by decide +kernel
theorem dX10_hasLetter_55 : decode cX10_hasLetter 55 = .ok (.iconst 1, 1) := by decide +kernel
theorem dX10_hasLetter_56 : decode cX10_hasLetter 56 = .ok (.goto 4, 3) := by decide +kernel
theorem dX10_hasLetter_59 : decode cX10_hasLetter 59 = .ok (.iconst 0, 1) := by decide +kernel
theorem dX10_hasLetter_60 : decode cX10_hasLetter 60 = .ok (.istore_n 3, 1) := by decide +kernel
theorem dX10_hasLetter_61 : decode cX10_hasLetter 61 = .ok (.iinc 5 1, 3) := by decide +kernel
theorem dX10_hasLetter_64 : decode cX10_hasLetter 64 = .ok (.goto (-50), 3) := by decide +kernel
theorem dX10_hasLetter_67 : decode cX10_hasLetter 67 = .ok (.iinc 4 1, 3) := by decide +kernel
theorem dX10_hasLetter_70 : decode cX10_hasLetter 70 = .ok (.goto (-65), 3) := by decide +kernel
theorem dX10_hasLetter_73 : decode cX10_hasLetter 73 = .ok (.iload_n 3, 1) := by decide +kernel
theorem dX10_hasLetter_74 : decode cX10_hasLetter 74 = .ok (.ireturn, 1) := by decide +kernel
theorem dX10_dropArrow_0 : decode cX10_dropArrow 0 = .ok (.aload_n 0, 1) := by decide +kernel
theorem dX10_dropArrow_1 : decode cX10_dropArrow 1 = .ok (.aload_n 0, 1) := by decide +kernel
theorem dX10_dropArrow_2 : decode cX10_dropArrow 2 = .ok (.getfield 79, 3) := by decide +kernel
theorem dX10_dropArrow_5 : decode cX10_dropArrow 5 = .ok (.ifCond .le 7, 3) := by decide +kernel
theorem dX10_dropArrow_8 : decode cX10_dropArrow 8 = .ok (.iconst 0, 1) := by decide +kernel
theorem dX10_dropArrow_9 : decode cX10_dropArrow 9 = .ok (.goto 4, 3) := by decide +kernel
theorem dX10_dropArrow_12 : decode cX10_dropArrow 12 = .ok (.iconst 1, 1) := by decide +kernel
theorem dX10_dropArrow_13 : decode cX10_dropArrow 13 = .ok (.putfield 72, 3) := by decide +kernel
theorem dX10_dropArrow_16 : decode cX10_dropArrow 16 = .ok (.aload_n 0, 1) := by decide +kernel
theorem dX10_dropArrow_17 : decode cX10_dropArrow 17 = .ok (.getfield 72, 3) := by decide +kernel
theorem dX10_dropArrow_20 : decode cX10_dropArrow 20 = .ok (.ifCond .le 5, 3) := by decide +kernel
theorem dX10_dropArrow_23 : decode cX10_dropArrow 23 = .ok (.iconst 0, 1) := by decide +kernel
theorem dX10_dropArrow_24 : decode cX10_dropArrow 24 = .ok (.ireturn, 1) := by decide +kernel
theorem dX10_dropArrow_25 : decode cX10_dropArrow 25 = .ok (.aload_n 0, 1) := by decide +kernel
theorem dX10_dropArrow_26 : decode cX10_dropArrow 26 = .ok (.getfield 82, 3) := by decide +kernel
theorem dX10_dropArrow_29 : decode cX10_dropArrow 29 = .ok (.istore_n 1, 1) := by decide +kernel
theorem dX10_dropArrow_30 : decode cX10_dropArrow 30 = .ok (.aload_n 0, 1) := by decide +kernel
theorem dX10_dropArrow_31 : decode cX10_dropArrow 31 = .ok (.dup, 1) := by decide +kernel
theorem dX10_dropArrow_32 : decode cX10_dropArrow 32 = .ok (.getfield 79, 3) := by decide +kernel
theorem dX10_dropArrow_35 : decode cX10_dropArrow 35 = .ok (.iconst 1, 1) := by decide +kernel
theorem dX10_dropArrow_36 : decode cX10_dropArrow 36 = .ok (.isub, 1) := by decide +kernel
theorem dX10_dropArrow_37 : decode cX10_dropArrow 37 = .ok (.putfield 79, 3) := by decide +kernel
theorem dX10_dropArrow_40 : decode cX10_dropArrow 40 = .ok (.aload_n 0, 1) := by decide +kernel
theorem dX10_dropArrow_41 : decode cX10_dropArrow 41 = .ok (.getfield 82, 3) := by decide +kernel
theorem dX10_dropArrow_44 : decode cX10_dropArrow 44 = .ok (.iconst 1, 1) := by decide +kernel
theorem dX10_dropArrow_45 : decode cX10_dropArrow 45 = .ok (.isub, 1) := by decide +kernel
theorem dX10_dropArrow_46 : decode cX10_dropArrow 46 = .ok (.istore_n 2, 1) := by decide +kernel
theorem dX10_dropArrow_47 : decode cX10_dropArrow 47 = .ok (.iload_n 2, 1) := by decide +kernel
theorem dX10_dropArrow_48 : decode cX10_dropArrow 48 = .ok (.ifCond .lt 26, 3) := by decide +kernel
theorem dX10_dropArrow_51 : decode cX10_dropArrow 51 = .ok (.aload_n 0, 1) := by decide +kernel
theorem dX10_dropArrow_52 : decode cX10_dropArrow 52 = .ok (.iload_n 2, 1) := by decide +kernel
theorem dX10_dropArrow_53 : decode cX10_dropArrow 53 = .ok (.aload_n 0, 1) := by decide +kernel
theorem dX10_dropArrow_54 : decode cX10_dropArrow 54 = .ok (.getfield 79, 3) := by decide +kernel
theorem dX10_dropArrow_57 : decode cX10_dropArrow 57 = .ok (.invokevirtual 107, 3) := by decide +kernel
theorem dX10_dropArrow_60 : decode cX10_dropArrow 60 = .ok (.ifCond .eq 8, 3) := by decide +kernel
theorem dX10_dropArrow_63 : decode cX10_dropArrow 63 = .ok (.aload_n 0, 1) := by decide +kernel
theorem dX10_dropArrow_64 : decode cX10_dropArrow 64 = .ok (.iload_n 2, 1) := by decide +kernel
theorem dX10_dropArrow_65 : decode cX10_dropArrow 65 = .ok (.invokevirtual 111, 3) := by decide +kernel
theorem dX10_dropArrow_68 : decode cX10_dropArrow 68 = .ok (.iinc 2 (-1), 3) := by decide +kernel
theorem dX10_dropArrow_71 : decode cX10_dropArrow 71 = .ok (.goto (-24), 3) := by decide +kernel
theorem dX10_dropArrow_74 : decode cX10_dropArrow 74 = .ok (.aload_n 0, 1) := by decide +kernel
theorem dX10_dropArrow_75 : decode cX10_dropArrow 75 = .ok (.invokevirtual 85, 3) := by decide +kernel
theorem dX10_dropArrow_78 : decode cX10_dropArrow 78 = .ok (.pop, 1) := by decide +kernel
theorem dX10_dropArrow_79 : decode cX10_dropArrow 79 = .ok (.iload_n 1, 1) := by decide +kernel
theorem dX10_dropArrow_80 : decode cX10_dropArrow 80 = .ok (.aload_n 0, 1) := by decide +kernel
theorem dX10_dropArrow_81 : decode cX10_dropArrow 81 = .ok (.getfield 82, 3) := by decide +kernel
theorem dX10_dropArrow_84 : decode cX10_dropArrow 84 = .ok (.isub, 1) := by decide +kernel
theorem dX10_dropArrow_85 : decode cX10_dropArrow 85 = .ok (.ireturn, 1) := by decide +kernel
theorem dX10_putSide_0 : decode cX10_putSide 0 = .ok (.aload_n 0, 1) := by decide +kernel
theorem dX10_putSide_1 : decode cX10_putSide 1 = .ok (.getfield 29, 3) := by decide +kernel
theorem dX10_putSide_4 : decode cX10_putSide 4 = .ok (.iconst 2, 1) := by decide +kernel
theorem dX10_putSide_5 : decode cX10_putSide 5 = .ok (.aload_n 0, 1) := by decide +kernel
theorem dX10_putSide_6 : decode cX10_putSide 6 = .ok (.getfield 82, 3) := by decide +kernel
theorem dX10_putSide_9 : decode cX10_putSide 9 = .ok (.imul, 1) := by decide +kernel
theorem dX10_putSide_10 : decode cX10_putSide 10 = .ok (.iload_n 1, 1) := by decide +kernel
theorem dX10_putSide_11 : decode cX10_putSide 11 = .ok (.iadd, 1) := by decide +kernel
theorem dX10_putSide_12 : decode cX10_putSide 12 = .ok (.aload_n 0, 1) := by decide +kernel
theorem dX10_putSide_13 : decode cX10_putSide 13 = .ok (.getfield 44, 3) := by decide +kernel
theorem dX10_putSide_16 : decode cX10_putSide 16 = .ok (.iload_n 2, 1) := by decide +kernel
theorem dX10_putSide_17 : decode cX10_putSide 17 = .ok (.iaload, 1) := by decide +kernel
theorem dX10_putSide_18 : decode cX10_putSide 18 = .ok (.iastore, 1) := by decide +kernel
theorem dX10_putSide_19 : decode cX10_putSide 19 = .ok (.iconst 0, 1) := by decide +kernel
theorem dX10_putSide_20 : decode cX10_putSide 20 = .ok (.istore_n 3, 1) := by decide +kernel
theorem dX10_putSide_21 : decode cX10_putSide 21 = .ok (.iload_n 3, 1) := by decide +kernel
theorem dX10_putSide_22 : decode cX10_putSide 22 = .ok (.aload_n 0, 1) := by decide +kernel
theorem dX10_putSide_23 : decode cX10_putSide 23 = .ok (.getfield 44, 3) := by decide +kernel
theorem dX10_putSide_26 : decode cX10_putSide 26 = .ok (.iload_n 2, 1) := by decide +kernel
theorem dX10_putSide_27 : decode cX10_putSide 27 = .ok (.iaload, 1) := by decide +kernel
theorem dX10_putSide_28 : decode cX10_putSide 28 = .ok (.if_icmp .ge 38, 3) := by decide +kernel
theorem dX10_putSide_31 : decode cX10_putSide 31 = .ok (.aload_n 0, 1) := by decide +kernel
theorem dX10_putSide_32 : decode cX10_putSide 32 = .ok (.getfield 32, 3) := by decide +kernel
theorem dX10_putSide_35 : decode cX10_putSide 35 = .ok (.bipush 7, 2) := by decide +kernel
theorem dX10_putSide_37 : decode cX10_putSide 37 = .ok (.iconst 2, 1) := by decide +kernel
theorem dX10_putSide_38 : decode cX10_putSide 38 = .ok (.aload_n 0, 1) := by decide +kernel
theorem dX10_putSide_39 : decode cX10_putSide 39 = .ok (.getfield 82, 3) := by decide +kernel
theorem dX10_putSide_42 : decode cX10_putSide 42 = .ok (.imul, 1) := by decide +kernel
theorem dX10_putSide_43 : decode cX10_putSide 43 = .ok (.iload_n 1, 1) := by decide +kernel
theorem dX10_putSide_44 : decode cX10_putSide 44 = .ok (.iadd, 1) := by decide +kernel
theorem dX10_putSide_45 : decode cX10_putSide 45 = .ok (.imul, 1) := by decide +kernel
theorem dX10_putSide_46 : decode cX10_putSide 46 = .ok (.iload_n 3, 1) := by decide +kernel
theorem dX10_putSide_47 : decode cX10_putSide 47 = .ok (.iadd, 1) := by decide +kernel
theorem dX10_putSide_48 : decode cX10_putSide 48 = .ok (.aload_n 0, 1) := by decide +kernel
theorem dX10_putSide_49 : decode cX10_putSide 49 = .ok (.getfield 47, 3) := by decide +kernel
theorem dX10_putSide_52 : decode cX10_putSide 52 = .ok (.bipush 7, 2) := by decide +kernel
theorem dX10_putSide_54 : decode cX10_putSide 54 = .ok (.iload_n 2, 1) := by decide +kernel
theorem dX10_putSide_55 : decode cX10_putSide 55 = .ok (.imul, 1) := by decide +kernel
theorem dX10_putSide_56 : decode cX10_putSide 56 = .ok (.iload_n 3, 1) := by decide +kernel
theorem dX10_putSide_57 : decode cX10_putSide 57 = .ok (.iadd, 1) := by decide +kernel
theorem dX10_putSide_58 : decode cX10_putSide 58 = .ok (.iaload, 1) := by decide +kernel
theorem dX10_putSide_59 : decode cX10_putSide 59 = .ok (.iastore, 1) := by decide +kernel
theorem dX10_putSide_60 : decode cX10_putSide 60 = .ok (.iinc 3 1, 3) := by decide +kernel
theorem dX10_putSide_63 : decode cX10_putSide 63 = .ok (.goto (-42), 3) := by decide +kernel
theorem dX10_putSide_66 : decode cX10_putSide 66 = .ok (.return_, 1) := by decide +kernel
theorem dX10_addCell_0 : decode cX10_addCell 0 = .ok (.aload_n 0, 1) := by decide +kernel
theorem dX10_addCell_1 : decode cX10_addCell 1 = .ok (.iload_n 1, 1) := by decide +kernel
theorem dX10_addCell_2 : decode cX10_addCell 2 = .ok (.invokevirtual 114, 3) := by decide +kernel
theorem dX10_addCell_5 : decode cX10_addCell 5 = .ok (.ifCond .eq 15, 3) := by decide +kernel
theorem dX10_addCell_8 : decode cX10_addCell 8 = .ok (.aload_n 0, 1) := by decide +kernel
theorem dX10_addCell_9 : decode cX10_addCell 9 = .ok (.iload_n 2, 1) := by decide +kernel
theorem dX10_addCell_10 : decode cX10_addCell 10 = .ok (.invokevirtual 114, 3) := by decide +kernel
theorem dX10_addCell_13 : decode cX10_addCell 13 = .ok (.ifCond .eq 7, 3) := by decide +kernel
theorem dX10_addCell_16 : decode cX10_addCell 16 = .ok (.iconst 1, 1) := by decide +kernel
theorem dX10_addCell_17 : decode cX10_addCell 17 = .ok (.goto 4, 3) := by decide +kernel
theorem dX10_addCell_20 : decode cX10_addCell 20 = .ok (.iconst 0, 1) := by decide +kernel
theorem dX10_addCell_21 : decode cX10_addCell 21 = .ok (.istore_n 3, 1) := by decide +kernel
theorem dX10_addCell_22 : decode cX10_addCell 22 = .ok (.aload_n 0, 1) := by decide +kernel
theorem dX10_addCell_23 : decode cX10_addCell 23 = .ok (.iload_n 3, 1) := by decide +kernel
theorem dX10_addCell_24 : decode cX10_addCell 24 = .ok (.ifCond .ne 7, 3) := by decide +kernel
theorem dX10_addCell_27 : decode cX10_addCell 27 = .ok (.iconst 1, 1) := by decide +kernel
theorem dX10_addCell_28 : decode cX10_addCell 28 = .ok (.goto 30, 3) := by decide +kernel
theorem dX10_addCell_31 : decode cX10_addCell 31 = .ok (.aload_n 0, 1) := by decide +kernel
theorem dX10_addCell_32 : decode cX10_addCell 32 = .ok (.iload_n 1, 1) := by decide +kernel
theorem dX10_addCell_33 : decode cX10_addCell 33 = .ok (.iload_n 2, 1) := by decide +kernel
theorem dX10_addCell_34 : decode cX10_addCell 34 = .ok (.invokevirtual 117, 3) := by decide +kernel
theorem dX10_addCell_37 : decode cX10_addCell 37 = .ok (.ifCond .ne 7, 3) := by decide +kernel
theorem dX10_addCell_40 : decode cX10_addCell 40 = .ok (.iconst 2, 1) := by decide +kernel
theorem dX10_addCell_41 : decode cX10_addCell 41 = .ok (.goto 17, 3) := by decide +kernel
theorem dX10_addCell_44 : decode cX10_addCell 44 = .ok (.aload_n 0, 1) := by decide +kernel
theorem dX10_addCell_45 : decode cX10_addCell 45 = .ok (.getfield 82, 3) := by decide +kernel
theorem dX10_addCell_48 : decode cX10_addCell 48 = .ok (.bipush 10, 2) := by decide +kernel
theorem dX10_addCell_50 : decode cX10_addCell 50 = .ok (.if_icmp .ne 7, 3) := by decide +kernel
theorem dX10_addCell_53 : decode cX10_addCell 53 = .ok (.iconst 3, 1) := by decide +kernel
theorem dX10_addCell_54 : decode cX10_addCell 54 = .ok (.goto 4, 3) := by decide +kernel
theorem dX10_addCell_57 : decode cX10_addCell 57 = .ok (.iconst 0, 1) := by decide +kernel
theorem dX10_addCell_58 : decode cX10_addCell 58 = .ok (.putfield 72, 3) := by decide +kernel
theorem dX10_addCell_61 : decode cX10_addCell 61 = .ok (.aload_n 0, 1) := by decide +kernel
theorem dX10_addCell_62 : decode cX10_addCell 62 = .ok (.getfield 72, 3) := by decide +kernel
theorem dX10_addCell_65 : decode cX10_addCell 65 = .ok (.ifCond .le 5, 3) := by decide +kernel
theorem dX10_addCell_68 : decode cX10_addCell 68 = .ok (.iconst 0, 1) := by decide +kernel
theorem dX10_addCell_69 : decode cX10_addCell 69 = .ok (.ireturn, 1) := by decide +kernel
theorem dX10_addCell_70 : decode cX10_addCell 70 = .ok (.aload_n 0, 1) := by decide +kernel
theorem dX10_addCell_71 : decode cX10_addCell 71 = .ok (.getfield 26, 3) := by decide +kernel
theorem dX10_addCell_74 : decode cX10_addCell 74 = .ok (.aload_n 0, 1) := by decide +kernel
theorem dX10_addCell_75 : decode cX10_addCell 75 = .ok (.getfield 82, 3) := by decide +kernel
theorem dX10_addCell_78 : decode cX10_addCell 78 = .ok (.aload_n 0, 1) := by decide +kernel
theorem dX10_addCell_79 : decode cX10_addCell 79 = .ok (.getfield 38, 3) := by decide +kernel
theorem dX10_addCell_82 : decode cX10_addCell 82 = .ok (.iload_n 1, 1) := by decide +kernel
theorem dX10_addCell_83 : decode cX10_addCell 83 = .ok (.iaload, 1) := by decide +kernel
theorem dX10_addCell_84 : decode cX10_addCell 84 = .ok (.iastore, 1) := by decide +kernel
theorem dX10_addCell_85 : decode cX10_addCell 85 = .ok (.aload_n 0, 1) := by decide +kernel
theorem dX10_addCell_86 : decode cX10_addCell 86 = .ok (.iconst 0, 1) := by decide +kernel
theorem dX10_addCell_87 : decode cX10_addCell 87 = .ok (.iload_n 1, 1) := by decide +kernel
theorem dX10_addCell_88 : decode cX10_addCell 88 = .ok (.invokevirtual 120, 3) := by decide +kernel
theorem dX10_addCell_91 : decode cX10_addCell 91 = .ok (.aload_n 0, 1) := by decide +kernel
theorem dX10_addCell_92 : decode cX10_addCell 92 = .ok (.iconst 1, 1) := by decide +kernel
theorem dX10_addCell_93 : decode cX10_addCell 93 = .ok (.iload_n 2, 1) := by decide +kernel
theorem dX10_addCell_94 : decode cX10_addCell 94 = .ok (.invokevirtual 120, 3) := by decide +kernel
theorem dX10_addCell_97 : decode cX10_addCell 97 = .ok (.aload_n 0, 1) := by decide +kernel
theorem dX10_addCell_98 : decode cX10_addCell 98 = .ok (.dup, 1) := by decide +kernel
theorem dX10_addCell_99 : decode cX10_addCell 99 = .ok (.getfield 82, 3) := by decide +kernel
theorem dX10_addCell_102 : decode cX10_addCell 102 = .ok (.iconst 1, 1) := by decide +kernel
theorem dX10_addCell_103 : decode cX10_addCell 103 = .ok (.iadd, 1) := by decide +kernel
theorem dX10_addCell_104 : decode cX10_addCell 104 = .ok (.putfield 82, 3) := by decide +kernel
theorem dX10_addCell_107 : decode cX10_addCell 107 = .ok (.aload_n 0, 1) := by decide +kernel
theorem dX10_addCell_108 : decode cX10_addCell 108 = .ok (.getfield 82, 3) := by decide +kernel
theorem dX10_addCell_111 : decode cX10_addCell 111 = .ok (.iconst 1, 1) := by decide +kernel
theorem dX10_addCell_112 : decode cX10_addCell 112 = .ok (.isub, 1) := by decide +kernel
theorem dX10_addCell_113 : decode cX10_addCell 113 = .ok (.ireturn, 1) := by decide +kernel
theorem dX10_isCell_0 : decode cX10_isCell 0 = .ok (.iload_n 1, 1) := by decide +kernel
theorem dX10_isCell_1 : decode cX10_isCell 1 = .ok (.iconst 0, 1) := by decide +kernel
theorem dX10_isCell_2 : decode cX10_isCell 2 = .ok (.aload_n 0, 1) := by decide +kernel
theorem dX10_isCell_3 : decode cX10_isCell 3 = .ok (.getfield 82, 3) := by decide +kernel
theorem dX10_isCell_6 : decode cX10_isCell 6 = .ok (.iconst 1, 1) := by decide +kernel
theorem dX10_isCell_7 : decode cX10_isCell 7 = .ok (.isub, 1) := by decide +kernel
theorem dX10_isCell_8 : decode cX10_isCell 8 = .ok (.invokestatic 75, 3) := by decide +kernel
theorem dX10_isCell_11 : decode cX10_isCell 11 = .ok (.ireturn, 1) := by decide +kernel
theorem dX10_dropCell_0 : decode cX10_dropCell 0 = .ok (.aload_n 0, 1) := by decide +kernel
theorem dX10_dropCell_1 : decode cX10_dropCell 1 = .ok (.aload_n 0, 1) := by decide +kernel
theorem dX10_dropCell_2 : decode cX10_dropCell 2 = .ok (.iload_n 1, 1) := by decide +kernel
theorem dX10_dropCell_3 : decode cX10_dropCell 3 = .ok (.invokevirtual 123, 3) := by decide +kernel
theorem dX10_dropCell_6 : decode cX10_dropCell 6 = .ok (.ifCond .eq 7, 3) := by decide +kernel
theorem dX10_dropCell_9 : decode cX10_dropCell 9 = .ok (.iconst 0, 1) := by decide +kernel
theorem dX10_dropCell_10 : decode cX10_dropCell 10 = .ok (.goto 4, 3) := by decide +kernel
theorem dX10_dropCell_13 : decode cX10_dropCell 13 = .ok (.iconst 1, 1) := by decide +kernel
theorem dX10_dropCell_14 : decode cX10_dropCell 14 = .ok (.putfield 72, 3) := by decide +kernel
theorem dX10_dropCell_17 : decode cX10_dropCell 17 = .ok (.aload_n 0, 1) := by decide +kernel
theorem dX10_dropCell_18 : decode cX10_dropCell 18 = .ok (.getfield 72, 3) := by decide +kernel
theorem dX10_dropCell_21 : decode cX10_dropCell 21 = .ok (.ifCond .le 5, 3) := by decide +kernel
theorem dX10_dropCell_24 : decode cX10_dropCell 24 = .ok (.iconst 0, 1) := by decide +kernel
theorem dX10_dropCell_25 : decode cX10_dropCell 25 = .ok (.ireturn, 1) := by decide +kernel
theorem dX10_dropCell_26 : decode cX10_dropCell 26 = .ok (.aload_n 0, 1) := by decide +kernel
theorem dX10_dropCell_27 : decode cX10_dropCell 27 = .ok (.iload_n 1, 1) := by decide +kernel
theorem dX10_dropCell_28 : decode cX10_dropCell 28 = .ok (.invokevirtual 111, 3) := by decide +kernel
theorem dX10_dropCell_31 : decode cX10_dropCell 31 = .ok (.aload_n 0, 1) := by decide +kernel
theorem dX10_dropCell_32 : decode cX10_dropCell 32 = .ok (.getfield 82, 3) := by decide +kernel
theorem dX10_dropCell_35 : decode cX10_dropCell 35 = .ok (.ireturn, 1) := by decide +kernel
theorem dX10_append_0 : decode cX10_append 0 = .ok (.aload_n 0, 1) := by decide +kernel
theorem dX10_append_1 : decode cX10_append 1 = .ok (.iload_n 1, 1) := by decide +kernel
theorem dX10_append_2 : decode cX10_append 2 = .ok (.bipush 32, 2) := by decide +kernel
theorem dX10_append_4 : decode cX10_append 4 = .ok (.bipush 126, 2) := by decide +kernel
theorem dX10_append_6 : decode cX10_append 6 = .ok (.invokestatic 75, 3) := by decide +kernel
theorem dX10_append_9 : decode cX10_append 9 = .ok (.ifCond .ne 7, 3) := by decide +kernel
theorem dX10_append_12 : decode cX10_append 12 = .ok (.iconst 1, 1) := by decide +kernel
theorem dX10_append_13 : decode cX10_append 13 = .ok (.goto 17, 3) := by decide +kernel
theorem dX10_append_16 : decode cX10_append 16 = .ok (.aload_n 0, 1) := by decide +kernel
theorem dX10_append_17 : decode cX10_append 17 = .ok (.getfield 126, 3) := by decide +kernel
theorem dX10_append_20 : decode cX10_append 20 = .ok (.bipush 60, 2) := by decide +kernel
theorem dX10_append_22 : decode cX10_append 22 = .ok (.if_icmp .ne 7, 3) := by decide +kernel
theorem dX10_append_25 : decode cX10_append 25 = .ok (.iconst 2, 1) := by decide +kernel
theorem dX10_append_26 : decode cX10_append 26 = .ok (.goto 4, 3) := by decide +kernel
theorem dX10_append_29 : decode cX10_append 29 = .ok (.iconst 0, 1) := by decide +kernel
theorem dX10_append_30 : decode cX10_append 30 = .ok (.putfield 72, 3) := by decide +kernel
theorem dX10_append_33 : decode cX10_append 33 = .ok (.aload_n 0, 1) := by decide +kernel
theorem dX10_append_34 : decode cX10_append 34 = .ok (.getfield 72, 3) := by decide +kernel
theorem dX10_append_37 : decode cX10_append 37 = .ok (.ifCond .le 5, 3) := by decide +kernel
theorem dX10_append_40 : decode cX10_append 40 = .ok (.iconst 0, 1) := by decide +kernel
theorem dX10_append_41 : decode cX10_append 41 = .ok (.ireturn, 1) := by decide +kernel
theorem dX10_append_42 : decode cX10_append 42 = .ok (.aload_n 0, 1) := by decide +kernel
theorem dX10_append_43 : decode cX10_append 43 = .ok (.getfield 35, 3) := by decide +kernel
theorem dX10_append_46 : decode cX10_append 46 = .ok (.aload_n 0, 1) := by decide +kernel
theorem dX10_append_47 : decode cX10_append 47 = .ok (.getfield 126, 3) := by decide +kernel
theorem dX10_append_50 : decode cX10_append 50 = .ok (.iload_n 1, 1) := by decide +kernel
theorem dX10_append_51 : decode cX10_append 51 = .ok (.iastore, 1) := by decide +kernel
theorem dX10_append_52 : decode cX10_append 52 = .ok (.aload_n 0, 1) := by decide +kernel
theorem dX10_append_53 : decode cX10_append 53 = .ok (.dup, 1) := by decide +kernel
theorem dX10_append_54 : decode cX10_append 54 = .ok (.getfield 126, 3) := by decide +kernel
theorem dX10_append_57 : decode cX10_append 57 = .ok (.iconst 1, 1) := by decide +kernel
theorem dX10_append_58 : decode cX10_append 58 = .ok (.iadd, 1) := by decide +kernel
theorem dX10_append_59 : decode cX10_append 59 = .ok (.putfield 126, 3) := by decide +kernel
theorem dX10_append_62 : decode cX10_append 62 = .ok (.aload_n 0, 1) := by decide +kernel
theorem dX10_append_63 : decode cX10_append 63 = .ok (.getfield 126, 3) := by decide +kernel
theorem dX10_append_66 : decode cX10_append 66 = .ok (.ireturn, 1) := by decide +kernel
theorem dX10_clearInput_0 : decode cX10_clearInput 0 = .ok (.aload_n 0, 1) := by decide +kernel
theorem dX10_clearInput_1 : decode cX10_clearInput 1 = .ok (.iconst 0, 1) := by decide +kernel
theorem dX10_clearInput_2 : decode cX10_clearInput 2 = .ok (.putfield 72, 3) := by decide +kernel
theorem dX10_clearInput_5 : decode cX10_clearInput 5 = .ok (.aload_n 0, 1) := by decide +kernel
theorem dX10_clearInput_6 : decode cX10_clearInput 6 = .ok (.getfield 126, 3) := by decide +kernel
theorem dX10_clearInput_9 : decode cX10_clearInput 9 = .ok (.istore_n 1, 1) := by decide +kernel
theorem dX10_clearInput_10 : decode cX10_clearInput 10 = .ok (.aload_n 0, 1) := by decide +kernel
theorem dX10_clearInput_11 : decode cX10_clearInput 11 = .ok (.iconst 0, 1) := by decide +kernel
theorem dX10_clearInput_12 : decode cX10_clearInput 12 = .ok (.putfield 126, 3) := by decide +kernel
theorem dX10_clearInput_15 : decode cX10_clearInput 15 = .ok (.iload_n 1, 1) := by decide +kernel
theorem dX10_clearInput_16 : decode cX10_clearInput 16 = .ok (.ireturn, 1) := by decide +kernel
theorem dX10_takesDigit_0 : decode cX10_takesDigit 0 = .ok (.aload_n 0, 1) := by decide +kernel
theorem dX10_takesDigit_1 : decode cX10_takesDigit 1 = .ok (.getfield 129, 3) := by decide +kernel
theorem dX10_takesDigit_4 : decode cX10_takesDigit 4 = .ok (.ifCond .ne 70, 3) := by decide +kernel
theorem dX10_takesDigit_7 : decode cX10_takesDigit 7 = .ok (.aload_n 0, 1) := by decide +kernel
theorem dX10_takesDigit_8 : decode cX10_takesDigit 8 = .ok (.getfield 79, 3) := by decide +kernel
theorem dX10_takesDigit_11 : decode cX10_takesDigit 11 = .ok (.aload_n 0, 1) := by decide +kernel
theorem dX10_takesDigit_12 : decode cX10_takesDigit 12 = .ok (.getfield 132, 3) := by decide +kernel
theorem dX10_takesDigit_15 : decode cX10_takesDigit 15 = .ok (.iadd, 1) := by decide +kernel
theorem dX10_takesDigit_16 : decode cX10_takesDigit 16 = .ok (.bipush 14, 2) := by decide +kernel
theorem dX10_takesDigit_18 : decode cX10_takesDigit 18 = .ok (.if_icmp .ge 25, 3) := by decide +kernel
theorem dX10_takesDigit_21 : decode cX10_takesDigit 21 = .ok (.iload_n 1, 1) := by decide +kernel
theorem dX10_takesDigit_22 : decode cX10_takesDigit 22 = .ok (.bipush 48, 2) := by decide +kernel
theorem dX10_takesDigit_24 : decode cX10_takesDigit 24 = .ok (.bipush 48, 2) := by decide +kernel
theorem dX10_takesDigit_26 : decode cX10_takesDigit 26 = .ok (.aload_n 0, 1) := by decide +kernel
theorem dX10_takesDigit_27 : decode cX10_takesDigit 27 = .ok (.getfield 7, 3) := by decide +kernel
theorem dX10_takesDigit_30 : decode cX10_takesDigit 30 = .ok (.iadd, 1) := by decide +kernel
theorem dX10_takesDigit_31 : decode cX10_takesDigit 31 = .ok (.iconst 2, 1) := by decide +kernel
theorem dX10_takesDigit_32 : decode cX10_takesDigit 32 = .ok (.isub, 1) := by decide +kernel
theorem dX10_takesDigit_33 : decode cX10_takesDigit 33 = .ok (.invokestatic 75, 3) := by decide +kernel
theorem dX10_takesDigit_36 : decode cX10_takesDigit 36 = .ok (.ifCond .eq 7, 3) := by decide +kernel
theorem dX10_takesDigit_39 : decode cX10_takesDigit 39 = .ok (.iconst 1, 1) := by decide +kernel
theorem dX10_takesDigit_40 : decode cX10_takesDigit 40 = .ok (.goto 4, 3) := by decide +kernel
theorem dX10_takesDigit_43 : decode cX10_takesDigit 43 = .ok (.iconst 0, 1) := by decide +kernel
theorem dX10_takesDigit_44 : decode cX10_takesDigit 44 = .ok (.istore_n 2, 1) := by decide +kernel
theorem dX10_takesDigit_45 : decode cX10_takesDigit 45 = .ok (.iload_n 2, 1) := by decide +kernel
theorem dX10_takesDigit_46 : decode cX10_takesDigit 46 = .ok (.ifCond .eq 26, 3) := by decide +kernel
theorem dX10_takesDigit_49 : decode cX10_takesDigit 49 = .ok (.aload_n 0, 1) := by decide +kernel
theorem dX10_takesDigit_50 : decode cX10_takesDigit 50 = .ok (.getfield 13, 3) := by decide +kernel
theorem dX10_takesDigit_53 : decode cX10_takesDigit 53 = .ok (.aload_n 0, 1) := by decide +kernel
theorem dX10_takesDigit_54 : decode cX10_takesDigit 54 = .ok (.getfield 79, 3) := by decide +kernel
theorem dX10_takesDigit_57 : decode cX10_takesDigit 57 = .ok (.aload_n 0, 1) := by decide +kernel
theorem dX10_takesDigit_58 : decode cX10_takesDigit 58 = .ok (.getfield 132, 3) := by decide +kernel
theorem dX10_takesDigit_61 : decode cX10_takesDigit 61 = .ok (.iadd, 1) := by decide +kernel
theorem dX10_takesDigit_62 : decode cX10_takesDigit 62 = .ok (.iload_n 1, 1) := by decide +kernel
theorem dX10_takesDigit_63 : decode cX10_takesDigit 63 = .ok (.bipush 48, 2) := by decide +kernel
theorem dX10_takesDigit_65 : decode cX10_takesDigit 65 = .ok (.isub, 1) := by decide +kernel
theorem dX10_takesDigit_66 : decode cX10_takesDigit 66 = .ok (.iastore, 1) := by decide +kernel
theorem dX10_takesDigit_67 : decode cX10_takesDigit 67 = .ok (.aload_n 0, 1) := by decide +kernel
theorem dX10_takesDigit_68 : decode cX10_takesDigit 68 = .ok (.iconst 1, 1) := by decide +kernel
theorem dX10_takesDigit_69 : decode cX10_takesDigit 69 = .ok (.putfield 129, 3) := by decide +kernel
theorem dX10_takesDigit_72 : decode cX10_takesDigit 72 = .ok (.iload_n 2, 1) := by decide +kernel
theorem dX10_takesDigit_73 : decode cX10_takesDigit 73 = .ok (.ireturn, 1) := by decide +kernel
theorem dX10_takesDigit_74 : decode cX10_takesDigit 74 = .ok (.iload_n 1, 1) := by decide +kernel
theorem dX10_takesDigit_75 : decode cX10_takesDigit 75 = .ok (.bipush 49, 2) := by decide +kernel
theorem dX10_takesDigit_77 : decode cX10_takesDigit 77 = .ok (.aload_n 0, 1) := by decide +kernel
theorem dX10_takesDigit_78 : decode cX10_takesDigit 78 = .ok (.getfield 13, 3) := by decide +kernel
theorem dX10_takesDigit_81 : decode cX10_takesDigit 81 = .ok (.aload_n 0, 1) := by decide +kernel
theorem dX10_takesDigit_82 : decode cX10_takesDigit 82 = .ok (.getfield 79, 3) := by decide +kernel
theorem dX10_takesDigit_85 : decode cX10_takesDigit 85 = .ok (.aload_n 0, 1) := by decide +kernel
theorem dX10_takesDigit_86 : decode cX10_takesDigit 86 = .ok (.getfield 132, 3) := by decide +kernel
theorem dX10_takesDigit_89 : decode cX10_takesDigit 89 = .ok (.iadd, 1) := by decide +kernel
theorem dX10_takesDigit_90 : decode cX10_takesDigit 90 = .ok (.iaload, 1) := by decide +kernel
theorem dX10_takesDigit_91 : decode cX10_takesDigit 91 = .ok (.iadd, 1) := by decide +kernel
theorem dX10_takesDigit_92 : decode cX10_takesDigit 92 = .ok (.bipush 48, 2) := by decide +kernel
theorem dX10_takesDigit_94 : decode cX10_takesDigit 94 = .ok (.aload_n 0, 1) := by decide +kernel
theorem dX10_takesDigit_95 : decode cX10_takesDigit 95 = .ok (.getfield 7, 3) := by decide +kernel
theorem dX10_takesDigit_98 : decode cX10_takesDigit 98 = .ok (.iadd, 1) := by decide +kernel
theorem dX10_takesDigit_99 : decode cX10_takesDigit 99 = .ok (.iconst 1, 1) := by decide +kernel
theorem dX10_takesDigit_100 : decode cX10_takesDigit 100 = .ok (.isub, 1) := by decide +kernel
theorem dX10_takesDigit_101 : decode cX10_takesDigit 101 = .ok (.invokestatic 75, 3) := by decide +kernel
theorem dX10_takesDigit_104 : decode cX10_takesDigit 104 = .ok (.istore_n 2, 1) := by decide +kernel
theorem dX10_takesDigit_105 : decode cX10_takesDigit 105 = .ok (.iload_n 2, 1) := by decide +kernel
theorem dX10_takesDigit_106 : decode cX10_takesDigit 106 = .ok (.ifCond .eq 36, 3) := by decide +kernel
theorem dX10_takesDigit_109 : decode cX10_takesDigit 109 = .ok (.aload_n 0, 1) := by decide +kernel
theorem dX10_takesDigit_110 : decode cX10_takesDigit 110 = .ok (.getfield 17, 3) := by decide +kernel
theorem dX10_takesDigit_113 : decode cX10_takesDigit 113 = .ok (.aload_n 0, 1) := by decide +kernel
theorem dX10_takesDigit_114 : decode cX10_takesDigit 114 = .ok (.getfield 79, 3) := by decide +kernel
theorem dX10_takesDigit_117 : decode cX10_takesDigit 117 = .ok (.aload_n 0, 1) := by decide +kernel
theorem dX10_takesDigit_118 : decode cX10_takesDigit 118 = .ok (.getfield 132, 3) := by decide +kernel
theorem dX10_takesDigit_121 : decode cX10_takesDigit 121 = .ok (.iadd, 1) := by decide +kernel
theorem dX10_takesDigit_122 : decode cX10_takesDigit 122 = .ok (.iload_n 1, 1) := by decide +kernel
theorem dX10_takesDigit_123 : decode cX10_takesDigit 123 = .ok (.bipush 48, 2) := by decide +kernel
theorem dX10_takesDigit_125 : decode cX10_takesDigit 125 = .ok (.isub, 1) := by decide +kernel
theorem dX10_takesDigit_126 : decode cX10_takesDigit 126 = .ok (.iastore, 1) := by decide +kernel
theorem dX10_takesDigit_127 : decode cX10_takesDigit 127 = .ok (.aload_n 0, 1) := by decide +kernel
theorem dX10_takesDigit_128 : decode cX10_takesDigit 128 = .ok (.dup, 1) := by decide +kernel
theorem dX10_takesDigit_129 : decode cX10_takesDigit 129 = .ok (.getfield 132, 3) := by decide +kernel
theorem dX10_takesDigit_132 : decode cX10_takesDigit 132 = .ok (.iconst 1, 1) := by decide +kernel
theorem dX10_takesDigit_133 : decode cX10_takesDigit 133 = .ok (.iadd, 1) := by decide +kernel
theorem dX10_takesDigit_134 : decode cX10_takesDigit 134 = .ok (.putfield 132, 3) := by decide +kernel
theorem dX10_takesDigit_137 : decode cX10_takesDigit 137 = .ok (.aload_n 0, 1) := by decide +kernel
theorem dX10_takesDigit_138 : decode cX10_takesDigit 138 = .ok (.iconst 2, 1) := by decide +kernel
theorem dX10_takesDigit_139 : decode cX10_takesDigit 139 = .ok (.putfield 129, 3) := by decide +kernel
theorem dX10_takesDigit_142 : decode cX10_takesDigit 142 = .ok (.iload_n 2, 1) := by decide +kernel
theorem dX10_takesDigit_143 : decode cX10_takesDigit 143 = .ok (.ireturn, 1) := by decide +kernel
theorem dX10_putLetter_0 : decode cX10_putLetter 0 = .ok (.iconst 2, 1) := by decide +kernel
theorem dX10_putLetter_1 : decode cX10_putLetter 1 = .ok (.aload_n 0, 1) := by decide +kernel
theorem dX10_putLetter_2 : decode cX10_putLetter 2 = .ok (.getfield 82, 3) := by decide +kernel
theorem dX10_putLetter_5 : decode cX10_putLetter 5 = .ok (.aload_n 0, 1) := by decide +kernel
theorem dX10_putLetter_6 : decode cX10_putLetter 6 = .ok (.getfield 135, 3) := by decide +kernel
theorem dX10_putLetter_9 : decode cX10_putLetter 9 = .ok (.iadd, 1) := by decide +kernel
theorem dX10_putLetter_10 : decode cX10_putLetter 10 = .ok (.imul, 1) := by decide +kernel
theorem dX10_putLetter_11 : decode cX10_putLetter 11 = .ok (.iload_n 1, 1) := by decide +kernel
theorem dX10_putLetter_12 : decode cX10_putLetter 12 = .ok (.iadd, 1) := by decide +kernel
theorem dX10_putLetter_13 : decode cX10_putLetter 13 = .ok (.istore_n 3, 1) := by decide +kernel
theorem dX10_putLetter_14 : decode cX10_putLetter 14 = .ok (.aload_n 0, 1) := by decide +kernel
theorem dX10_putLetter_15 : decode cX10_putLetter 15 = .ok (.getfield 32, 3) := by decide +kernel
theorem dX10_putLetter_18 : decode cX10_putLetter 18 = .ok (.bipush 7, 2) := by decide +kernel
theorem dX10_putLetter_20 : decode cX10_putLetter 20 = .ok (.iload_n 3, 1) := by decide +kernel
theorem dX10_putLetter_21 : decode cX10_putLetter 21 = .ok (.imul, 1) := by decide +kernel
theorem dX10_putLetter_22 : decode cX10_putLetter 22 = .ok (.aload_n 0, 1) := by decide +kernel
theorem dX10_putLetter_23 : decode cX10_putLetter 23 = .ok (.getfield 29, 3) := by decide +kernel
theorem dX10_putLetter_26 : decode cX10_putLetter 26 = .ok (.iload_n 3, 1) := by decide +kernel
theorem dX10_putLetter_27 : decode cX10_putLetter 27 = .ok (.iaload, 1) := by decide +kernel
theorem dX10_putLetter_28 : decode cX10_putLetter 28 = .ok (.iadd, 1) := by decide +kernel
theorem dX10_putLetter_29 : decode cX10_putLetter 29 = .ok (.iload_n 2, 1) := by decide +kernel
theorem dX10_putLetter_30 : decode cX10_putLetter 30 = .ok (.iastore, 1) := by decide +kernel
theorem dX10_putLetter_31 : decode cX10_putLetter 31 = .ok (.aload_n 0, 1) := by decide +kernel
theorem dX10_putLetter_32 : decode cX10_putLetter 32 = .ok (.getfield 29, 3) := by decide +kernel
theorem dX10_putLetter_35 : decode cX10_putLetter 35 = .ok (.iload_n 3, 1) := by decide +kernel
theorem dX10_putLetter_36 : decode cX10_putLetter 36 = .ok (.dup2, 1) := by decide +kernel
theorem dX10_putLetter_37 : decode cX10_putLetter 37 = .ok (.iaload, 1) := by decide +kernel
theorem dX10_putLetter_38 : decode cX10_putLetter 38 = .ok (.iconst 1, 1) := by decide +kernel
theorem dX10_putLetter_39 : decode cX10_putLetter 39 = .ok (.iadd, 1) := by decide +kernel
theorem dX10_putLetter_40 : decode cX10_putLetter 40 = .ok (.iastore, 1) := by decide +kernel
theorem dX10_putLetter_41 : decode cX10_putLetter 41 = .ok (.aload_n 0, 1) := by decide +kernel
theorem dX10_putLetter_42 : decode cX10_putLetter 42 = .ok (.aload_n 0, 1) := by decide +kernel
theorem dX10_putLetter_43 : decode cX10_putLetter 43 = .ok (.getfield 17, 3) := by decide +kernel
theorem dX10_putLetter_46 : decode cX10_putLetter 46 = .ok (.iload_n 2, 1) := by decide +kernel
theorem dX10_putLetter_47 : decode cX10_putLetter 47 = .ok (.iaload, 1) := by decide +kernel
theorem dX10_putLetter_48 : decode cX10_putLetter 48 = .ok (.putfield 138, 3) := by decide +kernel
theorem dX10_putLetter_51 : decode cX10_putLetter 51 = .ok (.return_, 1) := by decide +kernel
theorem dX10_takesLetter_0 : decode cX10_takesLetter 0 = .ok (.iload_n 1, 1) := by decide +kernel
theorem dX10_takesLetter_1 : decode cX10_takesLetter 1 = .ok (.bipush 97, 2) := by decide +kernel
theorem dX10_takesLetter_3 : decode cX10_takesLetter 3 = .ok (.isub, 1) := by decide +kernel
theorem dX10_takesLetter_4 : decode cX10_takesLetter 4 = .ok (.istore_n 2, 1) := by decide +kernel
theorem dX10_takesLetter_5 : decode cX10_takesLetter 5 = .ok (.iload_n 2, 1) := by decide +kernel
theorem dX10_takesLetter_6 : decode cX10_takesLetter 6 = .ok (.iconst 0, 1) := by decide +kernel
theorem dX10_takesLetter_7 : decode cX10_takesLetter 7 = .ok (.aload_n 0, 1) := by decide +kernel
theorem dX10_takesLetter_8 : decode cX10_takesLetter 8 = .ok (.getfield 79, 3) := by decide +kernel
theorem dX10_takesLetter_11 : decode cX10_takesLetter 11 = .ok (.aload_n 0, 1) := by decide +kernel
theorem dX10_takesLetter_12 : decode cX10_takesLetter 12 = .ok (.getfield 132, 3) := by decide +kernel
theorem dX10_takesLetter_15 : decode cX10_takesLetter 15 = .ok (.iadd, 1) := by decide +kernel
theorem dX10_takesLetter_16 : decode cX10_takesLetter 16 = .ok (.iconst 1, 1) := by decide +kernel
theorem dX10_takesLetter_17 : decode cX10_takesLetter 17 = .ok (.isub, 1) := by decide +kernel
theorem dX10_takesLetter_18 : decode cX10_takesLetter 18 = .ok (.invokestatic 75, 3) := by decide +kernel
theorem dX10_takesLetter_21 : decode cX10_takesLetter 21 = .ok (.istore_n 3, 1) := by decide +kernel
theorem dX10_takesLetter_22 : decode cX10_takesLetter 22 = .ok (.aload_n 0, 1) := by decide +kernel
theorem dX10_takesLetter_23 : decode cX10_takesLetter 23 = .ok (.getfield 129, 3) := by decide +kernel
theorem dX10_takesLetter_26 : decode cX10_takesLetter 26 = .ok (.ifCond .ne 100, 3) := by decide +kernel
theorem dX10_takesLetter_29 : decode cX10_takesLetter 29 = .ok (.iload_n 3, 1) := by decide +kernel
theorem dX10_takesLetter_30 : decode cX10_takesLetter 30 = .ok (.ifCond .eq 21, 3) := by decide +kernel
theorem dX10_takesLetter_33 : decode cX10_takesLetter 33 = .ok (.aload_n 0, 1) := by decide +kernel
theorem dX10_takesLetter_34 : decode cX10_takesLetter 34 = .ok (.getfield 82, 3) := by decide +kernel
theorem dX10_takesLetter_37 : decode cX10_takesLetter 37 = .ok (.aload_n 0, 1) := by decide +kernel
theorem dX10_takesLetter_38 : decode cX10_takesLetter 38 = .ok (.getfield 135, 3) := by decide +kernel
theorem dX10_takesLetter_41 : decode cX10_takesLetter 41 = .ok (.iadd, 1) := by decide +kernel
theorem dX10_takesLetter_42 : decode cX10_takesLetter 42 = .ok (.bipush 10, 2) := by decide +kernel
theorem dX10_takesLetter_44 : decode cX10_takesLetter 44 = .ok (.if_icmp .ge 7, 3) := by decide +kernel
theorem dX10_takesLetter_47 : decode cX10_takesLetter 47 = .ok (.iconst 1, 1) := by decide +kernel
theorem dX10_takesLetter_48 : decode cX10_takesLetter 48 = .ok (.goto 4, 3) := by decide +kernel
theorem dX10_takesLetter_51 : decode cX10_takesLetter 51 = .ok (.iconst 0, 1) := by decide +kernel
theorem dX10_takesLetter_52 : decode cX10_takesLetter 52 = .ok (.istore_n 3, 1) := by decide +kernel
theorem dX10_takesLetter_53 : decode cX10_takesLetter 53 = .ok (.iload_n 3, 1) := by decide +kernel
theorem dX10_takesLetter_54 : decode cX10_takesLetter 54 = .ok (.ifCond .eq 70, 3) := by decide +kernel
theorem dX10_takesLetter_57 : decode cX10_takesLetter 57 = .ok (.aload_n 0, 1) := by decide +kernel
theorem dX10_takesLetter_58 : decode cX10_takesLetter 58 = .ok (.getfield 26, 3) := by decide +kernel
theorem dX10_takesLetter_61 : decode cX10_takesLetter 61 = .ok (.aload_n 0, 1) := by decide +kernel
theorem dX10_takesLetter_62 : decode cX10_takesLetter 62 = .ok (.getfield 82, 3) := by decide +kernel
theorem dX10_takesLetter_65 : decode cX10_takesLetter 65 = .ok (.aload_n 0, 1) := by decide +kernel
theorem dX10_takesLetter_66 : decode cX10_takesLetter 66 = .ok (.getfield 135, 3) := by decide +kernel
theorem dX10_takesLetter_69 : decode cX10_takesLetter 69 = .ok (.iadd, 1) := by decide +kernel
theorem dX10_takesLetter_70 : decode cX10_takesLetter 70 = .ok (.aload_n 0, 1) := by decide +kernel
theorem dX10_takesLetter_71 : decode cX10_takesLetter 71 = .ok (.getfield 13, 3) := by decide +kernel
theorem dX10_takesLetter_74 : decode cX10_takesLetter 74 = .ok (.iload_n 2, 1) := by decide +kernel
theorem dX10_takesLetter_75 : decode cX10_takesLetter 75 = .ok (.iaload, 1) := by decide +kernel
theorem dX10_takesLetter_76 : decode cX10_takesLetter 76 = .ok (.iastore, 1) := by decide +kernel
theorem dX10_takesLetter_77 : decode cX10_takesLetter 77 = .ok (.aload_n 0, 1) := by decide +kernel
theorem dX10_takesLetter_78 : decode cX10_takesLetter 78 = .ok (.getfield 29, 3) := by decide +kernel
theorem dX10_takesLetter_81 : decode cX10_takesLetter 81 = .ok (.iconst 2, 1) := by decide +kernel
theorem dX10_takesLetter_82 : decode cX10_takesLetter 82 = .ok (.aload_n 0, 1) := by decide +kernel
theorem dX10_takesLetter_83 : decode cX10_takesLetter 83 = .ok (.getfield 82, 3) := by decide +kernel
theorem dX10_takesLetter_86 : decode cX10_takesLetter 86 = .ok (.aload_n 0, 1) := by decide +kernel
theorem dX10_takesLetter_87 : decode cX10_takesLetter 87 = .ok (.getfield 135, 3) := by decide +kernel
theorem dX10_takesLetter_90 : decode cX10_takesLetter 90 = .ok (.iadd, 1) := by decide +kernel
theorem dX10_takesLetter_91 : decode cX10_takesLetter 91 = .ok (.imul, 1) := by decide +kernel
theorem dX10_takesLetter_92 : decode cX10_takesLetter 92 = .ok (.iconst 0, 1) := by decide +kernel
theorem dX10_takesLetter_93 : decode cX10_takesLetter 93 = .ok (.iastore, 1) := by decide +kernel
theorem dX10_takesLetter_94 : decode cX10_takesLetter 94 = .ok (.aload_n 0, 1) := by decide +kernel
theorem dX10_takesLetter_95 : decode cX10_takesLetter 95 = .ok (.getfield 29, 3) := by decide +kernel
theorem dX10_takesLetter_98 : decode cX10_takesLetter 98 = .ok (.iconst 2, 1) := by decide +kernel
theorem dX10_takesLetter_99 : decode cX10_takesLetter 99 = .ok (.aload_n 0, 1) := by decide +kernel
theorem dX10_takesLetter_100 : decode cX10_takesLetter 100 = .ok (.getfield 82, 3) := by decide +kernel
theorem dX10_takesLetter_103 : decode cX10_takesLetter 103 = .ok (.aload_n 0, 1) := by decide +kernel
theorem dX10_takesLetter_104 : decode cX10_takesLetter 104 = .ok (.getfield 135, 3) := by decide +kernel
theorem dX10_takesLetter_107 : decode cX10_takesLetter 107 = .ok (.iadd, 1) := by decide +kernel
theorem dX10_takesLetter_108 : decode cX10_takesLetter 108 = .ok (.imul, 1) := by decide +kernel
theorem dX10_takesLetter_109 : decode cX10_takesLetter 109 = .ok (.iconst 1, 1) := by decide +kernel
theorem dX10_takesLetter_110 : decode cX10_takesLetter 110 = .ok (.iadd, 1) := by decide +kernel
theorem dX10_takesLetter_111 : decode cX10_takesLetter 111 = .ok (.iconst 0, 1) := by decide +kernel
theorem dX10_takesLetter_112 : decode cX10_takesLetter 112 = .ok (.iastore, 1) := by decide +kernel
theorem dX10_takesLetter_113 : decode cX10_takesLetter 113 = .ok (.aload_n 0, 1) := by decide +kernel
theorem dX10_takesLetter_114 : decode cX10_takesLetter 114 = .ok (.iconst 0, 1) := by decide +kernel
theorem dX10_takesLetter_115 : decode cX10_takesLetter 115 = .ok (.iload_n 2, 1) := by decide +kernel
theorem dX10_takesLetter_116 : decode cX10_takesLetter 116 = .ok (.invokevirtual 141, 3) := by decide +kernel
theorem dX10_takesLetter_119 : decode cX10_takesLetter 119 = .ok (.aload_n 0, 1) := by decide +kernel
theorem dX10_takesLetter_120 : decode cX10_takesLetter 120 = .ok (.iconst 3, 1) := by decide +kernel
theorem dX10_takesLetter_121 : decode cX10_takesLetter 121 = .ok (.putfield 129, 3) := by decide +kernel
theorem dX10_takesLetter_124 : decode cX10_takesLetter 124 = .ok (.iload_n 3, 1) := by decide +kernel
theorem dX10_takesLetter_125 : decode cX10_takesLetter 125 = .ok (.ireturn, 1) := by decide +kernel
theorem dX10_takesLetter_126 : decode cX10_takesLetter 126 = .ok (.iload_n 3, 1) := by decide +kernel
theorem dX10_takesLetter_127 : decode cX10_takesLetter 127 = .ok (.ifCond .eq 45, 3) := by decide +kernel
theorem dX10_takesLetter_130 : decode cX10_takesLetter 130 = .ok (.aload_n 0, 1) := by decide +kernel
theorem dX10_takesLetter_131 : decode cX10_takesLetter 131 = .ok (.getfield 13, 3) := by decide +kernel
theorem dX10_takesLetter_134 : decode cX10_takesLetter 134 = .ok (.iload_n 2, 1) := by decide +kernel
theorem dX10_takesLetter_135 : decode cX10_takesLetter 135 = .ok (.iaload, 1) := by decide +kernel
theorem dX10_takesLetter_136 : decode cX10_takesLetter 136 = .ok (.aload_n 0, 1) := by decide +kernel
theorem dX10_takesLetter_137 : decode cX10_takesLetter 137 = .ok (.getfield 129, 3) := by decide +kernel
theorem dX10_takesLetter_140 : decode cX10_takesLetter 140 = .ok (.iconst 4, 1) := by decide +kernel
theorem dX10_takesLetter_141 : decode cX10_takesLetter 141 = .ok (.if_icmp .ne 20, 3) := by decide +kernel
theorem dX10_takesLetter_144 : decode cX10_takesLetter 144 = .ok (.aload_n 0, 1) := by decide +kernel
theorem dX10_takesLetter_145 : decode cX10_takesLetter 145 = .ok (.getfield 26, 3) := by decide +kernel
theorem dX10_takesLetter_148 : decode cX10_takesLetter 148 = .ok (.aload_n 0, 1) := by decide +kernel
theorem dX10_takesLetter_149 : decode cX10_takesLetter 149 = .ok (.getfield 82, 3) := by decide +kernel
theorem dX10_takesLetter_152 : decode cX10_takesLetter 152 = .ok (.aload_n 0, 1) := by decide +kernel
theorem dX10_takesLetter_153 : decode cX10_takesLetter 153 = .ok (.getfield 135, 3) := by decide +kernel
theorem dX10_takesLetter_156 : decode cX10_takesLetter 156 = .ok (.iadd, 1) := by decide +kernel
theorem dX10_takesLetter_157 : decode cX10_takesLetter 157 = .ok (.iaload, 1) := by decide +kernel
theorem dX10_takesLetter_158 : decode cX10_takesLetter 158 = .ok (.goto 7, 3) := by decide +kernel
theorem dX10_takesLetter_161 : decode cX10_takesLetter 161 = .ok (.aload_n 0, 1) := by decide +kernel
theorem dX10_takesLetter_162 : decode cX10_takesLetter 162 = .ok (.getfield 138, 3) := by decide +kernel
theorem dX10_takesLetter_165 : decode cX10_takesLetter 165 = .ok (.if_icmp .ne 7, 3) := by decide +kernel
theorem dX10_takesLetter_168 : decode cX10_takesLetter 168 = .ok (.iconst 1, 1) := by decide +kernel
theorem dX10_takesLetter_169 : decode cX10_takesLetter 169 = .ok (.goto 4, 3) := by decide +kernel
theorem dX10_takesLetter_172 : decode cX10_takesLetter 172 = .ok (.iconst 0, 1) := by decide +kernel
theorem dX10_takesLetter_173 : decode cX10_takesLetter 173 = .ok (.istore_n 3, 1) := by decide +kernel
theorem dX10_takesLetter_174 : decode cX10_takesLetter 174 = .ok (.iload_n 3, 1) := by decide +kernel
theorem dX10_takesLetter_175 : decode cX10_takesLetter 175 = .ok (.ifCond .eq 41, 3) := by decide +kernel
theorem dX10_takesLetter_178 : decode cX10_takesLetter 178 = .ok (.aload_n 0, 1) := by decide +kernel
theorem dX10_takesLetter_179 : decode cX10_takesLetter 179 = .ok (.aload_n 0, 1) := by decide +kernel
theorem dX10_takesLetter_180 : decode cX10_takesLetter 180 = .ok (.getfield 129, 3) := by decide +kernel
theorem dX10_takesLetter_183 : decode cX10_takesLetter 183 = .ok (.iconst 3, 1) := by decide +kernel
theorem dX10_takesLetter_184 : decode cX10_takesLetter 184 = .ok (.if_icmp .ne 7, 3) := by decide +kernel
theorem dX10_takesLetter_187 : decode cX10_takesLetter 187 = .ok (.iconst 0, 1) := by decide +kernel
theorem dX10_takesLetter_188 : decode cX10_takesLetter 188 = .ok (.goto 4, 3) := by decide +kernel
theorem dX10_takesLetter_191 : decode cX10_takesLetter 191 = .ok (.iconst 1, 1) := by decide +kernel
theorem dX10_takesLetter_192 : decode cX10_takesLetter 192 = .ok (.iload_n 2, 1) := by decide +kernel
theorem dX10_takesLetter_193 : decode cX10_takesLetter 193 = .ok (.invokevirtual 141, 3) := by decide +kernel
theorem dX10_takesLetter_196 : decode cX10_takesLetter 196 = .ok (.aload_n 0, 1) := by decide +kernel
theorem dX10_takesLetter_197 : decode cX10_takesLetter 197 = .ok (.aload_n 0, 1) := by decide +kernel
theorem dX10_takesLetter_198 : decode cX10_takesLetter 198 = .ok (.getfield 129, 3) := by decide +kernel
theorem dX10_takesLetter_201 : decode cX10_takesLetter 201 = .ok (.iconst 4, 1) := by decide +kernel
theorem dX10_takesLetter_202 : decode cX10_takesLetter 202 = .ok (.if_icmp .ne 7, 3) := by decide +kernel
theorem dX10_takesLetter_205 : decode cX10_takesLetter 205 = .ok (.iconst 5, 1) := by decide +kernel
theorem dX10_takesLetter_206 : decode cX10_takesLetter 206 = .ok (.goto 7, 3) := by decide +kernel
theorem dX10_takesLetter_209 : decode cX10_takesLetter 209 = .ok (.aload_n 0, 1) := by decide +kernel
theorem dX10_takesLetter_210 : decode cX10_takesLetter 210 = .ok (.getfield 129, 3) := by decide +kernel
theorem dX10_takesLetter_213 : decode cX10_takesLetter 213 = .ok (.putfield 129, 3) := by decide +kernel
theorem dX10_takesLetter_216 : decode cX10_takesLetter 216 = .ok (.iload_n 3, 1) := by decide +kernel
theorem dX10_takesLetter_217 : decode cX10_takesLetter 217 = .ok (.ireturn, 1) := by decide +kernel
theorem dX10_mayEnd_0 : decode cX10_mayEnd 0 = .ok (.aload_n 0, 1) := by decide +kernel
theorem dX10_mayEnd_1 : decode cX10_mayEnd 1 = .ok (.getfield 129, 3) := by decide +kernel
theorem dX10_mayEnd_4 : decode cX10_mayEnd 4 = .ok (.iconst 2, 1) := by decide +kernel
theorem dX10_mayEnd_5 : decode cX10_mayEnd 5 = .ok (.if_icmp .eq 22, 3) := by decide +kernel
theorem dX10_mayEnd_8 : decode cX10_mayEnd 8 = .ok (.aload_n 0, 1) := by decide +kernel
theorem dX10_mayEnd_9 : decode cX10_mayEnd 9 = .ok (.getfield 129, 3) := by decide +kernel
theorem dX10_mayEnd_12 : decode cX10_mayEnd 12 = .ok (.iconst 5, 1) := by decide +kernel
theorem dX10_mayEnd_13 : decode cX10_mayEnd 13 = .ok (.if_icmp .ne 18, 3) := by decide +kernel
theorem dX10_mayEnd_16 : decode cX10_mayEnd 16 = .ok (.aload_n 0, 1) := by decide +kernel
theorem dX10_mayEnd_17 : decode cX10_mayEnd 17 = .ok (.getfield 138, 3) := by decide +kernel
theorem dX10_mayEnd_20 : decode cX10_mayEnd 20 = .ok (.aload_n 0, 1) := by decide +kernel
theorem dX10_mayEnd_21 : decode cX10_mayEnd 21 = .ok (.getfield 144, 3) := by decide +kernel
theorem dX10_mayEnd_24 : decode cX10_mayEnd 24 = .ok (.if_icmp .ne 7, 3) := by decide +kernel
theorem dX10_mayEnd_27 : decode cX10_mayEnd 27 = .ok (.iconst 1, 1) := by decide +kernel
theorem dX10_mayEnd_28 : decode cX10_mayEnd 28 = .ok (.goto 4, 3) := by decide +kernel
theorem dX10_mayEnd_31 : decode cX10_mayEnd 31 = .ok (.iconst 0, 1) := by decide +kernel
theorem dX10_mayEnd_32 : decode cX10_mayEnd 32 = .ok (.ireturn, 1) := by decide +kernel
theorem dX10_endItem_0 : decode cX10_endItem 0 = .ok (.aload_n 0, 1) := by decide +kernel
theorem dX10_endItem_1 : decode cX10_endItem 1 = .ok (.dup, 1) := by decide +kernel
theorem dX10_endItem_2 : decode cX10_endItem 2 = .ok (.getfield 135, 3) := by decide +kernel
theorem dX10_endItem_5 : decode cX10_endItem 5 = .ok (.aload_n 0, 1) := by decide +kernel
theorem dX10_endItem_6 : decode cX10_endItem 6 = .ok (.getfield 129, 3) := by decide +kernel
theorem dX10_endItem_9 : decode cX10_endItem 9 = .ok (.iconst 5, 1) := by decide +kernel
theorem dX10_endItem_10 : decode cX10_endItem 10 = .ok (.if_icmp .ne 7, 3) := by decide +kernel
theorem dX10_endItem_13 : decode cX10_endItem 13 = .ok (.iconst 1, 1) := by decide +kernel
theorem dX10_endItem_14 : decode cX10_endItem 14 = .ok (.goto 4, 3) := by decide +kernel
theorem dX10_endItem_17 : decode cX10_endItem 17 = .ok (.iconst 0, 1) := by decide +kernel
theorem dX10_endItem_18 : decode cX10_endItem 18 = .ok (.iadd, 1) := by decide +kernel
theorem dX10_endItem_19 : decode cX10_endItem 19 = .ok (.putfield 135, 3) := by decide +kernel
theorem dX10_endItem_22 : decode cX10_endItem 22 = .ok (.aload_n 0, 1) := by decide +kernel
theorem dX10_endItem_23 : decode cX10_endItem 23 = .ok (.dup, 1) := by decide +kernel
theorem dX10_endItem_24 : decode cX10_endItem 24 = .ok (.getfield 147, 3) := by decide +kernel
theorem dX10_endItem_27 : decode cX10_endItem 27 = .ok (.iconst 1, 1) := by decide +kernel
theorem dX10_endItem_28 : decode cX10_endItem 28 = .ok (.iadd, 1) := by decide +kernel
theorem dX10_endItem_29 : decode cX10_endItem 29 = .ok (.putfield 147, 3) := by decide +kernel
theorem dX10_endItem_32 : decode cX10_endItem 32 = .ok (.aload_n 0, 1) := by decide +kernel
theorem dX10_endItem_33 : decode cX10_endItem 33 = .ok (.iconst 0, 1) := by decide +kernel
theorem dX10_endItem_34 : decode cX10_endItem 34 = .ok (.putfield 129, 3) := by decide +kernel
theorem dX10_endItem_37 : decode cX10_endItem 37 = .ok (.return_, 1) := by decide +kernel
theorem dX10_takes_0 : decode cX10_takes 0 = .ok (.iload_n 1, 1) := by decide +kernel
theorem dX10_takes_1 : decode cX10_takes 1 = .ok (.bipush 59, 2) := by decide +kernel
theorem dX10_takes_3 : decode cX10_takes 3 = .ok (.if_icmp .ne 18, 3) := by decide +kernel
theorem dX10_takes_6 : decode cX10_takes 6 = .ok (.aload_n 0, 1) := by decide +kernel
theorem dX10_takes_7 : decode cX10_takes 7 = .ok (.invokevirtual 150, 3) := by decide +kernel
theorem dX10_takes_10 : decode cX10_takes 10 = .ok (.istore_n 2, 1) := by decide +kernel
theorem dX10_takes_11 : decode cX10_takes 11 = .ok (.iload_n 2, 1) := by decide +kernel
theorem dX10_takes_12 : decode cX10_takes 12 = .ok (.ifCond .eq 7, 3) := by decide +kernel
theorem dX10_takes_15 : decode cX10_takes 15 = .ok (.aload_n 0, 1) := by decide +kernel
theorem dX10_takes_16 : decode cX10_takes 16 = .ok (.invokevirtual 153, 3) := by decide +kernel
theorem dX10_takes_19 : decode cX10_takes 19 = .ok (.iload_n 2, 1) := by decide +kernel
theorem dX10_takes_20 : decode cX10_takes 20 = .ok (.ireturn, 1) := by decide +kernel
theorem dX10_takes_21 : decode cX10_takes 21 = .ok (.iload_n 1, 1) := by decide +kernel
theorem dX10_takes_22 : decode cX10_takes 22 = .ok (.bipush 61, 2) := by decide +kernel
theorem dX10_takes_24 : decode cX10_takes 24 = .ok (.if_icmp .ne 54, 3) := by decide +kernel
theorem dX10_takes_27 : decode cX10_takes 27 = .ok (.aload_n 0, 1) := by decide +kernel
theorem dX10_takes_28 : decode cX10_takes 28 = .ok (.getfield 129, 3) := by decide +kernel
theorem dX10_takes_31 : decode cX10_takes 31 = .ok (.iconst 3, 1) := by decide +kernel
theorem dX10_takes_32 : decode cX10_takes 32 = .ok (.if_icmp .ne 7, 3) := by decide +kernel
theorem dX10_takes_35 : decode cX10_takes 35 = .ok (.iconst 1, 1) := by decide +kernel
theorem dX10_takes_36 : decode cX10_takes 36 = .ok (.goto 4, 3) := by decide +kernel
theorem dX10_takes_39 : decode cX10_takes 39 = .ok (.iconst 0, 1) := by decide +kernel
theorem dX10_takes_40 : decode cX10_takes 40 = .ok (.istore_n 2, 1) := by decide +kernel
theorem dX10_takes_41 : decode cX10_takes 41 = .ok (.aload_n 0, 1) := by decide +kernel
theorem dX10_takes_42 : decode cX10_takes 42 = .ok (.iload_n 2, 1) := by decide +kernel
theorem dX10_takes_43 : decode cX10_takes 43 = .ok (.ifCond .eq 10, 3) := by decide +kernel
theorem dX10_takes_46 : decode cX10_takes 46 = .ok (.aload_n 0, 1) := by decide +kernel
theorem dX10_takes_47 : decode cX10_takes 47 = .ok (.getfield 138, 3) := by decide +kernel
theorem dX10_takes_50 : decode cX10_takes 50 = .ok (.goto 7, 3) := by decide +kernel
theorem dX10_takes_53 : decode cX10_takes 53 = .ok (.aload_n 0, 1) := by decide +kernel
theorem dX10_takes_54 : decode cX10_takes 54 = .ok (.getfield 144, 3) := by decide +kernel
theorem dX10_takes_57 : decode cX10_takes 57 = .ok (.putfield 144, 3) := by decide +kernel
theorem dX10_takes_60 : decode cX10_takes 60 = .ok (.aload_n 0, 1) := by decide +kernel
theorem dX10_takes_61 : decode cX10_takes 61 = .ok (.iload_n 2, 1) := by decide +kernel
theorem dX10_takes_62 : decode cX10_takes 62 = .ok (.ifCond .eq 7, 3) := by decide +kernel
theorem dX10_takes_65 : decode cX10_takes 65 = .ok (.iconst 4, 1) := by decide +kernel
theorem dX10_takes_66 : decode cX10_takes 66 = .ok (.goto 7, 3) := by decide +kernel
theorem dX10_takes_69 : decode cX10_takes 69 = .ok (.aload_n 0, 1) := by decide +kernel
theorem dX10_takes_70 : decode cX10_takes 70 = .ok (.getfield 129, 3) := by decide +kernel
theorem dX10_takes_73 : decode cX10_takes 73 = .ok (.putfield 129, 3) := by decide +kernel
theorem dX10_takes_76 : decode cX10_takes 76 = .ok (.iload_n 2, 1) := by decide +kernel
theorem dX10_takes_77 : decode cX10_takes 77 = .ok (.ireturn, 1) := by decide +kernel
theorem dX10_takes_78 : decode cX10_takes 78 = .ok (.aload_n 0, 1) := by decide +kernel
theorem dX10_takes_79 : decode cX10_takes 79 = .ok (.getfield 129, 3) := by decide +kernel
theorem dX10_takes_82 : decode cX10_takes 82 = .ok (.iconst 2, 1) := by decide +kernel
theorem dX10_takes_83 : decode cX10_takes 83 = .ok (.if_icmp .ne 5, 3) := by decide +kernel
theorem dX10_takes_86 : decode cX10_takes 86 = .ok (.iconst 0, 1) := by decide +kernel
theorem dX10_takes_87 : decode cX10_takes 87 = .ok (.ireturn, 1) := by decide +kernel
theorem dX10_takes_88 : decode cX10_takes 88 = .ok (.aload_n 0, 1) := by decide +kernel
theorem dX10_takes_89 : decode cX10_takes 89 = .ok (.getfield 129, 3) := by decide +kernel
theorem dX10_takes_92 : decode cX10_takes 92 = .ok (.iconst 1, 1) := by decide +kernel
theorem dX10_takes_93 : decode cX10_takes 93 = .ok (.if_icmp .eq 21, 3) := by decide +kernel
theorem dX10_takes_96 : decode cX10_takes 96 = .ok (.aload_n 0, 1) := by decide +kernel
theorem dX10_takes_97 : decode cX10_takes 97 = .ok (.getfield 129, 3) := by decide +kernel
theorem dX10_takes_100 : decode cX10_takes 100 = .ok (.ifCond .ne 22, 3) := by decide +kernel
theorem dX10_takes_103 : decode cX10_takes 103 = .ok (.iload_n 1, 1) := by decide +kernel
theorem dX10_takes_104 : decode cX10_takes 104 = .ok (.bipush 48, 2) := by decide +kernel
theorem dX10_takes_106 : decode cX10_takes 106 = .ok (.bipush 57, 2) := by decide +kernel
theorem dX10_takes_108 : decode cX10_takes 108 = .ok (.invokestatic 75, 3) := by decide +kernel
theorem dX10_takes_111 : decode cX10_takes 111 = .ok (.ifCond .eq 11, 3) := by decide +kernel
theorem dX10_takes_114 : decode cX10_takes 114 = .ok (.aload_n 0, 1) := by decide +kernel
theorem dX10_takes_115 : decode cX10_takes 115 = .ok (.iload_n 1, 1) := by decide +kernel
theorem dX10_takes_116 : decode cX10_takes 116 = .ok (.invokevirtual 156, 3) := by decide +kernel
theorem dX10_takes_119 : decode cX10_takes 119 = .ok (.goto 8, 3) := by decide +kernel
theorem dX10_takes_122 : decode cX10_takes 122 = .ok (.aload_n 0, 1) := by decide +kernel
theorem dX10_takes_123 : decode cX10_takes 123 = .ok (.iload_n 1, 1) := by decide +kernel
theorem dX10_takes_124 : decode cX10_takes 124 = .ok (.invokevirtual 159, 3) := by decide +kernel
theorem dX10_takes_127 : decode cX10_takes 127 = .ok (.ireturn, 1) := by decide +kernel
theorem dX10_rightLength_0 : decode cX10_rightLength 0 = .ok (.aload_n 0, 1) := by decide +kernel
theorem dX10_rightLength_1 : decode cX10_rightLength 1 = .ok (.iconst 0, 1) := by decide +kernel
theorem dX10_rightLength_2 : decode cX10_rightLength 2 = .ok (.putfield 129, 3) := by decide +kernel
theorem dX10_rightLength_5 : decode cX10_rightLength 5 = .ok (.aload_n 0, 1) := by decide +kernel
theorem dX10_rightLength_6 : decode cX10_rightLength 6 = .ok (.iconst 0, 1) := by decide +kernel
theorem dX10_rightLength_7 : decode cX10_rightLength 7 = .ok (.putfield 132, 3) := by decide +kernel
theorem dX10_rightLength_10 : decode cX10_rightLength 10 = .ok (.aload_n 0, 1) := by decide +kernel
theorem dX10_rightLength_11 : decode cX10_rightLength 11 = .ok (.iconst 0, 1) := by decide +kernel
theorem dX10_rightLength_12 : decode cX10_rightLength 12 = .ok (.putfield 135, 3) := by decide +kernel
theorem dX10_rightLength_15 : decode cX10_rightLength 15 = .ok (.aload_n 0, 1) := by decide +kernel
theorem dX10_rightLength_16 : decode cX10_rightLength 16 = .ok (.iconst 0, 1) := by decide +kernel
theorem dX10_rightLength_17 : decode cX10_rightLength 17 = .ok (.putfield 147, 3) := by decide +kernel
theorem dX10_rightLength_20 : decode cX10_rightLength 20 = .ok (.iconst 0, 1) := by decide +kernel
theorem dX10_rightLength_21 : decode cX10_rightLength 21 = .ok (.istore_n 1, 1) := by decide +kernel
theorem dX10_rightLength_22 : decode cX10_rightLength 22 = .ok (.iload_n 1, 1) := by decide +kernel
theorem dX10_rightLength_23 : decode cX10_rightLength 23 = .ok (.aload_n 0, 1) := by decide +kernel
theorem dX10_rightLength_24 : decode cX10_rightLength 24 = .ok (.getfield 126, 3) := by decide +kernel
theorem dX10_rightLength_27 : decode cX10_rightLength 27 = .ok (.if_icmp .ge 22, 3) := by decide +kernel
theorem dX10_rightLength_30 : decode cX10_rightLength 30 = .ok (.aload_n 0, 1) := by decide +kernel
theorem dX10_rightLength_31 : decode cX10_rightLength 31 = .ok (.aload_n 0, 1) := by decide +kernel
theorem dX10_rightLength_32 : decode cX10_rightLength 32 = .ok (.getfield 35, 3) := by decide +kernel
theorem dX10_rightLength_35 : decode cX10_rightLength 35 = .ok (.iload_n 1, 1) := by decide +kernel
theorem dX10_rightLength_36 : decode cX10_rightLength 36 = .ok (.iaload, 1) := by decide +kernel
theorem dX10_rightLength_37 : decode cX10_rightLength 37 = .ok (.invokevirtual 162, 3) := by decide +kernel
theorem dX10_rightLength_40 : decode cX10_rightLength 40 = .ok (.ifCond .eq 9, 3) := by decide +kernel
theorem dX10_rightLength_43 : decode cX10_rightLength 43 = .ok (.iinc 1 1, 3) := by decide +kernel
theorem dX10_rightLength_46 : decode cX10_rightLength 46 = .ok (.goto (-24), 3) := by decide +kernel
theorem dX10_rightLength_49 : decode cX10_rightLength 49 = .ok (.iload_n 1, 1) := by decide +kernel
theorem dX10_rightLength_50 : decode cX10_rightLength 50 = .ok (.ireturn, 1) := by decide +kernel
theorem dX10_firstError_0 : decode cX10_firstError 0 = .ok (.aload_n 0, 1) := by decide +kernel
theorem dX10_firstError_1 : decode cX10_firstError 1 = .ok (.iconst 0, 1) := by decide +kernel
theorem dX10_firstError_2 : decode cX10_firstError 2 = .ok (.putfield 72, 3) := by decide +kernel
theorem dX10_firstError_5 : decode cX10_firstError 5 = .ok (.aload_n 0, 1) := by decide +kernel
theorem dX10_firstError_6 : decode cX10_firstError 6 = .ok (.invokevirtual 165, 3) := by decide +kernel
theorem dX10_firstError_9 : decode cX10_firstError 9 = .ok (.ireturn, 1) := by decide +kernel
theorem dX10_load_0 : decode cX10_load 0 = .ok (.aload_n 0, 1) := by decide +kernel
theorem dX10_load_1 : decode cX10_load 1 = .ok (.invokevirtual 165, 3) := by decide +kernel
theorem dX10_load_4 : decode cX10_load 4 = .ok (.aload_n 0, 1) := by decide +kernel
theorem dX10_load_5 : decode cX10_load 5 = .ok (.getfield 126, 3) := by decide +kernel
theorem dX10_load_8 : decode cX10_load 8 = .ok (.if_icmp .ne 14, 3) := by decide +kernel
theorem dX10_load_11 : decode cX10_load 11 = .ok (.aload_n 0, 1) := by decide +kernel
theorem dX10_load_12 : decode cX10_load 12 = .ok (.invokevirtual 150, 3) := by decide +kernel
theorem dX10_load_15 : decode cX10_load 15 = .ok (.ifCond .eq 7, 3) := by decide +kernel
theorem dX10_load_18 : decode cX10_load 18 = .ok (.iconst 1, 1) := by decide +kernel
theorem dX10_load_19 : decode cX10_load 19 = .ok (.goto 4, 3) := by decide +kernel
theorem dX10_load_22 : decode cX10_load 22 = .ok (.iconst 0, 1) := by decide +kernel
theorem dX10_load_23 : decode cX10_load 23 = .ok (.istore_n 1, 1) := by decide +kernel
theorem dX10_load_24 : decode cX10_load 24 = .ok (.aload_n 0, 1) := by decide +kernel
theorem dX10_load_25 : decode cX10_load 25 = .ok (.iload_n 1, 1) := by decide +kernel
theorem dX10_load_26 : decode cX10_load 26 = .ok (.ifCond .eq 7, 3) := by decide +kernel
theorem dX10_load_29 : decode cX10_load 29 = .ok (.iconst 0, 1) := by decide +kernel
theorem dX10_load_30 : decode cX10_load 30 = .ok (.goto 4, 3) := by decide +kernel
theorem dX10_load_33 : decode cX10_load 33 = .ok (.iconst 1, 1) := by decide +kernel
theorem dX10_load_34 : decode cX10_load 34 = .ok (.putfield 72, 3) := by decide +kernel
theorem dX10_load_37 : decode cX10_load 37 = .ok (.aload_n 0, 1) := by decide +kernel
theorem dX10_load_38 : decode cX10_load 38 = .ok (.getfield 72, 3) := by decide +kernel
theorem dX10_load_41 : decode cX10_load 41 = .ok (.ifCond .le 5, 3) := by decide +kernel
theorem dX10_load_44 : decode cX10_load 44 = .ok (.iconst 0, 1) := by decide +kernel
theorem dX10_load_45 : decode cX10_load 45 = .ok (.ireturn, 1) := by decide +kernel
theorem dX10_load_46 : decode cX10_load 46 = .ok (.aload_n 0, 1) := by decide +kernel
theorem dX10_load_47 : decode cX10_load 47 = .ok (.invokevirtual 153, 3) := by decide +kernel
theorem dX10_load_50 : decode cX10_load 50 = .ok (.aload_n 0, 1) := by decide +kernel
theorem dX10_load_51 : decode cX10_load 51 = .ok (.getfield 79, 3) := by decide +kernel
theorem dX10_load_54 : decode cX10_load 54 = .ok (.istore_n 2, 1) := by decide +kernel
theorem dX10_load_55 : decode cX10_load 55 = .ok (.iconst 0, 1) := by decide +kernel
theorem dX10_load_56 : decode cX10_load 56 = .ok (.istore_n 3, 1) := by decide +kernel
theorem dX10_load_57 : decode cX10_load 57 = .ok (.iload_n 3, 1) := by decide +kernel
theorem dX10_load_58 : decode cX10_load 58 = .ok (.aload_n 0, 1) := by decide +kernel
theorem dX10_load_59 : decode cX10_load 59 = .ok (.getfield 132, 3) := by decide +kernel
theorem dX10_load_62 : decode cX10_load 62 = .ok (.if_icmp .ge 29, 3) := by decide +kernel
theorem dX10_load_65 : decode cX10_load 65 = .ok (.aload_n 0, 1) := by decide +kernel
theorem dX10_load_66 : decode cX10_load 66 = .ok (.getfield 20, 3) := by decide +kernel
theorem dX10_load_69 : decode cX10_load 69 = .ok (.aload_n 0, 1) := by decide +kernel
theorem dX10_load_70 : decode cX10_load 70 = .ok (.getfield 79, 3) := by decide +kernel
theorem dX10_load_73 : decode cX10_load 73 = .ok (.iconst 0, 1) := by decide +kernel
theorem dX10_load_74 : decode cX10_load 74 = .ok (.iastore, 1) := by decide +kernel
theorem dX10_load_75 : decode cX10_load 75 = .ok (.aload_n 0, 1) := by decide +kernel
theorem dX10_load_76 : decode cX10_load 76 = .ok (.dup, 1) := by decide +kernel
theorem dX10_load_77 : decode cX10_load 77 = .ok (.getfield 79, 3) := by decide +kernel
theorem dX10_load_80 : decode cX10_load 80 = .ok (.iconst 1, 1) := by decide +kernel
theorem dX10_load_81 : decode cX10_load 81 = .ok (.iadd, 1) := by decide +kernel
theorem dX10_load_82 : decode cX10_load 82 = .ok (.putfield 79, 3) := by decide +kernel
theorem dX10_load_85 : decode cX10_load 85 = .ok (.iinc 3 1, 3) := by decide +kernel
theorem dX10_load_88 : decode cX10_load 88 = .ok (.goto (-31), 3) := by decide +kernel
theorem dX10_load_91 : decode cX10_load 91 = .ok (.aload_n 0, 1) := by decide +kernel
theorem dX10_load_92 : decode cX10_load 92 = .ok (.invokevirtual 85, 3) := by decide +kernel
theorem dX10_load_95 : decode cX10_load 95 = .ok (.ifCond .ne 20, 3) := by decide +kernel
theorem dX10_load_98 : decode cX10_load 98 = .ok (.aload_n 0, 1) := by decide +kernel
theorem dX10_load_99 : decode cX10_load 99 = .ok (.iload_n 2, 1) := by decide +kernel
theorem dX10_load_100 : decode cX10_load 100 = .ok (.putfield 79, 3) := by decide +kernel
theorem dX10_load_103 : decode cX10_load 103 = .ok (.aload_n 0, 1) := by decide +kernel
theorem dX10_load_104 : decode cX10_load 104 = .ok (.invokevirtual 85, 3) := by decide +kernel
theorem dX10_load_107 : decode cX10_load 107 = .ok (.pop, 1) := by decide +kernel
theorem dX10_load_108 : decode cX10_load 108 = .ok (.aload_n 0, 1) := by decide +kernel
theorem dX10_load_109 : decode cX10_load 109 = .ok (.iconst 2, 1) := by decide +kernel
theorem dX10_load_110 : decode cX10_load 110 = .ok (.putfield 72, 3) := by decide +kernel
theorem dX10_load_113 : decode cX10_load 113 = .ok (.iconst 0, 1) := by decide +kernel
theorem dX10_load_114 : decode cX10_load 114 = .ok (.ireturn, 1) := by decide +kernel
theorem dX10_load_115 : decode cX10_load 115 = .ok (.aload_n 0, 1) := by decide +kernel
theorem dX10_load_116 : decode cX10_load 116 = .ok (.dup, 1) := by decide +kernel
theorem dX10_load_117 : decode cX10_load 117 = .ok (.getfield 82, 3) := by decide +kernel
theorem dX10_load_120 : decode cX10_load 120 = .ok (.aload_n 0, 1) := by decide +kernel
theorem dX10_load_121 : decode cX10_load 121 = .ok (.getfield 135, 3) := by decide +kernel
theorem dX10_load_124 : decode cX10_load 124 = .ok (.iadd, 1) := by decide +kernel
theorem dX10_load_125 : decode cX10_load 125 = .ok (.putfield 82, 3) := by decide +kernel
theorem dX10_load_128 : decode cX10_load 128 = .ok (.aload_n 0, 1) := by decide +kernel
theorem dX10_load_129 : decode cX10_load 129 = .ok (.iconst 0, 1) := by decide +kernel
theorem dX10_load_130 : decode cX10_load 130 = .ok (.putfield 126, 3) := by decide +kernel
theorem dX10_load_133 : decode cX10_load 133 = .ok (.aload_n 0, 1) := by decide +kernel
theorem dX10_load_134 : decode cX10_load 134 = .ok (.getfield 147, 3) := by decide +kernel
theorem dX10_load_137 : decode cX10_load 137 = .ok (.ireturn, 1) := by decide +kernel
theorem dX10_find_0 : decode cX10_find 0 = .ok (.aload_n 0, 1) := by decide +kernel
theorem dX10_find_1 : decode cX10_find 1 = .ok (.iconst 0, 1) := by decide +kernel
theorem dX10_find_2 : decode cX10_find 2 = .ok (.putfield 72, 3) := by decide +kernel
theorem dX10_find_5 : decode cX10_find 5 = .ok (.iconst (-1), 1) := by decide +kernel
theorem dX10_find_6 : decode cX10_find 6 = .ok (.istore_n 1, 1) := by decide +kernel
theorem dX10_find_7 : decode cX10_find 7 = .ok (.iconst 0, 1) := by decide +kernel
theorem dX10_find_8 : decode cX10_find 8 = .ok (.istore_n 2, 1) := by decide +kernel
theorem dX10_find_9 : decode cX10_find 9 = .ok (.iload_n 2, 1) := by decide +kernel
theorem dX10_find_10 : decode cX10_find 10 = .ok (.aload_n 0, 1) := by decide +kernel
theorem dX10_find_11 : decode cX10_find 11 = .ok (.getfield 126, 3) := by decide +kernel
theorem dX10_find_14 : decode cX10_find 14 = .ok (.if_icmp .ge 61, 3) := by decide +kernel
theorem dX10_find_17 : decode cX10_find 17 = .ok (.aload_n 0, 1) := by decide +kernel
theorem dX10_find_18 : decode cX10_find 18 = .ok (.getfield 35, 3) := by decide +kernel
theorem dX10_find_21 : decode cX10_find 21 = .ok (.iload_n 2, 1) := by decide +kernel
theorem dX10_find_22 : decode cX10_find 22 = .ok (.iaload, 1) := by decide +kernel
theorem dX10_find_23 : decode cX10_find 23 = .ok (.bipush 97, 2) := by decide +kernel
theorem dX10_find_25 : decode cX10_find 25 = .ok (.isub, 1) := by decide +kernel
theorem dX10_find_26 : decode cX10_find 26 = .ok (.istore_n 3, 1) := by decide +kernel
theorem dX10_find_27 : decode cX10_find 27 = .ok (.aload_n 0, 1) := by decide +kernel
theorem dX10_find_28 : decode cX10_find 28 = .ok (.iload_n 3, 1) := by decide +kernel
theorem dX10_find_29 : decode cX10_find 29 = .ok (.invokevirtual 169, 3) := by decide +kernel
theorem dX10_find_32 : decode cX10_find 32 = .ok (.ifCond .ne 5, 3) := by decide +kernel
theorem dX10_find_35 : decode cX10_find 35 = .ok (.iconst (-1), 1) := by decide +kernel
theorem dX10_find_36 : decode cX10_find 36 = .ok (.ireturn, 1) := by decide +kernel
theorem dX10_find_37 : decode cX10_find 37 = .ok (.aload_n 0, 1) := by decide +kernel
theorem dX10_find_38 : decode cX10_find 38 = .ok (.getfield 50, 3) := by decide +kernel
theorem dX10_find_41 : decode cX10_find 41 = .ok (.bipush 14, 2) := by decide +kernel
theorem dX10_find_43 : decode cX10_find 43 = .ok (.iload_n 2, 1) := by decide +kernel
theorem dX10_find_44 : decode cX10_find 44 = .ok (.ifCond .ne 12, 3) := by decide +kernel
theorem dX10_find_47 : decode cX10_find 47 = .ok (.aload_n 0, 1) := by decide +kernel
theorem dX10_find_48 : decode cX10_find 48 = .ok (.getfield 13, 3) := by decide +kernel
theorem dX10_find_51 : decode cX10_find 51 = .ok (.iload_n 3, 1) := by decide +kernel
theorem dX10_find_52 : decode cX10_find 52 = .ok (.iaload, 1) := by decide +kernel
theorem dX10_find_53 : decode cX10_find 53 = .ok (.goto 4, 3) := by decide +kernel
theorem dX10_find_56 : decode cX10_find 56 = .ok (.iload_n 1, 1) := by decide +kernel
theorem dX10_find_57 : decode cX10_find 57 = .ok (.imul, 1) := by decide +kernel
theorem dX10_find_58 : decode cX10_find 58 = .ok (.iload_n 3, 1) := by decide +kernel
theorem dX10_find_59 : decode cX10_find 59 = .ok (.iadd, 1) := by decide +kernel
theorem dX10_find_60 : decode cX10_find 60 = .ok (.iaload, 1) := by decide +kernel
theorem dX10_find_61 : decode cX10_find 61 = .ok (.istore_n 1, 1) := by decide +kernel
theorem dX10_find_62 : decode cX10_find 62 = .ok (.iload_n 1, 1) := by decide +kernel
theorem dX10_find_63 : decode cX10_find 63 = .ok (.iconst (-1), 1) := by decide +kernel
theorem dX10_find_64 : decode cX10_find 64 = .ok (.if_icmp .ne 5, 3) := by decide +kernel
theorem dX10_find_67 : decode cX10_find 67 = .ok (.iconst (-1), 1) := by decide +kernel
theorem dX10_find_68 : decode cX10_find 68 = .ok (.ireturn, 1) := by decide +kernel
theorem dX10_find_69 : decode cX10_find 69 = .ok (.iinc 2 1, 3) := by decide +kernel
theorem dX10_find_72 : decode cX10_find 72 = .ok (.goto (-63), 3) := by decide +kernel
theorem dX10_find_75 : decode cX10_find 75 = .ok (.iload_n 1, 1) := by decide +kernel
theorem dX10_find_76 : decode cX10_find 76 = .ok (.ireturn, 1) := by decide +kernel
theorem dX10_stands_0 : decode cX10_stands 0 = .ok (.iload_n 2, 1) := by decide +kernel
theorem dX10_stands_1 : decode cX10_stands 1 = .ok (.aload_n 0, 1) := by decide +kernel
theorem dX10_stands_2 : decode cX10_stands 2 = .ok (.getfield 29, 3) := by decide +kernel
theorem dX10_stands_5 : decode cX10_stands 5 = .ok (.iload_n 3, 1) := by decide +kernel
theorem dX10_stands_6 : decode cX10_stands 6 = .ok (.iaload, 1) := by decide +kernel
theorem dX10_stands_7 : decode cX10_stands 7 = .ok (.iadd, 1) := by decide +kernel
theorem dX10_stands_8 : decode cX10_stands 8 = .ok (.aload_n 0, 1) := by decide +kernel
theorem dX10_stands_9 : decode cX10_stands 9 = .ok (.getfield 44, 3) := by decide +kernel
theorem dX10_stands_12 : decode cX10_stands 12 = .ok (.iload_n 1, 1) := by decide +kernel
theorem dX10_stands_13 : decode cX10_stands 13 = .ok (.iaload, 1) := by decide +kernel
theorem dX10_stands_14 : decode cX10_stands 14 = .ok (.if_icmp .gt 7, 3) := by decide +kernel
theorem dX10_stands_17 : decode cX10_stands 17 = .ok (.iconst 1, 1) := by decide +kernel
theorem dX10_stands_18 : decode cX10_stands 18 = .ok (.goto 4, 3) := by decide +kernel
theorem dX10_stands_21 : decode cX10_stands 21 = .ok (.iconst 0, 1) := by decide +kernel
theorem dX10_stands_22 : decode cX10_stands 22 = .ok (.istore 4, 2) := by decide +kernel
theorem dX10_stands_24 : decode cX10_stands 24 = .ok (.iconst 0, 1) := by decide +kernel
theorem dX10_stands_25 : decode cX10_stands 25 = .ok (.istore 5, 2) := by decide +kernel
theorem dX10_stands_27 : decode cX10_stands 27 = .ok (.iload 5, 2) := by decide +kernel
theorem dX10_stands_29 : decode cX10_stands 29 = .ok (.aload_n 0, 1) := by decide +kernel
theorem dX10_stands_30 : decode cX10_stands 30 = .ok (.getfield 29, 3) := by decide +kernel
theorem dX10_stands_33 : decode cX10_stands 33 = .ok (.iload_n 3, 1) := by decide +kernel
theorem dX10_stands_34 : decode cX10_stands 34 = .ok (.iaload, 1) := by decide +kernel
theorem dX10_stands_35 : decode cX10_stands 35 = .ok (.if_icmp .ge 50, 3) := by decide +kernel
theorem dX10_stands_38 : decode cX10_stands 38 = .ok (.iload 4, 2) := by decide +kernel
theorem dX10_stands_40 : decode cX10_stands 40 = .ok (.ifCond .eq 45, 3) := by decide +kernel
theorem dX10_stands_43 : decode cX10_stands 43 = .ok (.aload_n 0, 1) := by decide +kernel
theorem dX10_stands_44 : decode cX10_stands 44 = .ok (.getfield 47, 3) := by decide +kernel
theorem dX10_stands_47 : decode cX10_stands 47 = .ok (.bipush 7, 2) := by decide +kernel
theorem dX10_stands_49 : decode cX10_stands 49 = .ok (.iload_n 1, 1) := by decide +kernel
theorem dX10_stands_50 : decode cX10_stands 50 = .ok (.imul, 1) := by decide +kernel
theorem dX10_stands_51 : decode cX10_stands 51 = .ok (.iload_n 2, 1) := by decide +kernel
theorem dX10_stands_52 : decode cX10_stands 52 = .ok (.iadd, 1) := by decide +kernel
theorem dX10_stands_53 : decode cX10_stands 53 = .ok (.iload 5, 2) := by decide +kernel
theorem dX10_stands_55 : decode cX10_stands 55 = .ok (.iadd, 1) := by decide +kernel
theorem dX10_stands_56 : decode cX10_stands 56 = .ok (.iaload, 1) := by decide +kernel
theorem dX10_stands_57 : decode cX10_stands 57 = .ok (.aload_n 0, 1) := by decide +kernel
theorem dX10_stands_58 : decode cX10_stands 58 = .ok (.getfield 32, 3) := by decide +kernel
theorem dX10_stands_61 : decode cX10_stands 61 = .ok (.bipush 7, 2) := by decide +kernel
theorem dX10_stands_63 : decode cX10_stands 63 = .ok (.iload_n 3, 1) := by decide +kernel
theorem dX10_stands_64 : decode cX10_stands 64 = .ok (.imul, 1) := by decide +kernel
theorem dX10_stands_65 : decode cX10_stands 65 = .ok (.iload 5, 2) := by decide +kernel
theorem dX10_stands_67 : decode cX10_stands 67 = .ok (.iadd, 1) := by decide +kernel
theorem dX10_stands_68 : decode cX10_stands 68 = .ok (.iaload, 1) := by decide +kernel
theorem dX10_stands_69 : decode cX10_stands 69 = .ok (.if_icmp .ne 7, 3) := by decide +kernel
theorem dX10_stands_72 : decode cX10_stands 72 = .ok (.iconst 1, 1) := by decide +kernel
theorem dX10_stands_73 : decode cX10_stands 73 = .ok (.goto 4, 3) := by decide +kernel
theorem dX10_stands_76 : decode cX10_stands 76 = .ok (.iconst 0, 1) := by decide +kernel
theorem dX10_stands_77 : decode cX10_stands 77 = .ok (.istore 4, 2) := by decide +kernel
theorem dX10_stands_79 : decode cX10_stands 79 = .ok (.iinc 5 1, 3) := by decide +kernel
theorem dX10_stands_82 : decode cX10_stands 82 = .ok (.goto (-55), 3) := by decide +kernel
theorem dX10_stands_85 : decode cX10_stands 85 = .ok (.iload 4, 2) := by decide +kernel
theorem dX10_stands_87 : decode cX10_stands 87 = .ok (.ireturn, 1) := by decide +kernel
theorem dX10_stepped_0 : decode cX10_stepped 0 = .ok (.aload_n 0, 1) := by decide +kernel
theorem dX10_stepped_1 : decode cX10_stepped 1 = .ok (.getfield 29, 3) := by decide +kernel
theorem dX10_stepped_4 : decode cX10_stepped 4 = .ok (.iload_n 2, 1) := by decide +kernel
theorem dX10_stepped_5 : decode cX10_stepped 5 = .ok (.iaload, 1) := by decide +kernel
theorem dX10_stepped_6 : decode cX10_stepped 6 = .ok (.ifCond .eq 13, 3) := by decide +kernel
theorem dX10_stepped_9 : decode cX10_stepped 9 = .ok (.aload_n 0, 1) := by decide +kernel
theorem dX10_stepped_10 : decode cX10_stepped 10 = .ok (.iload_n 1, 1) := by decide +kernel
theorem dX10_stepped_11 : decode cX10_stepped 11 = .ok (.iload_n 3, 1) := by decide +kernel
theorem dX10_stepped_12 : decode cX10_stepped 12 = .ok (.iload_n 2, 1) := by decide +kernel
theorem dX10_stepped_13 : decode cX10_stepped 13 = .ok (.invokevirtual 172, 3) := by decide +kernel
theorem dX10_stepped_16 : decode cX10_stepped 16 = .ok (.ifCond .ne 5, 3) := by decide +kernel
theorem dX10_stepped_19 : decode cX10_stepped 19 = .ok (.iconst (-1), 1) := by decide +kernel
theorem dX10_stepped_20 : decode cX10_stepped 20 = .ok (.ireturn, 1) := by decide +kernel
theorem dX10_stepped_21 : decode cX10_stepped 21 = .ok (.iload_n 2, 1) := by decide +kernel
theorem dX10_stepped_22 : decode cX10_stepped 22 = .ok (.iconst 2, 1) := by decide +kernel
theorem dX10_stepped_23 : decode cX10_stepped 23 = .ok (.irem, 1) := by decide +kernel
theorem dX10_stepped_24 : decode cX10_stepped 24 = .ok (.ifCond .ne 9, 3) := by decide +kernel
theorem dX10_stepped_27 : decode cX10_stepped 27 = .ok (.iload_n 2, 1) := by decide +kernel
theorem dX10_stepped_28 : decode cX10_stepped 28 = .ok (.iconst 1, 1) := by decide +kernel
theorem dX10_stepped_29 : decode cX10_stepped 29 = .ok (.iadd, 1) := by decide +kernel
theorem dX10_stepped_30 : decode cX10_stepped 30 = .ok (.goto 6, 3) := by decide +kernel
theorem dX10_stepped_33 : decode cX10_stepped 33 = .ok (.iload_n 2, 1) := by decide +kernel
theorem dX10_stepped_34 : decode cX10_stepped 34 = .ok (.iconst 1, 1) := by decide +kernel
theorem dX10_stepped_35 : decode cX10_stepped 35 = .ok (.isub, 1) := by decide +kernel
theorem dX10_stepped_36 : decode cX10_stepped 36 = .ok (.istore 4, 2) := by decide +kernel
theorem dX10_stepped_38 : decode cX10_stepped 38 = .ok (.aload_n 0, 1) := by decide +kernel
theorem dX10_stepped_39 : decode cX10_stepped 39 = .ok (.getfield 38, 3) := by decide +kernel
theorem dX10_stepped_42 : decode cX10_stepped 42 = .ok (.iload_n 1, 1) := by decide +kernel
theorem dX10_stepped_43 : decode cX10_stepped 43 = .ok (.iaload, 1) := by decide +kernel
theorem dX10_stepped_44 : decode cX10_stepped 44 = .ok (.istore 5, 2) := by decide +kernel
theorem dX10_stepped_46 : decode cX10_stepped 46 = .ok (.iconst 0, 1) := by decide +kernel
theorem dX10_stepped_47 : decode cX10_stepped 47 = .ok (.istore 6, 2) := by decide +kernel
theorem dX10_stepped_49 : decode cX10_stepped 49 = .ok (.iload 6, 2) := by decide +kernel
theorem dX10_stepped_51 : decode cX10_stepped 51 = .ok (.iload_n 3, 1) := by decide +kernel
theorem dX10_stepped_52 : decode cX10_stepped 52 = .ok (.if_icmp .ge 34, 3) := by decide +kernel
theorem dX10_stepped_55 : decode cX10_stepped 55 = .ok (.aload_n 0, 1) := by decide +kernel
theorem dX10_stepped_56 : decode cX10_stepped 56 = .ok (.getfield 50, 3) := by decide +kernel
theorem dX10_stepped_59 : decode cX10_stepped 59 = .ok (.bipush 14, 2) := by decide +kernel
theorem dX10_stepped_61 : decode cX10_stepped 61 = .ok (.iload 5, 2) := by decide +kernel
theorem dX10_stepped_63 : decode cX10_stepped 63 = .ok (.imul, 1) := by decide +kernel
theorem dX10_stepped_64 : decode cX10_stepped 64 = .ok (.aload_n 0, 1) := by decide +kernel
theorem dX10_stepped_65 : decode cX10_stepped 65 = .ok (.getfield 47, 3) := by decide +kernel
theorem dX10_stepped_68 : decode cX10_stepped 68 = .ok (.bipush 7, 2) := by decide +kernel
theorem dX10_stepped_70 : decode cX10_stepped 70 = .ok (.iload_n 1, 1) := by decide +kernel
theorem dX10_stepped_71 : decode cX10_stepped 71 = .ok (.imul, 1) := by decide +kernel
theorem dX10_stepped_72 : decode cX10_stepped 72 = .ok (.iload 6, 2) := by decide +kernel
theorem dX10_stepped_74 : decode cX10_stepped 74 = .ok (.iadd, 1) := by decide +kernel
theorem dX10_stepped_75 : decode cX10_stepped 75 = .ok (.iaload, 1) := by decide +kernel
theorem dX10_stepped_76 : decode cX10_stepped 76 = .ok (.iadd, 1) := by decide +kernel
theorem dX10_stepped_77 : decode cX10_stepped 77 = .ok (.iaload, 1) := by decide +kernel
theorem dX10_stepped_78 : decode cX10_stepped 78 = .ok (.istore 5, 2) := by decide +kernel
theorem dX10_stepped_80 : decode cX10_stepped 80 = .ok (.iinc 6 1, 3) := by decide +kernel
theorem dX10_stepped_83 : decode cX10_stepped 83 = .ok (.goto (-34), 3) := by decide +kernel
theorem dX10_stepped_86 : decode cX10_stepped 86 = .ok (.iconst 0, 1) := by decide +kernel
theorem dX10_stepped_87 : decode cX10_stepped 87 = .ok (.istore 6, 2) := by decide +kernel
theorem dX10_stepped_89 : decode cX10_stepped 89 = .ok (.iload 6, 2) := by decide +kernel
theorem dX10_stepped_91 : decode cX10_stepped 91 = .ok (.aload_n 0, 1) := by decide +kernel
theorem dX10_stepped_92 : decode cX10_stepped 92 = .ok (.getfield 29, 3) := by decide +kernel
theorem dX10_stepped_95 : decode cX10_stepped 95 = .ok (.iload 4, 2) := by decide +kernel
theorem dX10_stepped_97 : decode cX10_stepped 97 = .ok (.iaload, 1) := by decide +kernel
theorem dX10_stepped_98 : decode cX10_stepped 98 = .ok (.if_icmp .ge 35, 3) := by decide +kernel
theorem dX10_stepped_101 : decode cX10_stepped 101 = .ok (.aload_n 0, 1) := by decide +kernel
theorem dX10_stepped_102 : decode cX10_stepped 102 = .ok (.getfield 50, 3) := by decide +kernel
theorem dX10_stepped_105 : decode cX10_stepped 105 = .ok (.bipush 14, 2) := by decide +kernel
theorem dX10_stepped_107 : decode cX10_stepped 107 = .ok (.iload 5, 2) := by decide +kernel
theorem dX10_stepped_109 : decode cX10_stepped 109 = .ok (.imul, 1) := by decide +kernel
theorem dX10_stepped_110 : decode cX10_stepped 110 = .ok (.aload_n 0, 1) := by decide +kernel
theorem dX10_stepped_111 : decode cX10_stepped 111 = .ok (.getfield 32, 3) := by decide +kernel
theorem dX10_stepped_114 : decode cX10_stepped 114 = .ok (.bipush 7, 2) := by decide +kernel
theorem dX10_stepped_116 : decode cX10_stepped 116 = .ok (.iload 4, 2) := by decide +kernel
theorem dX10_stepped_118 : decode cX10_stepped 118 = .ok (.imul, 1) := by decide +kernel
theorem dX10_stepped_119 : decode cX10_stepped 119 = .ok (.iload 6, 2) := by decide +kernel
theorem dX10_stepped_121 : decode cX10_stepped 121 = .ok (.iadd, 1) := by decide +kernel
theorem dX10_stepped_122 : decode cX10_stepped 122 = .ok (.iaload, 1) := by decide +kernel
theorem dX10_stepped_123 : decode cX10_stepped 123 = .ok (.iadd, 1) := by decide +kernel
theorem dX10_stepped_124 : decode cX10_stepped 124 = .ok (.iaload, 1) := by decide +kernel
theorem dX10_stepped_125 : decode cX10_stepped 125 = .ok (.istore 5, 2) := by decide +kernel
theorem dX10_stepped_127 : decode cX10_stepped 127 = .ok (.iinc 6 1, 3) := by decide +kernel
theorem dX10_stepped_130 : decode cX10_stepped 130 = .ok (.goto (-41), 3) := by decide +kernel
theorem dX10_stepped_133 : decode cX10_stepped 133 = .ok (.iload_n 3, 1) := by decide +kernel
theorem dX10_stepped_134 : decode cX10_stepped 134 = .ok (.aload_n 0, 1) := by decide +kernel
theorem dX10_stepped_135 : decode cX10_stepped 135 = .ok (.getfield 29, 3) := by decide +kernel
theorem dX10_stepped_138 : decode cX10_stepped 138 = .ok (.iload_n 2, 1) := by decide +kernel
theorem dX10_stepped_139 : decode cX10_stepped 139 = .ok (.iaload, 1) := by decide +kernel
theorem dX10_stepped_140 : decode cX10_stepped 140 = .ok (.iadd, 1) := by decide +kernel
theorem dX10_stepped_141 : decode cX10_stepped 141 = .ok (.istore 6, 2) := by decide +kernel
theorem dX10_stepped_143 : decode cX10_stepped 143 = .ok (.iload 6, 2) := by decide +kernel
theorem dX10_stepped_145 : decode cX10_stepped 145 = .ok (.aload_n 0, 1) := by decide +kernel
theorem dX10_stepped_146 : decode cX10_stepped 146 = .ok (.getfield 44, 3) := by decide +kernel
theorem dX10_stepped_149 : decode cX10_stepped 149 = .ok (.iload_n 1, 1) := by decide +kernel
theorem dX10_stepped_150 : decode cX10_stepped 150 = .ok (.iaload, 1) := by decide +kernel
theorem dX10_stepped_151 : decode cX10_stepped 151 = .ok (.if_icmp .ge 34, 3) := by decide +kernel
theorem dX10_stepped_154 : decode cX10_stepped 154 = .ok (.aload_n 0, 1) := by decide +kernel
theorem dX10_stepped_155 : decode cX10_stepped 155 = .ok (.getfield 50, 3) := by decide +kernel
theorem dX10_stepped_158 : decode cX10_stepped 158 = .ok (.bipush 14, 2) := by decide +kernel
theorem dX10_stepped_160 : decode cX10_stepped 160 = .ok (.iload 5, 2) := by decide +kernel
theorem dX10_stepped_162 : decode cX10_stepped 162 = .ok (.imul, 1) := by decide +kernel
theorem dX10_stepped_163 : decode cX10_stepped 163 = .ok (.aload_n 0, 1) := by decide +kernel
theorem dX10_stepped_164 : decode cX10_stepped 164 = .ok (.getfield 47, 3) := by decide +kernel
theorem dX10_stepped_167 : decode cX10_stepped 167 = .ok (.bipush 7, 2) := by decide +kernel
theorem dX10_stepped_169 : decode cX10_stepped 169 = .ok (.iload_n 1, 1) := by decide +kernel
theorem dX10_stepped_170 : decode cX10_stepped 170 = .ok (.imul, 1) := by decide +kernel
theorem dX10_stepped_171 : decode cX10_stepped 171 = .ok (.iload 6, 2) := by decide +kernel
theorem dX10_stepped_173 : decode cX10_stepped 173 = .ok (.iadd, 1) := by decide +kernel
theorem dX10_stepped_174 : decode cX10_stepped 174 = .ok (.iaload, 1) := by decide +kernel
theorem dX10_stepped_175 : decode cX10_stepped 175 = .ok (.iadd, 1) := by decide +kernel
theorem dX10_stepped_176 : decode cX10_stepped 176 = .ok (.iaload, 1) := by decide +kernel
theorem dX10_stepped_177 : decode cX10_stepped 177 = .ok (.istore 5, 2) := by decide +kernel
theorem dX10_stepped_179 : decode cX10_stepped 179 = .ok (.iinc 6 1, 3) := by decide +kernel
theorem dX10_stepped_182 : decode cX10_stepped 182 = .ok (.goto (-39), 3) := by decide +kernel
theorem dX10_stepped_185 : decode cX10_stepped 185 = .ok (.iload 5, 2) := by decide +kernel
theorem dX10_stepped_187 : decode cX10_stepped 187 = .ok (.ireturn, 1) := by decide +kernel
theorem dX10_spread_0 : decode cX10_spread 0 = .ok (.iconst 1, 1) := by decide +kernel
theorem dX10_spread_1 : decode cX10_spread 1 = .ok (.istore_n 3, 1) := by decide +kernel
theorem dX10_spread_2 : decode cX10_spread 2 = .ok (.aload_n 0, 1) := by decide +kernel
theorem dX10_spread_3 : decode cX10_spread 3 = .ok (.getfield 59, 3) := by decide +kernel
theorem dX10_spread_6 : decode cX10_spread 6 = .ok (.iconst 0, 1) := by decide +kernel
theorem dX10_spread_7 : decode cX10_spread 7 = .ok (.iload_n 1, 1) := by decide +kernel
theorem dX10_spread_8 : decode cX10_spread 8 = .ok (.iastore, 1) := by decide +kernel
theorem dX10_spread_9 : decode cX10_spread 9 = .ok (.aload_n 0, 1) := by decide +kernel
theorem dX10_spread_10 : decode cX10_spread 10 = .ok (.getfield 53, 3) := by decide +kernel
theorem dX10_spread_13 : decode cX10_spread 13 = .ok (.iload_n 1, 1) := by decide +kernel
theorem dX10_spread_14 : decode cX10_spread 14 = .ok (.iconst 0, 1) := by decide +kernel
theorem dX10_spread_15 : decode cX10_spread 15 = .ok (.iastore, 1) := by decide +kernel
theorem dX10_spread_16 : decode cX10_spread 16 = .ok (.aload_n 0, 1) := by decide +kernel
theorem dX10_spread_17 : decode cX10_spread 17 = .ok (.getfield 56, 3) := by decide +kernel
theorem dX10_spread_20 : decode cX10_spread 20 = .ok (.iload_n 1, 1) := by decide +kernel
theorem dX10_spread_21 : decode cX10_spread 21 = .ok (.iload_n 1, 1) := by decide +kernel
theorem dX10_spread_22 : decode cX10_spread 22 = .ok (.iastore, 1) := by decide +kernel
theorem dX10_spread_23 : decode cX10_spread 23 = .ok (.iconst 0, 1) := by decide +kernel
theorem dX10_spread_24 : decode cX10_spread 24 = .ok (.istore 4, 2) := by decide +kernel
theorem dX10_spread_26 : decode cX10_spread 26 = .ok (.iload 4, 2) := by decide +kernel
theorem dX10_spread_28 : decode cX10_spread 28 = .ok (.iload_n 3, 1) := by decide +kernel
theorem dX10_spread_29 : decode cX10_spread 29 = .ok (.if_icmp .ge 129, 3) := by decide +kernel
theorem dX10_spread_32 : decode cX10_spread 32 = .ok (.aload_n 0, 1) := by decide +kernel
theorem dX10_spread_33 : decode cX10_spread 33 = .ok (.getfield 59, 3) := by decide +kernel
theorem dX10_spread_36 : decode cX10_spread 36 = .ok (.iload 4, 2) := by decide +kernel
theorem dX10_spread_38 : decode cX10_spread 38 = .ok (.iaload, 1) := by decide +kernel
theorem dX10_spread_39 : decode cX10_spread 39 = .ok (.istore 5, 2) := by decide +kernel
theorem dX10_spread_41 : decode cX10_spread 41 = .ok (.iconst 0, 1) := by decide +kernel
theorem dX10_spread_42 : decode cX10_spread 42 = .ok (.istore 6, 2) := by decide +kernel
theorem dX10_spread_44 : decode cX10_spread 44 = .ok (.iload 6, 2) := by decide +kernel
theorem dX10_spread_46 : decode cX10_spread 46 = .ok (.bipush 14, 2) := by decide +kernel
theorem dX10_spread_48 : decode cX10_spread 48 = .ok (.aload_n 0, 1) := by decide +kernel
theorem dX10_spread_49 : decode cX10_spread 49 = .ok (.getfield 82, 3) := by decide +kernel
theorem dX10_spread_52 : decode cX10_spread 52 = .ok (.imul, 1) := by decide +kernel
theorem dX10_spread_53 : decode cX10_spread 53 = .ok (.if_icmp .ge 99, 3) := by decide +kernel
theorem dX10_spread_56 : decode cX10_spread 56 = .ok (.iload 6, 2) := by decide +kernel
theorem dX10_spread_58 : decode cX10_spread 58 = .ok (.bipush 7, 2) := by decide +kernel
theorem dX10_spread_60 : decode cX10_spread 60 = .ok (.idiv, 1) := by decide +kernel
theorem dX10_spread_61 : decode cX10_spread 61 = .ok (.istore 7, 2) := by decide +kernel
theorem dX10_spread_63 : decode cX10_spread 63 = .ok (.iload_n 2, 1) := by decide +kernel
theorem dX10_spread_64 : decode cX10_spread 64 = .ok (.iload 7, 2) := by decide +kernel
theorem dX10_spread_66 : decode cX10_spread 66 = .ok (.iconst 2, 1) := by decide +kernel
theorem dX10_spread_67 : decode cX10_spread 67 = .ok (.idiv, 1) := by decide +kernel
theorem dX10_spread_68 : decode cX10_spread 68 = .ok (.ishr, 1) := by decide +kernel
theorem dX10_spread_69 : decode cX10_spread 69 = .ok (.iconst 1, 1) := by decide +kernel
theorem dX10_spread_70 : decode cX10_spread 70 = .ok (.iand, 1) := by decide +kernel
theorem dX10_spread_71 : decode cX10_spread 71 = .ok (.iconst 1, 1) := by decide +kernel
theorem dX10_spread_72 : decode cX10_spread 72 = .ok (.if_icmp .ne 19, 3) := by decide +kernel
theorem dX10_spread_75 : decode cX10_spread 75 = .ok (.aload_n 0, 1) := by decide +kernel
theorem dX10_spread_76 : decode cX10_spread 76 = .ok (.iload 5, 2) := by decide +kernel
theorem dX10_spread_78 : decode cX10_spread 78 = .ok (.iload 7, 2) := by decide +kernel
theorem dX10_spread_80 : decode cX10_spread 80 = .ok (.iload 6, 2) := by decide +kernel
theorem dX10_spread_82 : decode cX10_spread 82 = .ok (.bipush 7, 2) := by decide +kernel
theorem dX10_spread_84 : decode cX10_spread 84 = .ok (.irem, 1) := by decide +kernel
theorem dX10_spread_85 : decode cX10_spread 85 = .ok (.invokevirtual 175, 3) := by decide +kernel
theorem dX10_spread_88 : decode cX10_spread 88 = .ok (.goto 4, 3) := by decide +kernel
theorem dX10_spread_91 : decode cX10_spread 91 = .ok (.iconst (-1), 1) := by decide +kernel
theorem dX10_spread_92 : decode cX10_spread 92 = .ok (.istore 8, 2) := by decide +kernel
theorem dX10_spread_94 : decode cX10_spread 94 = .ok (.iload 8, 2) := by decide +kernel
theorem dX10_spread_96 : decode cX10_spread 96 = .ok (.iconst (-1), 1) := by decide +kernel
theorem dX10_spread_97 : decode cX10_spread 97 = .ok (.if_icmp .eq 49, 3) := by decide +kernel
theorem dX10_spread_100 : decode cX10_spread 100 = .ok (.aload_n 0, 1) := by decide +kernel
theorem dX10_spread_101 : decode cX10_spread 101 = .ok (.getfield 53, 3) := by decide +kernel
theorem dX10_spread_104 : decode cX10_spread 104 = .ok (.iload 8, 2) := by decide +kernel
theorem dX10_spread_106 : decode cX10_spread 106 = .ok (.iaload, 1) := by decide +kernel
theorem dX10_spread_107 : decode cX10_spread 107 = .ok (.iconst (-1), 1) := by decide +kernel
theorem dX10_spread_108 : decode cX10_spread 108 = .ok (.if_icmp .ne 38, 3) := by decide +kernel
theorem dX10_spread_111 : decode cX10_spread 111 = .ok (.aload_n 0, 1) := by decide +kernel
theorem dX10_spread_112 : decode cX10_spread 112 = .ok (.getfield 53, 3) := by decide +kernel
theorem dX10_spread_115 : decode cX10_spread 115 = .ok (.iload 8, 2) := by decide +kernel
theorem dX10_spread_117 : decode cX10_spread 117 = .ok (.aload_n 0, 1) := by decide +kernel
theorem dX10_spread_118 : decode cX10_spread 118 = .ok (.getfield 53, 3) := by decide +kernel
theorem dX10_spread_121 : decode cX10_spread 121 = .ok (.iload 5, 2) := by decide +kernel
theorem dX10_spread_123 : decode cX10_spread 123 = .ok (.iaload, 1) := by decide +kernel
theorem dX10_spread_124 : decode cX10_spread 124 = .ok (.iconst 1, 1) := by decide +kernel
theorem dX10_spread_125 : decode cX10_spread 125 = .ok (.iadd, 1) := by decide +kernel
theorem dX10_spread_126 : decode cX10_spread 126 = .ok (.iastore, 1) := by decide +kernel
theorem dX10_spread_127 : decode cX10_spread 127 = .ok (.aload_n 0, 1) := by decide +kernel
theorem dX10_spread_128 : decode cX10_spread 128 = .ok (.getfield 56, 3) := by decide +kernel
theorem dX10_spread_131 : decode cX10_spread 131 = .ok (.iload 8, 2) := by decide +kernel
theorem dX10_spread_133 : decode cX10_spread 133 = .ok (.iload_n 1, 1) := by decide +kernel
theorem dX10_spread_134 : decode cX10_spread 134 = .ok (.iastore, 1) := by decide +kernel
theorem dX10_spread_135 : decode cX10_spread 135 = .ok (.aload_n 0, 1) := by decide +kernel
theorem dX10_spread_136 : decode cX10_spread 136 = .ok (.getfield 59, 3) := by decide +kernel
theorem dX10_spread_139 : decode cX10_spread 139 = .ok (.iload_n 3, 1) := by decide +kernel
theorem dX10_spread_140 : decode cX10_spread 140 = .ok (.iload 8, 2) := by decide +kernel
theorem dX10_spread_142 : decode cX10_spread 142 = .ok (.iastore, 1) := by decide +kernel
theorem dX10_spread_143 : decode cX10_spread 143 = .ok (.iinc 3 1, 3) := by decide +kernel
theorem dX10_spread_146 : decode cX10_spread 146 = .ok (.iinc 6 1, 3) := by decide +kernel
theorem dX10_spread_149 : decode cX10_spread 149 = .ok (.goto (-105), 3) := by decide +kernel
theorem dX10_spread_152 : decode cX10_spread 152 = .ok (.iinc 4 1, 3) := by decide +kernel
theorem dX10_spread_155 : decode cX10_spread 155 = .ok (.goto (-129), 3) := by decide +kernel
theorem dX10_spread_158 : decode cX10_spread 158 = .ok (.iload_n 3, 1) := by decide +kernel
theorem dX10_spread_159 : decode cX10_spread 159 = .ok (.ireturn, 1) := by decide +kernel
theorem dX10_clearFar_0 : decode cX10_clearFar 0 = .ok (.iconst 0, 1) := by decide +kernel
theorem dX10_clearFar_1 : decode cX10_clearFar 1 = .ok (.istore_n 1, 1) := by decide +kernel
theorem dX10_clearFar_2 : decode cX10_clearFar 2 = .ok (.iload_n 1, 1) := by decide +kernel
theorem dX10_clearFar_3 : decode cX10_clearFar 3 = .ok (.aload_n 0, 1) := by decide +kernel
theorem dX10_clearFar_4 : decode cX10_clearFar 4 = .ok (.getfield 89, 3) := by decide +kernel
theorem dX10_clearFar_7 : decode cX10_clearFar 7 = .ok (.if_icmp .ge 16, 3) := by decide +kernel
theorem dX10_clearFar_10 : decode cX10_clearFar 10 = .ok (.aload_n 0, 1) := by decide +kernel
theorem dX10_clearFar_11 : decode cX10_clearFar 11 = .ok (.getfield 53, 3) := by decide +kernel
theorem dX10_clearFar_14 : decode cX10_clearFar 14 = .ok (.iload_n 1, 1) := by decide +kernel
theorem dX10_clearFar_15 : decode cX10_clearFar 15 = .ok (.iconst (-1), 1) := by decide +kernel
theorem dX10_clearFar_16 : decode cX10_clearFar 16 = .ok (.iastore, 1) := by decide +kernel
theorem dX10_clearFar_17 : decode cX10_clearFar 17 = .ok (.iinc 1 1, 3) := by decide +kernel
theorem dX10_clearFar_20 : decode cX10_clearFar 20 = .ok (.goto (-18), 3) := by decide +kernel
theorem dX10_clearFar_23 : decode cX10_clearFar 23 = .ok (.return_, 1) := by decide +kernel
theorem dX10_layNames_0 : decode cX10_layNames 0 = .ok (.iconst 0, 1) := by decide +kernel
theorem dX10_layNames_1 : decode cX10_layNames 1 = .ok (.istore_n 2, 1) := by decide +kernel
theorem dX10_layNames_2 : decode cX10_layNames 2 = .ok (.aload_n 0, 1) := by decide +kernel
theorem dX10_layNames_3 : decode cX10_layNames 3 = .ok (.invokevirtual 179, 3) := by decide +kernel
theorem dX10_layNames_6 : decode cX10_layNames 6 = .ok (.iconst 0, 1) := by decide +kernel
theorem dX10_layNames_7 : decode cX10_layNames 7 = .ok (.istore_n 3, 1) := by decide +kernel
theorem dX10_layNames_8 : decode cX10_layNames 8 = .ok (.iload_n 3, 1) := by decide +kernel
theorem dX10_layNames_9 : decode cX10_layNames 9 = .ok (.aload_n 0, 1) := by decide +kernel
theorem dX10_layNames_10 : decode cX10_layNames 10 = .ok (.getfield 89, 3) := by decide +kernel
theorem dX10_layNames_13 : decode cX10_layNames 13 = .ok (.if_icmp .ge 29, 3) := by decide +kernel
theorem dX10_layNames_16 : decode cX10_layNames 16 = .ok (.aload_n 0, 1) := by decide +kernel
theorem dX10_layNames_17 : decode cX10_layNames 17 = .ok (.getfield 53, 3) := by decide +kernel
theorem dX10_layNames_20 : decode cX10_layNames 20 = .ok (.iload_n 3, 1) := by decide +kernel
theorem dX10_layNames_21 : decode cX10_layNames 21 = .ok (.iaload, 1) := by decide +kernel
theorem dX10_layNames_22 : decode cX10_layNames 22 = .ok (.iconst (-1), 1) := by decide +kernel
theorem dX10_layNames_23 : decode cX10_layNames 23 = .ok (.if_icmp .ne 13, 3) := by decide +kernel
theorem dX10_layNames_26 : decode cX10_layNames 26 = .ok (.aload_n 0, 1) := by decide +kernel
theorem dX10_layNames_27 : decode cX10_layNames 27 = .ok (.iload_n 3, 1) := by decide +kernel
theorem dX10_layNames_28 : decode cX10_layNames 28 = .ok (.iload_n 1, 1) := by decide +kernel
theorem dX10_layNames_29 : decode cX10_layNames 29 = .ok (.invokevirtual 182, 3) := by decide +kernel
theorem dX10_layNames_32 : decode cX10_layNames 32 = .ok (.pop, 1) := by decide +kernel
theorem dX10_layNames_33 : decode cX10_layNames 33 = .ok (.iinc 2 1, 3) := by decide +kernel
theorem dX10_layNames_36 : decode cX10_layNames 36 = .ok (.iinc 3 1, 3) := by decide +kernel
theorem dX10_layNames_39 : decode cX10_layNames 39 = .ok (.goto (-31), 3) := by decide +kernel
theorem dX10_layNames_42 : decode cX10_layNames 42 = .ok (.iload_n 2, 1) := by decide +kernel
theorem dX10_layNames_43 : decode cX10_layNames 43 = .ok (.ireturn, 1) := by decide +kernel
theorem dX10_allCells_0 : decode cX10_allCells 0 = .ok (.iconst 1, 1) := by decide +kernel
theorem dX10_allCells_1 : decode cX10_allCells 1 = .ok (.aload_n 0, 1) := by decide +kernel
theorem dX10_allCells_2 : decode cX10_allCells 2 = .ok (.getfield 82, 3) := by decide +kernel
theorem dX10_allCells_5 : decode cX10_allCells 5 = .ok (.ishl, 1) := by decide +kernel
theorem dX10_allCells_6 : decode cX10_allCells 6 = .ok (.iconst 1, 1) := by decide +kernel
theorem dX10_allCells_7 : decode cX10_allCells 7 = .ok (.isub, 1) := by decide +kernel
theorem dX10_allCells_8 : decode cX10_allCells 8 = .ok (.ireturn, 1) := by decide +kernel
theorem dX10_areEqual_0 : decode cX10_areEqual 0 = .ok (.aload_n 0, 1) := by decide +kernel
theorem dX10_areEqual_1 : decode cX10_areEqual 1 = .ok (.invokevirtual 179, 3) := by decide +kernel
theorem dX10_areEqual_4 : decode cX10_areEqual 4 = .ok (.aload_n 0, 1) := by decide +kernel
theorem dX10_areEqual_5 : decode cX10_areEqual 5 = .ok (.iload_n 1, 1) := by decide +kernel
theorem dX10_areEqual_6 : decode cX10_areEqual 6 = .ok (.iload_n 3, 1) := by decide +kernel
theorem dX10_areEqual_7 : decode cX10_areEqual 7 = .ok (.invokevirtual 182, 3) := by decide +kernel
theorem dX10_areEqual_10 : decode cX10_areEqual 10 = .ok (.pop, 1) := by decide +kernel
theorem dX10_areEqual_11 : decode cX10_areEqual 11 = .ok (.aload_n 0, 1) := by decide +kernel
theorem dX10_areEqual_12 : decode cX10_areEqual 12 = .ok (.getfield 53, 3) := by decide +kernel
theorem dX10_areEqual_15 : decode cX10_areEqual 15 = .ok (.iload_n 2, 1) := by decide +kernel
theorem dX10_areEqual_16 : decode cX10_areEqual 16 = .ok (.iaload, 1) := by decide +kernel
theorem dX10_areEqual_17 : decode cX10_areEqual 17 = .ok (.iconst (-1), 1) := by decide +kernel
theorem dX10_areEqual_18 : decode cX10_areEqual 18 = .ok (.if_icmp .eq 7, 3) := by decide +kernel
theorem dX10_areEqual_21 : decode cX10_areEqual 21 = .ok (.iconst 1, 1) := by decide +kernel
theorem dX10_areEqual_22 : decode cX10_areEqual 22 = .ok (.goto 4, 3) := by decide +kernel
theorem dX10_areEqual_25 : decode cX10_areEqual 25 = .ok (.iconst 0, 1) := by decide +kernel
theorem dX10_areEqual_26 : decode cX10_areEqual 26 = .ok (.ireturn, 1) := by decide +kernel
theorem dX10_isRedundant_0 : decode cX10_isRedundant 0 = .ok (.aload_n 0, 1) := by decide +kernel
theorem dX10_isRedundant_1 : decode cX10_isRedundant 1 = .ok (.aload_n 0, 1) := by decide +kernel
theorem dX10_isRedundant_2 : decode cX10_isRedundant 2 = .ok (.iload_n 1, 1) := by decide +kernel
theorem dX10_isRedundant_3 : decode cX10_isRedundant 3 = .ok (.iconst 0, 1) := by decide +kernel
theorem dX10_isRedundant_4 : decode cX10_isRedundant 4 = .ok (.invokevirtual 186, 3) := by decide +kernel
theorem dX10_isRedundant_7 : decode cX10_isRedundant 7 = .ok (.aload_n 0, 1) := by decide +kernel
theorem dX10_isRedundant_8 : decode cX10_isRedundant 8 = .ok (.iload_n 1, 1) := by decide +kernel
theorem dX10_isRedundant_9 : decode cX10_isRedundant 9 = .ok (.iconst 1, 1) := by decide +kernel
theorem dX10_isRedundant_10 : decode cX10_isRedundant 10 = .ok (.invokevirtual 186, 3) := by decide +kernel
theorem dX10_isRedundant_13 : decode cX10_isRedundant 13 = .ok (.iload_n 2, 1) := by decide +kernel
theorem dX10_isRedundant_14 : decode cX10_isRedundant 14 = .ok (.iconst 1, 1) := by decide +kernel
theorem dX10_isRedundant_15 : decode cX10_isRedundant 15 = .ok (.iload_n 1, 1) := by decide +kernel
theorem dX10_isRedundant_16 : decode cX10_isRedundant 16 = .ok (.ishl, 1) := by decide +kernel
theorem dX10_isRedundant_17 : decode cX10_isRedundant 17 = .ok (.iconst (-1), 1) := by decide +kernel
theorem dX10_isRedundant_18 : decode cX10_isRedundant 18 = .ok (.ixor, 1) := by decide +kernel
theorem dX10_isRedundant_19 : decode cX10_isRedundant 19 = .ok (.iand, 1) := by decide +kernel
theorem dX10_isRedundant_20 : decode cX10_isRedundant 20 = .ok (.invokevirtual 189, 3) := by decide +kernel
theorem dX10_isRedundant_23 : decode cX10_isRedundant 23 = .ok (.ireturn, 1) := by decide +kernel
theorem dX10_core_0 : decode cX10_core 0 = .ok (.aload_n 0, 1) := by decide +kernel
theorem dX10_core_1 : decode cX10_core 1 = .ok (.invokevirtual 192, 3) := by decide +kernel
theorem dX10_core_4 : decode cX10_core 4 = .ok (.istore_n 1, 1) := by decide +kernel
theorem dX10_core_5 : decode cX10_core 5 = .ok (.aload_n 0, 1) := by decide +kernel
theorem dX10_core_6 : decode cX10_core 6 = .ok (.getfield 82, 3) := by decide +kernel
theorem dX10_core_9 : decode cX10_core 9 = .ok (.iconst 1, 1) := by decide +kernel
theorem dX10_core_10 : decode cX10_core 10 = .ok (.isub, 1) := by decide +kernel
theorem dX10_core_11 : decode cX10_core 11 = .ok (.istore_n 2, 1) := by decide +kernel
theorem dX10_core_12 : decode cX10_core 12 = .ok (.iload_n 2, 1) := by decide +kernel
theorem dX10_core_13 : decode cX10_core 13 = .ok (.ifCond .lt 30, 3) := by decide +kernel
theorem dX10_core_16 : decode cX10_core 16 = .ok (.aload_n 0, 1) := by decide +kernel
theorem dX10_core_17 : decode cX10_core 17 = .ok (.iload_n 2, 1) := by decide +kernel
theorem dX10_core_18 : decode cX10_core 18 = .ok (.iload_n 1, 1) := by decide +kernel
theorem dX10_core_19 : decode cX10_core 19 = .ok (.invokevirtual 195, 3) := by decide +kernel
theorem dX10_core_22 : decode cX10_core 22 = .ok (.ifCond .eq 13, 3) := by decide +kernel
theorem dX10_core_25 : decode cX10_core 25 = .ok (.iload_n 1, 1) := by decide +kernel
theorem dX10_core_26 : decode cX10_core 26 = .ok (.iconst 1, 1) := by decide +kernel
theorem dX10_core_27 : decode cX10_core 27 = .ok (.iload_n 2, 1) := by decide +kernel
theorem dX10_core_28 : decode cX10_core 28 = .ok (.ishl, 1) := by decide +kernel
theorem dX10_core_29 : decode cX10_core 29 = .ok (.iconst (-1), 1) := by decide +kernel
theorem dX10_core_30 : decode cX10_core 30 = .ok (.ixor, 1) := by decide +kernel
theorem dX10_core_31 : decode cX10_core 31 = .ok (.iand, 1) := by decide +kernel
theorem dX10_core_32 : decode cX10_core 32 = .ok (.goto 4, 3) := by decide +kernel
theorem dX10_core_35 : decode cX10_core 35 = .ok (.iload_n 1, 1) := by decide +kernel
theorem dX10_core_36 : decode cX10_core 36 = .ok (.istore_n 1, 1) := by decide +kernel
theorem dX10_core_37 : decode cX10_core 37 = .ok (.iinc 2 (-1), 3) := by decide +kernel

theorem dX9_init_0 : decode cX9_init 0 = .ok (.aload_n 0, 1) := by decide +kernel
theorem dX9_init_1 : decode cX9_init 1 = .ok (.invokespecial 3, 3) := by decide +kernel
theorem dX9_init_4 : decode cX9_init 4 = .ok (.aload_n 0, 1) := by decide +kernel
theorem dX9_init_5 : decode cX9_init 5 = .ok (.new 9, 3) := by decide +kernel
theorem dX9_init_8 : decode cX9_init 8 = .ok (.dup, 1) := by decide +kernel
theorem dX9_init_9 : decode cX9_init 9 = .ok (.invokespecial 11, 3) := by decide +kernel
theorem dX9_init_12 : decode cX9_init 12 = .ok (.putfield 12, 3) := by decide +kernel
theorem dX9_init_15 : decode cX9_init 15 = .ok (.aload_n 0, 1) := by decide +kernel
theorem dX9_init_16 : decode cX9_init 16 = .ok (.new 16, 3) := by decide +kernel
theorem dX9_init_19 : decode cX9_init 19 = .ok (.dup, 1) := by decide +kernel
theorem dX9_init_20 : decode cX9_init 20 = .ok (.invokespecial 18, 3) := by decide +kernel
theorem dX9_init_23 : decode cX9_init 23 = .ok (.putfield 19, 3) := by decide +kernel
theorem dX9_init_26 : decode cX9_init 26 = .ok (.aload_n 0, 1) := by decide +kernel
theorem dX9_init_27 : decode cX9_init 27 = .ok (.new 23, 3) := by decide +kernel
theorem dX9_init_30 : decode cX9_init 30 = .ok (.dup, 1) := by decide +kernel
theorem dX9_init_31 : decode cX9_init 31 = .ok (.invokespecial 25, 3) := by decide +kernel
theorem dX9_init_34 : decode cX9_init 34 = .ok (.putfield 26, 3) := by decide +kernel
theorem dX9_init_37 : decode cX9_init 37 = .ok (.aload_n 0, 1) := by decide +kernel
theorem dX9_init_38 : decode cX9_init 38 = .ok (.new 30, 3) := by decide +kernel
theorem dX9_init_41 : decode cX9_init 41 = .ok (.dup, 1) := by decide +kernel
theorem dX9_init_42 : decode cX9_init 42 = .ok (.invokespecial 32, 3) := by decide +kernel
theorem dX9_init_45 : decode cX9_init 45 = .ok (.putfield 33, 3) := by decide +kernel
theorem dX9_init_48 : decode cX9_init 48 = .ok (.aload_n 0, 1) := by decide +kernel
theorem dX9_init_49 : decode cX9_init 49 = .ok (.new 37, 3) := by decide +kernel
theorem dX9_init_52 : decode cX9_init 52 = .ok (.dup, 1) := by decide +kernel
theorem dX9_init_53 : decode cX9_init 53 = .ok (.invokespecial 39, 3) := by decide +kernel
theorem dX9_init_56 : decode cX9_init 56 = .ok (.putfield 40, 3) := by decide +kernel
theorem dX9_init_59 : decode cX9_init 59 = .ok (.aload_n 0, 1) := by decide +kernel
theorem dX9_init_60 : decode cX9_init 60 = .ok (.new 37, 3) := by decide +kernel
theorem dX9_init_63 : decode cX9_init 63 = .ok (.dup, 1) := by decide +kernel
theorem dX9_init_64 : decode cX9_init 64 = .ok (.invokespecial 39, 3) := by decide +kernel
theorem dX9_init_67 : decode cX9_init 67 = .ok (.putfield 44, 3) := by decide +kernel
theorem dX9_init_70 : decode cX9_init 70 = .ok (.aload_n 0, 1) := by decide +kernel
theorem dX9_init_71 : decode cX9_init 71 = .ok (.new 47, 3) := by decide +kernel
theorem dX9_init_74 : decode cX9_init 74 = .ok (.dup, 1) := by decide +kernel
theorem dX9_init_75 : decode cX9_init 75 = .ok (.invokespecial 49, 3) := by decide +kernel
theorem dX9_init_78 : decode cX9_init 78 = .ok (.putfield 50, 3) := by decide +kernel
theorem dX9_init_81 : decode cX9_init 81 = .ok (.aload_n 0, 1) := by decide +kernel
theorem dX9_init_82 : decode cX9_init 82 = .ok (.new 54, 3) := by decide +kernel
theorem dX9_init_85 : decode cX9_init 85 = .ok (.dup, 1) := by decide +kernel
theorem dX9_init_86 : decode cX9_init 86 = .ok (.invokespecial 56, 3) := by decide +kernel
theorem dX9_init_89 : decode cX9_init 89 = .ok (.putfield 57, 3) := by decide +kernel
theorem dX9_init_92 : decode cX9_init 92 = .ok (.aload_n 0, 1) := by decide +kernel
theorem dX9_init_93 : decode cX9_init 93 = .ok (.getfield 12, 3) := by decide +kernel
theorem dX9_init_96 : decode cX9_init 96 = .ok (.iconst 2, 1) := by decide +kernel
theorem dX9_init_97 : decode cX9_init 97 = .ok (.invokevirtual 61, 3) := by decide +kernel
theorem dX9_init_100 : decode cX9_init 100 = .ok (.aload_n 0, 1) := by decide +kernel
theorem dX9_init_101 : decode cX9_init 101 = .ok (.getfield 40, 3) := by decide +kernel
theorem dX9_init_104 : decode cX9_init 104 = .ok (.invokevirtual 65, 3) := by decide +kernel
theorem dX9_init_107 : decode cX9_init 107 = .ok (.aload_n 0, 1) := by decide +kernel
theorem dX9_init_108 : decode cX9_init 108 = .ok (.invokevirtual 67, 3) := by decide +kernel
theorem dX9_init_111 : decode cX9_init 111 = .ok (.return_, 1) := by decide +kernel
theorem dX9_begin_0 : decode cX9_begin 0 = .ok (.iload_n 1, 1) := by decide +kernel
theorem dX9_begin_1 : decode cX9_begin 1 = .ok (.iconst 2, 1) := by decide +kernel
theorem dX9_begin_2 : decode cX9_begin 2 = .ok (.if_icmp .lt 9, 3) := by decide +kernel
theorem dX9_begin_5 : decode cX9_begin 5 = .ok (.iload_n 1, 1) := by decide +kernel
theorem dX9_begin_6 : decode cX9_begin 6 = .ok (.bipush 8, 2) := by decide +kernel
theorem dX9_begin_8 : decode cX9_begin 8 = .ok (.if_icmp .le 13, 3) := by decide +kernel
theorem dX9_begin_11 : decode cX9_begin 11 = .ok (.new 70, 3) := by decide +kernel
theorem dX9_begin_14 : decode cX9_begin 14 = .ok (.dup, 1) := by decide +kernel
theorem dX9_begin_15 : decode cX9_begin 15 = .ok (.ldc 72, 2) := by decide +kernel
theorem dX9_begin_17 : decode cX9_begin 17 = .ok (.invokespecial 74, 3) := by decide +kernel
theorem dX9_begin_20 : decode cX9_begin 20 = .ok (.athrow, 1) := by decide +kernel
theorem dX9_begin_21 : decode cX9_begin 21 = .ok (.aload_n 0, 1) := by decide +kernel
theorem dX9_begin_22 : decode cX9_begin 22 = .ok (.getfield 12, 3) := by decide +kernel
theorem dX9_begin_25 : decode cX9_begin 25 = .ok (.invokevirtual 77, 3) := by decide +kernel
theorem dX9_begin_28 : decode cX9_begin 28 = .ok (.istore_n 2, 1) := by decide +kernel
theorem dX9_begin_29 : decode cX9_begin 29 = .ok (.aload_n 0, 1) := by decide +kernel
theorem dX9_begin_30 : decode cX9_begin 30 = .ok (.getfield 12, 3) := by decide +kernel
theorem dX9_begin_33 : decode cX9_begin 33 = .ok (.iload_n 1, 1) := by decide +kernel
theorem dX9_begin_34 : decode cX9_begin 34 = .ok (.invokevirtual 61, 3) := by decide +kernel
theorem dX9_begin_37 : decode cX9_begin 37 = .ok (.aload_n 0, 1) := by decide +kernel
theorem dX9_begin_38 : decode cX9_begin 38 = .ok (.getfield 19, 3) := by decide +kernel
theorem dX9_begin_41 : decode cX9_begin 41 = .ok (.invokevirtual 81, 3) := by decide +kernel
theorem dX9_begin_44 : decode cX9_begin 44 = .ok (.aload_n 0, 1) := by decide +kernel
theorem dX9_begin_45 : decode cX9_begin 45 = .ok (.getfield 40, 3) := by decide +kernel
theorem dX9_begin_48 : decode cX9_begin 48 = .ok (.invokevirtual 65, 3) := by decide +kernel
theorem dX9_begin_51 : decode cX9_begin 51 = .ok (.aload_n 0, 1) := by decide +kernel
theorem dX9_begin_52 : decode cX9_begin 52 = .ok (.invokevirtual 67, 3) := by decide +kernel
theorem dX9_begin_55 : decode cX9_begin 55 = .ok (.iload_n 2, 1) := by decide +kernel
theorem dX9_begin_56 : decode cX9_begin 56 = .ok (.ireturn, 1) := by decide +kernel
theorem dX9_addArrow_0 : decode cX9_addArrow 0 = .ok (.aload_n 0, 1) := by decide +kernel
theorem dX9_addArrow_1 : decode cX9_addArrow 1 = .ok (.iload_n 1, 1) := by decide +kernel
theorem dX9_addArrow_2 : decode cX9_addArrow 2 = .ok (.invokevirtual 82, 3) := by decide +kernel
theorem dX9_addArrow_5 : decode cX9_addArrow 5 = .ok (.aload_n 0, 1) := by decide +kernel
theorem dX9_addArrow_6 : decode cX9_addArrow 6 = .ok (.iload_n 2, 1) := by decide +kernel
theorem dX9_addArrow_7 : decode cX9_addArrow 7 = .ok (.invokevirtual 82, 3) := by decide +kernel
theorem dX9_addArrow_10 : decode cX9_addArrow 10 = .ok (.iload_n 2, 1) := by decide +kernel
theorem dX9_addArrow_11 : decode cX9_addArrow 11 = .ok (.iload_n 1, 1) := by decide +kernel
theorem dX9_addArrow_12 : decode cX9_addArrow 12 = .ok (.if_icmp .gt 13, 3) := by decide +kernel
theorem dX9_addArrow_15 : decode cX9_addArrow 15 = .ok (.new 70, 3) := by decide +kernel
theorem dX9_addArrow_18 : decode cX9_addArrow 18 = .ok (.dup, 1) := by decide +kernel
theorem dX9_addArrow_19 : decode cX9_addArrow 19 = .ok (.ldc 85, 2) := by decide +kernel
theorem dX9_addArrow_21 : decode cX9_addArrow 21 = .ok (.invokespecial 74, 3) := by decide +kernel
theorem dX9_addArrow_24 : decode cX9_addArrow 24 = .ok (.athrow, 1) := by decide +kernel
theorem dX9_addArrow_25 : decode cX9_addArrow 25 = .ok (.aload_n 0, 1) := by decide +kernel
theorem dX9_addArrow_26 : decode cX9_addArrow 26 = .ok (.getfield 12, 3) := by decide +kernel
theorem dX9_addArrow_29 : decode cX9_addArrow 29 = .ok (.invokevirtual 87, 3) := by decide +kernel
theorem dX9_addArrow_32 : decode cX9_addArrow 32 = .ok (.bipush 14, 2) := by decide +kernel
theorem dX9_addArrow_34 : decode cX9_addArrow 34 = .ok (.if_icmp .lt 13, 3) := by decide +kernel
theorem dX9_addArrow_37 : decode cX9_addArrow 37 = .ok (.new 90, 3) := by decide +kernel
theorem dX9_addArrow_40 : decode cX9_addArrow 40 = .ok (.dup, 1) := by decide +kernel
theorem dX9_addArrow_41 : decode cX9_addArrow 41 = .ok (.ldc 92, 2) := by decide +kernel
theorem dX9_addArrow_43 : decode cX9_addArrow 43 = .ok (.invokespecial 94, 3) := by decide +kernel
theorem dX9_addArrow_46 : decode cX9_addArrow 46 = .ok (.athrow, 1) := by decide +kernel
theorem dX9_addArrow_47 : decode cX9_addArrow 47 = .ok (.aload_n 0, 1) := by decide +kernel
theorem dX9_addArrow_48 : decode cX9_addArrow 48 = .ok (.getfield 12, 3) := by decide +kernel
theorem dX9_addArrow_51 : decode cX9_addArrow 51 = .ok (.invokevirtual 95, 3) := by decide +kernel
theorem dX9_addArrow_54 : decode cX9_addArrow 54 = .ok (.aload_n 0, 1) := by decide +kernel
theorem dX9_addArrow_55 : decode cX9_addArrow 55 = .ok (.getfield 12, 3) := by decide +kernel
theorem dX9_addArrow_58 : decode cX9_addArrow 58 = .ok (.iload_n 1, 1) := by decide +kernel
theorem dX9_addArrow_59 : decode cX9_addArrow 59 = .ok (.iload_n 2, 1) := by decide +kernel
theorem dX9_addArrow_60 : decode cX9_addArrow 60 = .ok (.invokevirtual 98, 3) := by decide +kernel
theorem dX9_addArrow_63 : decode cX9_addArrow 63 = .ok (.iadd, 1) := by decide +kernel
theorem dX9_addArrow_64 : decode cX9_addArrow 64 = .ok (.sipush 300, 3) := by decide +kernel
theorem dX9_addArrow_67 : decode cX9_addArrow 67 = .ok (.if_icmp .le 13, 3) := by decide +kernel
theorem dX9_addArrow_70 : decode cX9_addArrow 70 = .ok (.new 90, 3) := by decide +kernel
theorem dX9_addArrow_73 : decode cX9_addArrow 73 = .ok (.dup, 1) := by decide +kernel
theorem dX9_addArrow_74 : decode cX9_addArrow 74 = .ok (.ldc 102, 2) := by decide +kernel
theorem dX9_addArrow_76 : decode cX9_addArrow 76 = .ok (.invokespecial 94, 3) := by decide +kernel
theorem dX9_addArrow_79 : decode cX9_addArrow 79 = .ok (.athrow, 1) := by decide +kernel
theorem dX9_addArrow_80 : decode cX9_addArrow 80 = .ok (.aload_n 0, 1) := by decide +kernel
theorem dX9_addArrow_81 : decode cX9_addArrow 81 = .ok (.getfield 12, 3) := by decide +kernel
theorem dX9_addArrow_84 : decode cX9_addArrow 84 = .ok (.iload_n 1, 1) := by decide +kernel
theorem dX9_addArrow_85 : decode cX9_addArrow 85 = .ok (.iload_n 2, 1) := by decide +kernel
theorem dX9_addArrow_86 : decode cX9_addArrow 86 = .ok (.invokevirtual 104, 3) := by decide +kernel
theorem dX9_addArrow_89 : decode cX9_addArrow 89 = .ok (.istore_n 3, 1) := by decide +kernel
theorem dX9_addArrow_90 : decode cX9_addArrow 90 = .ok (.aload_n 0, 1) := by decide +kernel
theorem dX9_addArrow_91 : decode cX9_addArrow 91 = .ok (.getfield 40, 3) := by decide +kernel
theorem dX9_addArrow_94 : decode cX9_addArrow 94 = .ok (.iload_n 3, 1) := by decide +kernel
theorem dX9_addArrow_95 : decode cX9_addArrow 95 = .ok (.iconst 0, 1) := by decide +kernel
theorem dX9_addArrow_96 : decode cX9_addArrow 96 = .ok (.invokevirtual 107, 3) := by decide +kernel
theorem dX9_addArrow_99 : decode cX9_addArrow 99 = .ok (.aload_n 0, 1) := by decide +kernel
theorem dX9_addArrow_100 : decode cX9_addArrow 100 = .ok (.invokevirtual 67, 3) := by decide +kernel
theorem dX9_addArrow_103 : decode cX9_addArrow 103 = .ok (.iload_n 3, 1) := by decide +kernel
theorem dX9_addArrow_104 : decode cX9_addArrow 104 = .ok (.ireturn, 1) := by decide +kernel
theorem dX9_dropArrow_0 : decode cX9_dropArrow 0 = .ok (.aload_n 0, 1) := by decide +kernel
theorem dX9_dropArrow_1 : decode cX9_dropArrow 1 = .ok (.getfield 12, 3) := by decide +kernel
theorem dX9_dropArrow_4 : decode cX9_dropArrow 4 = .ok (.invokevirtual 87, 3) := by decide +kernel
theorem dX9_dropArrow_7 : decode cX9_dropArrow 7 = .ok (.ifCond .ne 13, 3) := by decide +kernel
theorem dX9_dropArrow_10 : decode cX9_dropArrow 10 = .ok (.new 90, 3) := by decide +kernel
theorem dX9_dropArrow_13 : decode cX9_dropArrow 13 = .ok (.dup, 1) := by decide +kernel
theorem dX9_dropArrow_14 : decode cX9_dropArrow 14 = .ok (.ldc 111, 2) := by decide +kernel
theorem dX9_dropArrow_16 : decode cX9_dropArrow 16 = .ok (.invokespecial 94, 3) := by decide +kernel
theorem dX9_dropArrow_19 : decode cX9_dropArrow 19 = .ok (.athrow, 1) := by decide +kernel
theorem dX9_dropArrow_20 : decode cX9_dropArrow 20 = .ok (.aload_n 0, 1) := by decide +kernel
theorem dX9_dropArrow_21 : decode cX9_dropArrow 21 = .ok (.getfield 19, 3) := by decide +kernel
theorem dX9_dropArrow_24 : decode cX9_dropArrow 24 = .ok (.aload_n 0, 1) := by decide +kernel
theorem dX9_dropArrow_25 : decode cX9_dropArrow 25 = .ok (.getfield 12, 3) := by decide +kernel
theorem dX9_dropArrow_28 : decode cX9_dropArrow 28 = .ok (.invokevirtual 87, 3) := by decide +kernel
theorem dX9_dropArrow_31 : decode cX9_dropArrow 31 = .ok (.iconst 1, 1) := by decide +kernel
theorem dX9_dropArrow_32 : decode cX9_dropArrow 32 = .ok (.isub, 1) := by decide +kernel
theorem dX9_dropArrow_33 : decode cX9_dropArrow 33 = .ok (.invokevirtual 113, 3) := by decide +kernel
theorem dX9_dropArrow_36 : decode cX9_dropArrow 36 = .ok (.istore_n 1, 1) := by decide +kernel
theorem dX9_dropArrow_37 : decode cX9_dropArrow 37 = .ok (.aload_n 0, 1) := by decide +kernel
theorem dX9_dropArrow_38 : decode cX9_dropArrow 38 = .ok (.getfield 12, 3) := by decide +kernel
theorem dX9_dropArrow_41 : decode cX9_dropArrow 41 = .ok (.invokevirtual 117, 3) := by decide +kernel
theorem dX9_dropArrow_44 : decode cX9_dropArrow 44 = .ok (.aload_n 0, 1) := by decide +kernel
theorem dX9_dropArrow_45 : decode cX9_dropArrow 45 = .ok (.invokevirtual 67, 3) := by decide +kernel
theorem dX9_dropArrow_48 : decode cX9_dropArrow 48 = .ok (.iload_n 1, 1) := by decide +kernel
theorem dX9_dropArrow_49 : decode cX9_dropArrow 49 = .ok (.ireturn, 1) := by decide +kernel
theorem dX9_addCell_0 : decode cX9_addCell 0 = .ok (.aload_n 0, 1) := by decide +kernel
theorem dX9_addCell_1 : decode cX9_addCell 1 = .ok (.iload_n 1, 1) := by decide +kernel
theorem dX9_addCell_2 : decode cX9_addCell 2 = .ok (.iload_n 2, 1) := by decide +kernel
theorem dX9_addCell_3 : decode cX9_addCell 3 = .ok (.invokevirtual 120, 3) := by decide +kernel
theorem dX9_addCell_6 : decode cX9_addCell 6 = .ok (.aload_n 0, 1) := by decide +kernel
theorem dX9_addCell_7 : decode cX9_addCell 7 = .ok (.getfield 19, 3) := by decide +kernel
theorem dX9_addCell_10 : decode cX9_addCell 10 = .ok (.invokevirtual 123, 3) := by decide +kernel
theorem dX9_addCell_13 : decode cX9_addCell 13 = .ok (.bipush 10, 2) := by decide +kernel
theorem dX9_addCell_15 : decode cX9_addCell 15 = .ok (.if_icmp .lt 13, 3) := by decide +kernel
theorem dX9_addCell_18 : decode cX9_addCell 18 = .ok (.new 90, 3) := by decide +kernel
theorem dX9_addCell_21 : decode cX9_addCell 21 = .ok (.dup, 1) := by decide +kernel
theorem dX9_addCell_22 : decode cX9_addCell 22 = .ok (.ldc 126, 2) := by decide +kernel
theorem dX9_addCell_24 : decode cX9_addCell 24 = .ok (.invokespecial 94, 3) := by decide +kernel
theorem dX9_addCell_27 : decode cX9_addCell 27 = .ok (.athrow, 1) := by decide +kernel
theorem dX9_addCell_28 : decode cX9_addCell 28 = .ok (.aload_n 0, 1) := by decide +kernel
theorem dX9_addCell_29 : decode cX9_addCell 29 = .ok (.getfield 19, 3) := by decide +kernel
theorem dX9_addCell_32 : decode cX9_addCell 32 = .ok (.aload_n 0, 1) := by decide +kernel
theorem dX9_addCell_33 : decode cX9_addCell 33 = .ok (.getfield 26, 3) := by decide +kernel
theorem dX9_addCell_36 : decode cX9_addCell 36 = .ok (.getfield 128, 3) := by decide +kernel
theorem dX9_addCell_39 : decode cX9_addCell 39 = .ok (.iload_n 1, 1) := by decide +kernel
theorem dX9_addCell_40 : decode cX9_addCell 40 = .ok (.invokevirtual 132, 3) := by decide +kernel
theorem dX9_addCell_43 : decode cX9_addCell 43 = .ok (.invokevirtual 137, 3) := by decide +kernel
theorem dX9_addCell_46 : decode cX9_addCell 46 = .ok (.istore_n 3, 1) := by decide +kernel
theorem dX9_addCell_47 : decode cX9_addCell 47 = .ok (.aload_n 0, 1) := by decide +kernel
theorem dX9_addCell_48 : decode cX9_addCell 48 = .ok (.iconst 0, 1) := by decide +kernel
theorem dX9_addCell_49 : decode cX9_addCell 49 = .ok (.iload_n 1, 1) := by decide +kernel
theorem dX9_addCell_50 : decode cX9_addCell 50 = .ok (.invokevirtual 140, 3) := by decide +kernel
theorem dX9_addCell_53 : decode cX9_addCell 53 = .ok (.aload_n 0, 1) := by decide +kernel
theorem dX9_addCell_54 : decode cX9_addCell 54 = .ok (.iconst 1, 1) := by decide +kernel
theorem dX9_addCell_55 : decode cX9_addCell 55 = .ok (.iload_n 2, 1) := by decide +kernel
theorem dX9_addCell_56 : decode cX9_addCell 56 = .ok (.invokevirtual 140, 3) := by decide +kernel
theorem dX9_addCell_59 : decode cX9_addCell 59 = .ok (.aload_n 0, 1) := by decide +kernel
theorem dX9_addCell_60 : decode cX9_addCell 60 = .ok (.invokevirtual 143, 3) := by decide +kernel
theorem dX9_addCell_63 : decode cX9_addCell 63 = .ok (.iload_n 3, 1) := by decide +kernel
theorem dX9_addCell_64 : decode cX9_addCell 64 = .ok (.ireturn, 1) := by decide +kernel
theorem dX9_dropCell_0 : decode cX9_dropCell 0 = .ok (.aload_n 0, 1) := by decide +kernel
theorem dX9_dropCell_1 : decode cX9_dropCell 1 = .ok (.iload_n 1, 1) := by decide +kernel
theorem dX9_dropCell_2 : decode cX9_dropCell 2 = .ok (.invokevirtual 146, 3) := by decide +kernel
theorem dX9_dropCell_5 : decode cX9_dropCell 5 = .ok (.aload_n 0, 1) := by decide +kernel
theorem dX9_dropCell_6 : decode cX9_dropCell 6 = .ok (.getfield 19, 3) := by decide +kernel
theorem dX9_dropCell_9 : decode cX9_dropCell 9 = .ok (.iload_n 1, 1) := by decide +kernel
theorem dX9_dropCell_10 : decode cX9_dropCell 10 = .ok (.invokevirtual 149, 3) := by decide +kernel
theorem dX9_dropCell_13 : decode cX9_dropCell 13 = .ok (.aload_n 0, 1) := by decide +kernel
theorem dX9_dropCell_14 : decode cX9_dropCell 14 = .ok (.invokevirtual 143, 3) := by decide +kernel
theorem dX9_dropCell_17 : decode cX9_dropCell 17 = .ok (.aload_n 0, 1) := by decide +kernel
theorem dX9_dropCell_18 : decode cX9_dropCell 18 = .ok (.getfield 19, 3) := by decide +kernel
theorem dX9_dropCell_21 : decode cX9_dropCell 21 = .ok (.invokevirtual 123, 3) := by decide +kernel
theorem dX9_dropCell_24 : decode cX9_dropCell 24 = .ok (.ireturn, 1) := by decide +kernel
theorem dX9_append_0 : decode cX9_append 0 = .ok (.iload_n 1, 1) := by decide +kernel
theorem dX9_append_1 : decode cX9_append 1 = .ok (.bipush 32, 2) := by decide +kernel
theorem dX9_append_3 : decode cX9_append 3 = .ok (.if_icmp .lt 9, 3) := by decide +kernel
theorem dX9_append_6 : decode cX9_append 6 = .ok (.iload_n 1, 1) := by decide +kernel
theorem dX9_append_7 : decode cX9_append 7 = .ok (.bipush 126, 2) := by decide +kernel
theorem dX9_append_9 : decode cX9_append 9 = .ok (.if_icmp .le 13, 3) := by decide +kernel
theorem dX9_append_12 : decode cX9_append 12 = .ok (.new 70, 3) := by decide +kernel
theorem dX9_append_15 : decode cX9_append 15 = .ok (.dup, 1) := by decide +kernel
theorem dX9_append_16 : decode cX9_append 16 = .ok (.ldc 152, 2) := by decide +kernel
theorem dX9_append_18 : decode cX9_append 18 = .ok (.invokespecial 74, 3) := by decide +kernel
theorem dX9_append_21 : decode cX9_append 21 = .ok (.athrow, 1) := by decide +kernel
theorem dX9_append_22 : decode cX9_append 22 = .ok (.aload_n 0, 1) := by decide +kernel
theorem dX9_append_23 : decode cX9_append 23 = .ok (.getfield 50, 3) := by decide +kernel
theorem dX9_append_26 : decode cX9_append 26 = .ok (.invokevirtual 154, 3) := by decide +kernel
theorem dX9_append_29 : decode cX9_append 29 = .ok (.bipush 60, 2) := by decide +kernel
theorem dX9_append_31 : decode cX9_append 31 = .ok (.if_icmp .lt 13, 3) := by decide +kernel
theorem dX9_append_34 : decode cX9_append 34 = .ok (.new 90, 3) := by decide +kernel
theorem dX9_append_37 : decode cX9_append 37 = .ok (.dup, 1) := by decide +kernel
theorem dX9_append_38 : decode cX9_append 38 = .ok (.ldc 157, 2) := by decide +kernel
theorem dX9_append_40 : decode cX9_append 40 = .ok (.invokespecial 94, 3) := by decide +kernel
theorem dX9_append_43 : decode cX9_append 43 = .ok (.athrow, 1) := by decide +kernel
theorem dX9_append_44 : decode cX9_append 44 = .ok (.aload_n 0, 1) := by decide +kernel
theorem dX9_append_45 : decode cX9_append 45 = .ok (.getfield 50, 3) := by decide +kernel
theorem dX9_append_48 : decode cX9_append 48 = .ok (.iload_n 1, 1) := by decide +kernel
theorem dX9_append_49 : decode cX9_append 49 = .ok (.invokevirtual 159, 3) := by decide +kernel
theorem dX9_append_52 : decode cX9_append 52 = .ok (.aload_n 0, 1) := by decide +kernel
theorem dX9_append_53 : decode cX9_append 53 = .ok (.getfield 50, 3) := by decide +kernel
theorem dX9_append_56 : decode cX9_append 56 = .ok (.invokevirtual 154, 3) := by decide +kernel
theorem dX9_append_59 : decode cX9_append 59 = .ok (.ireturn, 1) := by decide +kernel
theorem dX9_clearInput_0 : decode cX9_clearInput 0 = .ok (.aload_n 0, 1) := by decide +kernel
theorem dX9_clearInput_1 : decode cX9_clearInput 1 = .ok (.getfield 50, 3) := by decide +kernel
theorem dX9_clearInput_4 : decode cX9_clearInput 4 = .ok (.invokevirtual 154, 3) := by decide +kernel
theorem dX9_clearInput_7 : decode cX9_clearInput 7 = .ok (.istore_n 1, 1) := by decide +kernel
theorem dX9_clearInput_8 : decode cX9_clearInput 8 = .ok (.aload_n 0, 1) := by decide +kernel
theorem dX9_clearInput_9 : decode cX9_clearInput 9 = .ok (.getfield 50, 3) := by decide +kernel
theorem dX9_clearInput_12 : decode cX9_clearInput 12 = .ok (.invokevirtual 162, 3) := by decide +kernel
theorem dX9_clearInput_15 : decode cX9_clearInput 15 = .ok (.iload_n 1, 1) := by decide +kernel
theorem dX9_clearInput_16 : decode cX9_clearInput 16 = .ok (.ireturn, 1) := by decide +kernel
theorem dX9_firstError_0 : decode cX9_firstError 0 = .ok (.aload_n 0, 1) := by decide +kernel
theorem dX9_firstError_1 : decode cX9_firstError 1 = .ok (.getfield 57, 3) := by decide +kernel
theorem dX9_firstError_4 : decode cX9_firstError 4 = .ok (.aload_n 0, 1) := by decide +kernel
theorem dX9_firstError_5 : decode cX9_firstError 5 = .ok (.getfield 50, 3) := by decide +kernel
theorem dX9_firstError_8 : decode cX9_firstError 8 = .ok (.aload_n 0, 1) := by decide +kernel
theorem dX9_firstError_9 : decode cX9_firstError 9 = .ok (.getfield 12, 3) := by decide +kernel
theorem dX9_firstError_12 : decode cX9_firstError 12 = .ok (.aload_n 0, 1) := by decide +kernel
theorem dX9_firstError_13 : decode cX9_firstError 13 = .ok (.getfield 19, 3) := by decide +kernel
theorem dX9_firstError_16 : decode cX9_firstError 16 = .ok (.invokevirtual 163, 3) := by decide +kernel
theorem dX9_firstError_19 : decode cX9_firstError 19 = .ok (.ireturn, 1) := by decide +kernel
theorem dX9_load_0 : decode cX9_load 0 = .ok (.aload_n 0, 1) := by decide +kernel
theorem dX9_load_1 : decode cX9_load 1 = .ok (.getfield 57, 3) := by decide +kernel
theorem dX9_load_4 : decode cX9_load 4 = .ok (.aload_n 0, 1) := by decide +kernel
theorem dX9_load_5 : decode cX9_load 5 = .ok (.getfield 50, 3) := by decide +kernel
theorem dX9_load_8 : decode cX9_load 8 = .ok (.aload_n 0, 1) := by decide +kernel
theorem dX9_load_9 : decode cX9_load 9 = .ok (.getfield 12, 3) := by decide +kernel
theorem dX9_load_12 : decode cX9_load 12 = .ok (.aload_n 0, 1) := by decide +kernel
theorem dX9_load_13 : decode cX9_load 13 = .ok (.getfield 19, 3) := by decide +kernel
theorem dX9_load_16 : decode cX9_load 16 = .ok (.invokevirtual 163, 3) := by decide +kernel
theorem dX9_load_19 : decode cX9_load 19 = .ok (.aload_n 0, 1) := by decide +kernel
theorem dX9_load_20 : decode cX9_load 20 = .ok (.getfield 50, 3) := by decide +kernel
theorem dX9_load_23 : decode cX9_load 23 = .ok (.invokevirtual 154, 3) := by decide +kernel
theorem dX9_load_26 : decode cX9_load 26 = .ok (.if_icmp .lt 13, 3) := by decide +kernel
theorem dX9_load_29 : decode cX9_load 29 = .ok (.aload_n 0, 1) := by decide +kernel
theorem dX9_load_30 : decode cX9_load 30 = .ok (.getfield 57, 3) := by decide +kernel
theorem dX9_load_33 : decode cX9_load 33 = .ok (.invokevirtual 167, 3) := by decide +kernel
theorem dX9_load_36 : decode cX9_load 36 = .ok (.ifCond .ne 13, 3) := by decide +kernel
theorem dX9_load_39 : decode cX9_load 39 = .ok (.new 70, 3) := by decide +kernel
theorem dX9_load_42 : decode cX9_load 42 = .ok (.dup, 1) := by decide +kernel
theorem dX9_load_43 : decode cX9_load 43 = .ok (.ldc 171, 2) := by decide +kernel
theorem dX9_load_45 : decode cX9_load 45 = .ok (.invokespecial 74, 3) := by decide +kernel
theorem dX9_load_48 : decode cX9_load 48 = .ok (.athrow, 1) := by decide +kernel
theorem dX9_load_49 : decode cX9_load 49 = .ok (.aload_n 0, 1) := by decide +kernel
theorem dX9_load_50 : decode cX9_load 50 = .ok (.getfield 57, 3) := by decide +kernel
theorem dX9_load_53 : decode cX9_load 53 = .ok (.invokevirtual 173, 3) := by decide +kernel
theorem dX9_load_56 : decode cX9_load 56 = .ok (.invokevirtual 95, 3) := by decide +kernel
theorem dX9_load_59 : decode cX9_load 59 = .ok (.sipush 300, 3) := by decide +kernel
theorem dX9_load_62 : decode cX9_load 62 = .ok (.if_icmp .le 13, 3) := by decide +kernel
theorem dX9_load_65 : decode cX9_load 65 = .ok (.new 90, 3) := by decide +kernel
theorem dX9_load_68 : decode cX9_load 68 = .ok (.dup, 1) := by decide +kernel
theorem dX9_load_69 : decode cX9_load 69 = .ok (.ldc 102, 2) := by decide +kernel
theorem dX9_load_71 : decode cX9_load 71 = .ok (.invokespecial 94, 3) := by decide +kernel
theorem dX9_load_74 : decode cX9_load 74 = .ok (.athrow, 1) := by decide +kernel
theorem dX9_load_75 : decode cX9_load 75 = .ok (.aload_n 0, 1) := by decide +kernel
theorem dX9_load_76 : decode cX9_load 76 = .ok (.getfield 12, 3) := by decide +kernel
theorem dX9_load_79 : decode cX9_load 79 = .ok (.invokevirtual 87, 3) := by decide +kernel
theorem dX9_load_82 : decode cX9_load 82 = .ok (.istore_n 1, 1) := by decide +kernel
theorem dX9_load_83 : decode cX9_load 83 = .ok (.iload_n 1, 1) := by decide +kernel
theorem dX9_load_84 : decode cX9_load 84 = .ok (.aload_n 0, 1) := by decide +kernel
theorem dX9_load_85 : decode cX9_load 85 = .ok (.getfield 19, 3) := by decide +kernel
theorem dX9_load_88 : decode cX9_load 88 = .ok (.invokevirtual 123, 3) := by decide +kernel
theorem dX9_load_91 : decode cX9_load 91 = .ok (.iadd, 1) := by decide +kernel
theorem dX9_load_92 : decode cX9_load 92 = .ok (.istore_n 2, 1) := by decide +kernel
theorem dX9_load_93 : decode cX9_load 93 = .ok (.aload_n 0, 1) := by decide +kernel
theorem dX9_load_94 : decode cX9_load 94 = .ok (.getfield 12, 3) := by decide +kernel
theorem dX9_load_97 : decode cX9_load 97 = .ok (.aload_n 0, 1) := by decide +kernel
theorem dX9_load_98 : decode cX9_load 98 = .ok (.getfield 57, 3) := by decide +kernel
theorem dX9_load_101 : decode cX9_load 101 = .ok (.invokevirtual 173, 3) := by decide +kernel
theorem dX9_load_104 : decode cX9_load 104 = .ok (.invokevirtual 177, 3) := by decide +kernel
theorem dX9_load_107 : decode cX9_load 107 = .ok (.aload_n 0, 1) := by decide +kernel
theorem dX9_load_108 : decode cX9_load 108 = .ok (.getfield 19, 3) := by decide +kernel
theorem dX9_load_111 : decode cX9_load 111 = .ok (.aload_n 0, 1) := by decide +kernel
theorem dX9_load_112 : decode cX9_load 112 = .ok (.getfield 57, 3) := by decide +kernel
theorem dX9_load_115 : decode cX9_load 115 = .ok (.invokevirtual 181, 3) := by decide +kernel
theorem dX9_load_118 : decode cX9_load 118 = .ok (.invokevirtual 185, 3) := by decide +kernel
theorem dX9_load_121 : decode cX9_load 121 = .ok (.iload_n 1, 1) := by decide +kernel
theorem dX9_load_122 : decode cX9_load 122 = .ok (.istore_n 3, 1) := by decide +kernel
theorem dX9_load_123 : decode cX9_load 123 = .ok (.iload_n 3, 1) := by decide +kernel
theorem dX9_load_124 : decode cX9_load 124 = .ok (.aload_n 0, 1) := by decide +kernel
theorem dX9_load_125 : decode cX9_load 125 = .ok (.getfield 12, 3) := by decide +kernel
theorem dX9_load_128 : decode cX9_load 128 = .ok (.invokevirtual 87, 3) := by decide +kernel
theorem dX9_load_131 : decode cX9_load 131 = .ok (.if_icmp .ge 18, 3) := by decide +kernel
theorem dX9_load_134 : decode cX9_load 134 = .ok (.aload_n 0, 1) := by decide +kernel
theorem dX9_load_135 : decode cX9_load 135 = .ok (.getfield 40, 3) := by decide +kernel
theorem dX9_load_138 : decode cX9_load 138 = .ok (.iload_n 3, 1) := by decide +kernel
theorem dX9_load_139 : decode cX9_load 139 = .ok (.iconst 0, 1) := by decide +kernel
theorem dX9_load_140 : decode cX9_load 140 = .ok (.invokevirtual 107, 3) := by decide +kernel
theorem dX9_load_143 : decode cX9_load 143 = .ok (.iinc 3 1, 3) := by decide +kernel
theorem dX9_load_146 : decode cX9_load 146 = .ok (.goto (-23), 3) := by decide +kernel
theorem dX9_load_149 : decode cX9_load 149 = .ok (.aload_n 0, 1) := by decide +kernel
theorem dX9_load_150 : decode cX9_load 150 = .ok (.getfield 50, 3) := by decide +kernel
theorem dX9_load_153 : decode cX9_load 153 = .ok (.invokevirtual 162, 3) := by decide +kernel
theorem dX9_load_156 : decode cX9_load 156 = .ok (.aload_n 0, 1) := by decide +kernel
theorem dX9_load_157 : decode cX9_load 157 = .ok (.invokevirtual 67, 3) := by decide +kernel
theorem dX9_load_160 : decode cX9_load 160 = .ok (.aload_n 0, 1) := by decide +kernel
theorem dX9_load_161 : decode cX9_load 161 = .ok (.getfield 12, 3) := by decide +kernel
theorem dX9_load_164 : decode cX9_load 164 = .ok (.invokevirtual 87, 3) := by decide +kernel
theorem dX9_load_167 : decode cX9_load 167 = .ok (.aload_n 0, 1) := by decide +kernel
theorem dX9_load_168 : decode cX9_load 168 = .ok (.getfield 19, 3) := by decide +kernel
theorem dX9_load_171 : decode cX9_load 171 = .ok (.invokevirtual 123, 3) := by decide +kernel
theorem dX9_load_174 : decode cX9_load 174 = .ok (.iadd, 1) := by decide +kernel
theorem dX9_load_175 : decode cX9_load 175 = .ok (.iload_n 2, 1) := by decide +kernel
theorem dX9_load_176 : decode cX9_load 176 = .ok (.isub, 1) := by decide +kernel
theorem dX9_load_177 : decode cX9_load 177 = .ok (.ireturn, 1) := by decide +kernel
theorem dX9_find_0 : decode cX9_find 0 = .ok (.aload_n 0, 1) := by decide +kernel
theorem dX9_find_1 : decode cX9_find 1 = .ok (.getfield 12, 3) := by decide +kernel
theorem dX9_find_4 : decode cX9_find 4 = .ok (.aload_n 0, 1) := by decide +kernel
theorem dX9_find_5 : decode cX9_find 5 = .ok (.getfield 50, 3) := by decide +kernel
theorem dX9_find_8 : decode cX9_find 8 = .ok (.iconst 0, 1) := by decide +kernel
theorem dX9_find_9 : decode cX9_find 9 = .ok (.invokevirtual 188, 3) := by decide +kernel
theorem dX9_find_12 : decode cX9_find 12 = .ok (.invokevirtual 191, 3) := by decide +kernel
theorem dX9_find_15 : decode cX9_find 15 = .ok (.istore_n 1, 1) := by decide +kernel
theorem dX9_find_16 : decode cX9_find 16 = .ok (.iconst 0, 1) := by decide +kernel
theorem dX9_find_17 : decode cX9_find 17 = .ok (.istore_n 2, 1) := by decide +kernel
theorem dX9_find_18 : decode cX9_find 18 = .ok (.iload_n 2, 1) := by decide +kernel
theorem dX9_find_19 : decode cX9_find 19 = .ok (.aload_n 0, 1) := by decide +kernel
theorem dX9_find_20 : decode cX9_find 20 = .ok (.getfield 50, 3) := by decide +kernel
theorem dX9_find_23 : decode cX9_find 23 = .ok (.invokevirtual 154, 3) := by decide +kernel
theorem dX9_find_26 : decode cX9_find 26 = .ok (.if_icmp .ge 29, 3) := by decide +kernel
theorem dX9_find_29 : decode cX9_find 29 = .ok (.aload_n 0, 1) := by decide +kernel
theorem dX9_find_30 : decode cX9_find 30 = .ok (.getfield 26, 3) := by decide +kernel
theorem dX9_find_33 : decode cX9_find 33 = .ok (.getfield 194, 3) := by decide +kernel
theorem dX9_find_36 : decode cX9_find 36 = .ok (.iload_n 1, 1) := by decide +kernel
theorem dX9_find_37 : decode cX9_find 37 = .ok (.aload_n 0, 1) := by decide +kernel
theorem dX9_find_38 : decode cX9_find 38 = .ok (.getfield 50, 3) := by decide +kernel
theorem dX9_find_41 : decode cX9_find 41 = .ok (.iload_n 2, 1) := by decide +kernel
theorem dX9_find_42 : decode cX9_find 42 = .ok (.invokevirtual 188, 3) := by decide +kernel
theorem dX9_find_45 : decode cX9_find 45 = .ok (.invokevirtual 198, 3) := by decide +kernel
theorem dX9_find_48 : decode cX9_find 48 = .ok (.istore_n 1, 1) := by decide +kernel
theorem dX9_find_49 : decode cX9_find 49 = .ok (.iinc 2 1, 3) := by decide +kernel
theorem dX9_find_52 : decode cX9_find 52 = .ok (.goto (-34), 3) := by decide +kernel
theorem dX9_find_55 : decode cX9_find 55 = .ok (.iload_n 1, 1) := by decide +kernel
theorem dX9_find_56 : decode cX9_find 56 = .ok (.ireturn, 1) := by decide +kernel
theorem dX9_path_0 : decode cX9_path 0 = .ok (.aload_n 0, 1) := by decide +kernel
theorem dX9_path_1 : decode cX9_path 1 = .ok (.iload_n 1, 1) := by decide +kernel
theorem dX9_path_2 : decode cX9_path 2 = .ok (.invokevirtual 202, 3) := by decide +kernel
theorem dX9_path_5 : decode cX9_path 5 = .ok (.iload_n 2, 1) := by decide +kernel
theorem dX9_path_6 : decode cX9_path 6 = .ok (.tableswitch 178 0 6 #[42, 54, 66, 78, 102, 126, 139], 42) := by decide +kernel
theorem dX9_path_48 : decode cX9_path 48 = .ok (.aload_n 0, 1) := by decide +kernel
theorem dX9_path_49 : decode cX9_path 49 = .ok (.getfield 26, 3) := by decide +kernel
theorem dX9_path_52 : decode cX9_path 52 = .ok (.getfield 128, 3) := by decide +kernel
theorem dX9_path_55 : decode cX9_path 55 = .ok (.iload_n 1, 1) := by decide +kernel
theorem dX9_path_56 : decode cX9_path 56 = .ok (.invokevirtual 132, 3) := by decide +kernel
theorem dX9_path_59 : decode cX9_path 59 = .ok (.ireturn, 1) := by decide +kernel
theorem dX9_path_60 : decode cX9_path 60 = .ok (.aload_n 0, 1) := by decide +kernel
theorem dX9_path_61 : decode cX9_path 61 = .ok (.getfield 26, 3) := by decide +kernel
theorem dX9_path_64 : decode cX9_path 64 = .ok (.getfield 205, 3) := by decide +kernel
theorem dX9_path_67 : decode cX9_path 67 = .ok (.iload_n 1, 1) := by decide +kernel
theorem dX9_path_68 : decode cX9_path 68 = .ok (.invokevirtual 132, 3) := by decide +kernel
theorem dX9_path_71 : decode cX9_path 71 = .ok (.ireturn, 1) := by decide +kernel
theorem dX9_path_72 : decode cX9_path 72 = .ok (.aload_n 0, 1) := by decide +kernel
theorem dX9_path_73 : decode cX9_path 73 = .ok (.getfield 26, 3) := by decide +kernel
theorem dX9_path_76 : decode cX9_path 76 = .ok (.getfield 208, 3) := by decide +kernel
theorem dX9_path_79 : decode cX9_path 79 = .ok (.iload_n 1, 1) := by decide +kernel
theorem dX9_path_80 : decode cX9_path 80 = .ok (.invokevirtual 132, 3) := by decide +kernel
theorem dX9_path_83 : decode cX9_path 83 = .ok (.ireturn, 1) := by decide +kernel
theorem dX9_path_84 : decode cX9_path 84 = .ok (.aload_n 0, 1) := by decide +kernel
theorem dX9_path_85 : decode cX9_path 85 = .ok (.getfield 33, 3) := by decide +kernel
theorem dX9_path_88 : decode cX9_path 88 = .ok (.aload_n 0, 1) := by decide +kernel
theorem dX9_path_89 : decode cX9_path 89 = .ok (.getfield 26, 3) := by decide +kernel
theorem dX9_path_92 : decode cX9_path 92 = .ok (.aload_n 0, 1) := by decide +kernel
theorem dX9_path_93 : decode cX9_path 93 = .ok (.getfield 19, 3) := by decide +kernel
theorem dX9_path_96 : decode cX9_path 96 = .ok (.invokevirtual 210, 3) := by decide +kernel
theorem dX9_path_99 : decode cX9_path 99 = .ok (.aload_n 0, 1) := by decide +kernel
theorem dX9_path_100 : decode cX9_path 100 = .ok (.getfield 33, 3) := by decide +kernel
theorem dX9_path_103 : decode cX9_path 103 = .ok (.iload_n 1, 1) := by decide +kernel
theorem dX9_path_104 : decode cX9_path 104 = .ok (.invokevirtual 214, 3) := by decide +kernel
theorem dX9_path_107 : decode cX9_path 107 = .ok (.ireturn, 1) := by decide +kernel
theorem dX9_path_108 : decode cX9_path 108 = .ok (.aload_n 0, 1) := by decide +kernel
theorem dX9_path_109 : decode cX9_path 109 = .ok (.getfield 33, 3) := by decide +kernel
theorem dX9_path_112 : decode cX9_path 112 = .ok (.aload_n 0, 1) := by decide +kernel
theorem dX9_path_113 : decode cX9_path 113 = .ok (.getfield 26, 3) := by decide +kernel
theorem dX9_path_116 : decode cX9_path 116 = .ok (.aload_n 0, 1) := by decide +kernel
theorem dX9_path_117 : decode cX9_path 117 = .ok (.getfield 19, 3) := by decide +kernel
theorem dX9_path_120 : decode cX9_path 120 = .ok (.invokevirtual 210, 3) := by decide +kernel
theorem dX9_path_123 : decode cX9_path 123 = .ok (.aload_n 0, 1) := by decide +kernel
theorem dX9_path_124 : decode cX9_path 124 = .ok (.getfield 33, 3) := by decide +kernel
theorem dX9_path_127 : decode cX9_path 127 = .ok (.iload_n 1, 1) := by decide +kernel
theorem dX9_path_128 : decode cX9_path 128 = .ok (.invokevirtual 217, 3) := by decide +kernel
theorem dX9_path_131 : decode cX9_path 131 = .ok (.ireturn, 1) := by decide +kernel
theorem dX9_path_132 : decode cX9_path 132 = .ok (.aload_n 0, 1) := by decide +kernel
theorem dX9_path_133 : decode cX9_path 133 = .ok (.getfield 40, 3) := by decide +kernel
theorem dX9_path_136 : decode cX9_path 136 = .ok (.aload_n 0, 1) := by decide +kernel
theorem dX9_path_137 : decode cX9_path 137 = .ok (.getfield 26, 3) := by decide +kernel
theorem dX9_path_140 : decode cX9_path 140 = .ok (.iload_n 1, 1) := by decide +kernel
theorem dX9_path_141 : decode cX9_path 141 = .ok (.invokevirtual 220, 3) := by decide +kernel
theorem dX9_path_144 : decode cX9_path 144 = .ok (.ireturn, 1) := by decide +kernel
theorem dX9_path_145 : decode cX9_path 145 = .ok (.aload_n 0, 1) := by decide +kernel
theorem dX9_path_146 : decode cX9_path 146 = .ok (.getfield 40, 3) := by decide +kernel
theorem dX9_path_149 : decode cX9_path 149 = .ok (.aload_n 0, 1) := by decide +kernel
theorem dX9_path_150 : decode cX9_path 150 = .ok (.getfield 26, 3) := by decide +kernel
theorem dX9_path_153 : decode cX9_path 153 = .ok (.iload_n 1, 1) := by decide +kernel
theorem dX9_path_154 : decode cX9_path 154 = .ok (.invokevirtual 220, 3) := by decide +kernel
theorem dX9_path_157 : decode cX9_path 157 = .ok (.aload_n 0, 1) := by decide +kernel
theorem dX9_path_158 : decode cX9_path 158 = .ok (.getfield 40, 3) := by decide +kernel
theorem dX9_path_161 : decode cX9_path 161 = .ok (.aload_n 0, 1) := by decide +kernel
theorem dX9_path_162 : decode cX9_path 162 = .ok (.getfield 26, 3) := by decide +kernel
theorem dX9_path_165 : decode cX9_path 165 = .ok (.getfield 128, 3) := by decide +kernel
theorem dX9_path_168 : decode cX9_path 168 = .ok (.iload_n 1, 1) := by decide +kernel
theorem dX9_path_169 : decode cX9_path 169 = .ok (.invokevirtual 132, 3) := by decide +kernel
theorem dX9_path_172 : decode cX9_path 172 = .ok (.invokevirtual 224, 3) := by decide +kernel
theorem dX9_path_175 : decode cX9_path 175 = .ok (.if_icmp .ne 7, 3) := by decide +kernel
theorem dX9_path_178 : decode cX9_path 178 = .ok (.iconst 1, 1) := by decide +kernel
theorem dX9_path_179 : decode cX9_path 179 = .ok (.goto 4, 3) := by decide +kernel
theorem dX9_path_182 : decode cX9_path 182 = .ok (.iconst 0, 1) := by decide +kernel
theorem dX9_path_183 : decode cX9_path 183 = .ok (.ireturn, 1) := by decide +kernel
theorem dX9_path_184 : decode cX9_path 184 = .ok (.new 70, 3) := by decide +kernel
theorem dX9_path_187 : decode cX9_path 187 = .ok (.dup, 1) := by decide +kernel
theorem dX9_path_188 : decode cX9_path 188 = .ok (.ldc 227, 2) := by decide +kernel
theorem dX9_path_190 : decode cX9_path 190 = .ok (.invokespecial 74, 3) := by decide +kernel
theorem dX9_path_193 : decode cX9_path 193 = .ok (.athrow, 1) := by decide +kernel
theorem dX9_arrowOf_0 : decode cX9_arrowOf 0 = .ok (.aload_n 0, 1) := by decide +kernel
theorem dX9_arrowOf_1 : decode cX9_arrowOf 1 = .ok (.iload_n 1, 1) := by decide +kernel
theorem dX9_arrowOf_2 : decode cX9_arrowOf 2 = .ok (.invokevirtual 202, 3) := by decide +kernel
theorem dX9_arrowOf_5 : decode cX9_arrowOf 5 = .ok (.iload_n 2, 1) := by decide +kernel
theorem dX9_arrowOf_6 : decode cX9_arrowOf 6 = .ok (.ifCond .lt 18, 3) := by decide +kernel
theorem dX9_arrowOf_9 : decode cX9_arrowOf 9 = .ok (.iload_n 2, 1) := by decide +kernel
theorem dX9_arrowOf_10 : decode cX9_arrowOf 10 = .ok (.aload_n 0, 1) := by decide +kernel
theorem dX9_arrowOf_11 : decode cX9_arrowOf 11 = .ok (.getfield 26, 3) := by decide +kernel
theorem dX9_arrowOf_14 : decode cX9_arrowOf 14 = .ok (.getfield 208, 3) := by decide +kernel
theorem dX9_arrowOf_17 : decode cX9_arrowOf 17 = .ok (.iload_n 1, 1) := by decide +kernel
theorem dX9_arrowOf_18 : decode cX9_arrowOf 18 = .ok (.invokevirtual 132, 3) := by decide +kernel
theorem dX9_arrowOf_21 : decode cX9_arrowOf 21 = .ok (.if_icmp .lt 13, 3) := by decide +kernel
theorem dX9_arrowOf_24 : decode cX9_arrowOf 24 = .ok (.new 229, 3) := by decide +kernel
theorem dX9_arrowOf_27 : decode cX9_arrowOf 27 = .ok (.dup, 1) := by decide +kernel
theorem dX9_arrowOf_28 : decode cX9_arrowOf 28 = .ok (.ldc 231, 2) := by decide +kernel
theorem dX9_arrowOf_30 : decode cX9_arrowOf 30 = .ok (.invokespecial 233, 3) := by decide +kernel
theorem dX9_arrowOf_33 : decode cX9_arrowOf 33 = .ok (.athrow, 1) := by decide +kernel
theorem dX9_arrowOf_34 : decode cX9_arrowOf 34 = .ok (.aload_n 0, 1) := by decide +kernel
theorem dX9_arrowOf_35 : decode cX9_arrowOf 35 = .ok (.getfield 26, 3) := by decide +kernel
theorem dX9_arrowOf_38 : decode cX9_arrowOf 38 = .ok (.getfield 234, 3) := by decide +kernel
theorem dX9_arrowOf_41 : decode cX9_arrowOf 41 = .ok (.iload_n 1, 1) := by decide +kernel
theorem dX9_arrowOf_42 : decode cX9_arrowOf 42 = .ok (.iload_n 2, 1) := by decide +kernel
theorem dX9_arrowOf_43 : decode cX9_arrowOf 43 = .ok (.invokevirtual 198, 3) := by decide +kernel
theorem dX9_arrowOf_46 : decode cX9_arrowOf 46 = .ok (.ireturn, 1) := by decide +kernel
theorem dX9_between_0 : decode cX9_between 0 = .ok (.aload_n 0, 1) := by decide +kernel
theorem dX9_between_1 : decode cX9_between 1 = .ok (.iload_n 1, 1) := by decide +kernel
theorem dX9_between_2 : decode cX9_between 2 = .ok (.invokevirtual 82, 3) := by decide +kernel
theorem dX9_between_5 : decode cX9_between 5 = .ok (.aload_n 0, 1) := by decide +kernel
theorem dX9_between_6 : decode cX9_between 6 = .ok (.iload_n 2, 1) := by decide +kernel
theorem dX9_between_7 : decode cX9_between 7 = .ok (.invokevirtual 82, 3) := by decide +kernel
theorem dX9_between_10 : decode cX9_between 10 = .ok (.iload_n 3, 1) := by decide +kernel
theorem dX9_between_11 : decode cX9_between 11 = .ok (.ifCond .ne 10, 3) := by decide +kernel
theorem dX9_between_14 : decode cX9_between 14 = .ok (.aload_n 0, 1) := by decide +kernel
theorem dX9_between_15 : decode cX9_between 15 = .ok (.iload_n 1, 1) := by decide +kernel
theorem dX9_between_16 : decode cX9_between 16 = .ok (.iload_n 2, 1) := by decide +kernel
theorem dX9_between_17 : decode cX9_between 17 = .ok (.invokevirtual 237, 3) := by decide +kernel
theorem dX9_between_20 : decode cX9_between 20 = .ok (.ireturn, 1) := by decide +kernel
theorem dX9_between_21 : decode cX9_between 21 = .ok (.aload_n 0, 1) := by decide +kernel
theorem dX9_between_22 : decode cX9_between 22 = .ok (.getfield 33, 3) := by decide +kernel
theorem dX9_between_25 : decode cX9_between 25 = .ok (.aload_n 0, 1) := by decide +kernel
theorem dX9_between_26 : decode cX9_between 26 = .ok (.getfield 26, 3) := by decide +kernel
theorem dX9_between_29 : decode cX9_between 29 = .ok (.aload_n 0, 1) := by decide +kernel
theorem dX9_between_30 : decode cX9_between 30 = .ok (.getfield 19, 3) := by decide +kernel
theorem dX9_between_33 : decode cX9_between 33 = .ok (.invokevirtual 210, 3) := by decide +kernel
theorem dX9_between_36 : decode cX9_between 36 = .ok (.aload_n 0, 1) := by decide +kernel
theorem dX9_between_37 : decode cX9_between 37 = .ok (.getfield 33, 3) := by decide +kernel
theorem dX9_between_40 : decode cX9_between 40 = .ok (.iload_n 1, 1) := by decide +kernel
theorem dX9_between_41 : decode cX9_between 41 = .ok (.iload_n 2, 1) := by decide +kernel
theorem dX9_between_42 : decode cX9_between 42 = .ok (.invokevirtual 240, 3) := by decide +kernel
theorem dX9_between_45 : decode cX9_between 45 = .ok (.ireturn, 1) := by decide +kernel
theorem dX9_distance_0 : decode cX9_distance 0 = .ok (.aload_n 0, 1) := by decide +kernel
theorem dX9_distance_1 : decode cX9_distance 1 = .ok (.iload_n 1, 1) := by decide +kernel
theorem dX9_distance_2 : decode cX9_distance 2 = .ok (.invokevirtual 202, 3) := by decide +kernel
theorem dX9_distance_5 : decode cX9_distance 5 = .ok (.aload_n 0, 1) := by decide +kernel
theorem dX9_distance_6 : decode cX9_distance 6 = .ok (.iload_n 2, 1) := by decide +kernel
theorem dX9_distance_7 : decode cX9_distance 7 = .ok (.invokevirtual 202, 3) := by decide +kernel
theorem dX9_distance_10 : decode cX9_distance 10 = .ok (.aload_n 0, 1) := by decide +kernel
theorem dX9_distance_11 : decode cX9_distance 11 = .ok (.iload_n 2, 1) := by decide +kernel
theorem dX9_distance_12 : decode cX9_distance 12 = .ok (.iload_n 1, 1) := by decide +kernel
theorem dX9_distance_13 : decode cX9_distance 13 = .ok (.invokevirtual 243, 3) := by decide +kernel
theorem dX9_distance_16 : decode cX9_distance 16 = .ok (.ireturn, 1) := by decide +kernel
theorem dX9_proof_0 : decode cX9_proof 0 = .ok (.aload_n 0, 1) := by decide +kernel
theorem dX9_proof_1 : decode cX9_proof 1 = .ok (.iload_n 1, 1) := by decide +kernel
theorem dX9_proof_2 : decode cX9_proof 2 = .ok (.invokevirtual 202, 3) := by decide +kernel
theorem dX9_proof_5 : decode cX9_proof 5 = .ok (.aload_n 0, 1) := by decide +kernel
theorem dX9_proof_6 : decode cX9_proof 6 = .ok (.iload_n 2, 1) := by decide +kernel
theorem dX9_proof_7 : decode cX9_proof 7 = .ok (.invokevirtual 202, 3) := by decide +kernel
theorem dX9_proof_10 : decode cX9_proof 10 = .ok (.iload 4, 2) := by decide +kernel
theorem dX9_proof_12 : decode cX9_proof 12 = .ok (.ifCond .eq 19, 3) := by decide +kernel
theorem dX9_proof_15 : decode cX9_proof 15 = .ok (.iload 4, 2) := by decide +kernel
theorem dX9_proof_17 : decode cX9_proof 17 = .ok (.iconst 1, 1) := by decide +kernel
theorem dX9_proof_18 : decode cX9_proof 18 = .ok (.if_icmp .eq 13, 3) := by decide +kernel
theorem dX9_proof_21 : decode cX9_proof 21 = .ok (.new 70, 3) := by decide +kernel
theorem dX9_proof_24 : decode cX9_proof 24 = .ok (.dup, 1) := by decide +kernel
theorem dX9_proof_25 : decode cX9_proof 25 = .ok (.ldc 246, 2) := by decide +kernel
theorem dX9_proof_27 : decode cX9_proof 27 = .ok (.invokespecial 74, 3) := by decide +kernel
theorem dX9_proof_30 : decode cX9_proof 30 = .ok (.athrow, 1) := by decide +kernel
theorem dX9_proof_31 : decode cX9_proof 31 = .ok (.iload_n 3, 1) := by decide +kernel
theorem dX9_proof_32 : decode cX9_proof 32 = .ok (.ifCond .lt 13, 3) := by decide +kernel
theorem dX9_proof_35 : decode cX9_proof 35 = .ok (.iload_n 3, 1) := by decide +kernel
theorem dX9_proof_36 : decode cX9_proof 36 = .ok (.aload_n 0, 1) := by decide +kernel
theorem dX9_proof_37 : decode cX9_proof 37 = .ok (.iload_n 2, 1) := by decide +kernel
theorem dX9_proof_38 : decode cX9_proof 38 = .ok (.iload_n 1, 1) := by decide +kernel
theorem dX9_proof_39 : decode cX9_proof 39 = .ok (.invokevirtual 243, 3) := by decide +kernel
theorem dX9_proof_42 : decode cX9_proof 42 = .ok (.if_icmp .lt 13, 3) := by decide +kernel
theorem dX9_proof_45 : decode cX9_proof 45 = .ok (.new 90, 3) := by decide +kernel
theorem dX9_proof_48 : decode cX9_proof 48 = .ok (.dup, 1) := by decide +kernel
theorem dX9_proof_49 : decode cX9_proof 49 = .ok (.ldc 248, 2) := by decide +kernel
theorem dX9_proof_51 : decode cX9_proof 51 = .ok (.invokespecial 94, 3) := by decide +kernel
theorem dX9_proof_54 : decode cX9_proof 54 = .ok (.athrow, 1) := by decide +kernel
theorem dX9_proof_55 : decode cX9_proof 55 = .ok (.iload_n 1, 1) := by decide +kernel
theorem dX9_proof_56 : decode cX9_proof 56 = .ok (.istore 5, 2) := by decide +kernel
theorem dX9_proof_58 : decode cX9_proof 58 = .ok (.iconst 0, 1) := by decide +kernel
theorem dX9_proof_59 : decode cX9_proof 59 = .ok (.istore 6, 2) := by decide +kernel
theorem dX9_proof_61 : decode cX9_proof 61 = .ok (.iload 6, 2) := by decide +kernel
theorem dX9_proof_63 : decode cX9_proof 63 = .ok (.iload_n 3, 1) := by decide +kernel
theorem dX9_proof_64 : decode cX9_proof 64 = .ok (.if_icmp .ge 20, 3) := by decide +kernel
theorem dX9_proof_67 : decode cX9_proof 67 = .ok (.aload_n 0, 1) := by decide +kernel
theorem dX9_proof_68 : decode cX9_proof 68 = .ok (.getfield 33, 3) := by decide +kernel
theorem dX9_proof_71 : decode cX9_proof 71 = .ok (.iload 5, 2) := by decide +kernel
theorem dX9_proof_73 : decode cX9_proof 73 = .ok (.invokevirtual 250, 3) := by decide +kernel
theorem dX9_proof_76 : decode cX9_proof 76 = .ok (.istore 5, 2) := by decide +kernel
theorem dX9_proof_78 : decode cX9_proof 78 = .ok (.iinc 6 1, 3) := by decide +kernel
theorem dX9_proof_81 : decode cX9_proof 81 = .ok (.goto (-20), 3) := by decide +kernel
theorem dX9_proof_84 : decode cX9_proof 84 = .ok (.aload_n 0, 1) := by decide +kernel
theorem dX9_proof_85 : decode cX9_proof 85 = .ok (.getfield 33, 3) := by decide +kernel
theorem dX9_proof_88 : decode cX9_proof 88 = .ok (.iload 5, 2) := by decide +kernel
theorem dX9_proof_90 : decode cX9_proof 90 = .ok (.invokevirtual 250, 3) := by decide +kernel
theorem dX9_proof_93 : decode cX9_proof 93 = .ok (.istore 6, 2) := by decide +kernel
theorem dX9_proof_95 : decode cX9_proof 95 = .ok (.iload 4, 2) := by decide +kernel
theorem dX9_proof_97 : decode cX9_proof 97 = .ok (.ifCond .ne 8, 3) := by decide +kernel
theorem dX9_proof_100 : decode cX9_proof 100 = .ok (.iload 6, 2) := by decide +kernel
theorem dX9_proof_102 : decode cX9_proof 102 = .ok (.goto 14, 3) := by decide +kernel
theorem dX9_proof_105 : decode cX9_proof 105 = .ok (.aload_n 0, 1) := by decide +kernel
theorem dX9_proof_106 : decode cX9_proof 106 = .ok (.getfield 33, 3) := by decide +kernel
theorem dX9_proof_109 : decode cX9_proof 109 = .ok (.iload 5, 2) := by decide +kernel
theorem dX9_proof_111 : decode cX9_proof 111 = .ok (.iload 6, 2) := by decide +kernel
theorem dX9_proof_113 : decode cX9_proof 113 = .ok (.invokevirtual 253, 3) := by decide +kernel
theorem dX9_proof_116 : decode cX9_proof 116 = .ok (.ireturn, 1) := by decide +kernel
theorem dX9_cell_0 : decode cX9_cell 0 = .ok (.aload_n 0, 1) := by decide +kernel
theorem dX9_cell_1 : decode cX9_cell 1 = .ok (.iload_n 1, 1) := by decide +kernel
theorem dX9_cell_2 : decode cX9_cell 2 = .ok (.invokevirtual 146, 3) := by decide +kernel
theorem dX9_cell_5 : decode cX9_cell 5 = .ok (.iload_n 2, 1) := by decide +kernel
theorem dX9_cell_6 : decode cX9_cell 6 = .ok (.tableswitch 151 0 4 #[34, 44, 54, 90, 133], 34) := by decide +kernel
theorem dX9_cell_40 : decode cX9_cell 40 = .ok (.aload_n 0, 1) := by decide +kernel
theorem dX9_cell_41 : decode cX9_cell 41 = .ok (.getfield 19, 3) := by decide +kernel
theorem dX9_cell_44 : decode cX9_cell 44 = .ok (.iload_n 1, 1) := by decide +kernel
theorem dX9_cell_45 : decode cX9_cell 45 = .ok (.iconst 0, 1) := by decide +kernel
theorem dX9_cell_46 : decode cX9_cell 46 = .ok (.invokevirtual 256, 3) := by decide +kernel
theorem dX9_cell_49 : decode cX9_cell 49 = .ok (.ireturn, 1) := by decide +kernel
theorem dX9_cell_50 : decode cX9_cell 50 = .ok (.aload_n 0, 1) := by decide +kernel
theorem dX9_cell_51 : decode cX9_cell 51 = .ok (.getfield 19, 3) := by decide +kernel
theorem dX9_cell_54 : decode cX9_cell 54 = .ok (.iload_n 1, 1) := by decide +kernel
theorem dX9_cell_55 : decode cX9_cell 55 = .ok (.iconst 1, 1) := by decide +kernel
theorem dX9_cell_56 : decode cX9_cell 56 = .ok (.invokevirtual 256, 3) := by decide +kernel
theorem dX9_cell_59 : decode cX9_cell 59 = .ok (.ireturn, 1) := by decide +kernel
theorem dX9_cell_60 : decode cX9_cell 60 = .ok (.aload_n 0, 1) := by decide +kernel
theorem dX9_cell_61 : decode cX9_cell 61 = .ok (.getfield 33, 3) := by decide +kernel
theorem dX9_cell_64 : decode cX9_cell 64 = .ok (.aload_n 0, 1) := by decide +kernel
theorem dX9_cell_65 : decode cX9_cell 65 = .ok (.getfield 26, 3) := by decide +kernel
theorem dX9_cell_68 : decode cX9_cell 68 = .ok (.aload_n 0, 1) := by decide +kernel
theorem dX9_cell_69 : decode cX9_cell 69 = .ok (.getfield 19, 3) := by decide +kernel
theorem dX9_cell_72 : decode cX9_cell 72 = .ok (.invokevirtual 210, 3) := by decide +kernel
theorem dX9_cell_75 : decode cX9_cell 75 = .ok (.aload_n 0, 1) := by decide +kernel
theorem dX9_cell_76 : decode cX9_cell 76 = .ok (.getfield 33, 3) := by decide +kernel
theorem dX9_cell_79 : decode cX9_cell 79 = .ok (.aload_n 0, 1) := by decide +kernel
theorem dX9_cell_80 : decode cX9_cell 80 = .ok (.getfield 19, 3) := by decide +kernel
theorem dX9_cell_83 : decode cX9_cell 83 = .ok (.iload_n 1, 1) := by decide +kernel
theorem dX9_cell_84 : decode cX9_cell 84 = .ok (.invokevirtual 259, 3) := by decide +kernel
theorem dX9_cell_87 : decode cX9_cell 87 = .ok (.ifCond .eq 7, 3) := by decide +kernel
theorem dX9_cell_90 : decode cX9_cell 90 = .ok (.iconst 1, 1) := by decide +kernel
theorem dX9_cell_91 : decode cX9_cell 91 = .ok (.goto 4, 3) := by decide +kernel
theorem dX9_cell_94 : decode cX9_cell 94 = .ok (.iconst 0, 1) := by decide +kernel
theorem dX9_cell_95 : decode cX9_cell 95 = .ok (.ireturn, 1) := by decide +kernel
theorem dX9_cell_96 : decode cX9_cell 96 = .ok (.aload_n 0, 1) := by decide +kernel
theorem dX9_cell_97 : decode cX9_cell 97 = .ok (.getfield 33, 3) := by decide +kernel
theorem dX9_cell_100 : decode cX9_cell 100 = .ok (.aload_n 0, 1) := by decide +kernel
theorem dX9_cell_101 : decode cX9_cell 101 = .ok (.getfield 26, 3) := by decide +kernel
theorem dX9_cell_104 : decode cX9_cell 104 = .ok (.aload_n 0, 1) := by decide +kernel
theorem dX9_cell_105 : decode cX9_cell 105 = .ok (.getfield 19, 3) := by decide +kernel
theorem dX9_cell_108 : decode cX9_cell 108 = .ok (.invokevirtual 210, 3) := by decide +kernel
theorem dX9_cell_111 : decode cX9_cell 111 = .ok (.aload_n 0, 1) := by decide +kernel
theorem dX9_cell_112 : decode cX9_cell 112 = .ok (.getfield 33, 3) := by decide +kernel
theorem dX9_cell_115 : decode cX9_cell 115 = .ok (.aload_n 0, 1) := by decide +kernel
theorem dX9_cell_116 : decode cX9_cell 116 = .ok (.getfield 19, 3) := by decide +kernel
theorem dX9_cell_119 : decode cX9_cell 119 = .ok (.invokevirtual 263, 3) := by decide +kernel
theorem dX9_cell_122 : decode cX9_cell 122 = .ok (.aload_n 0, 1) := by decide +kernel
theorem dX9_cell_123 : decode cX9_cell 123 = .ok (.getfield 33, 3) := by decide +kernel
theorem dX9_cell_126 : decode cX9_cell 126 = .ok (.iload_n 1, 1) := by decide +kernel
theorem dX9_cell_127 : decode cX9_cell 127 = .ok (.invokevirtual 266, 3) := by decide +kernel
theorem dX9_cell_130 : decode cX9_cell 130 = .ok (.ifCond .eq 7, 3) := by decide +kernel
theorem dX9_cell_133 : decode cX9_cell 133 = .ok (.iconst 1, 1) := by decide +kernel
theorem dX9_cell_134 : decode cX9_cell 134 = .ok (.goto 4, 3) := by decide +kernel
theorem dX9_cell_137 : decode cX9_cell 137 = .ok (.iconst 0, 1) := by decide +kernel
theorem dX9_cell_138 : decode cX9_cell 138 = .ok (.ireturn, 1) := by decide +kernel
theorem dX9_cell_139 : decode cX9_cell 139 = .ok (.aload_n 0, 1) := by decide +kernel
theorem dX9_cell_140 : decode cX9_cell 140 = .ok (.aload_n 0, 1) := by decide +kernel
theorem dX9_cell_141 : decode cX9_cell 141 = .ok (.getfield 40, 3) := by decide +kernel
theorem dX9_cell_144 : decode cX9_cell 144 = .ok (.iload_n 1, 1) := by decide +kernel
theorem dX9_cell_145 : decode cX9_cell 145 = .ok (.invokevirtual 270, 3) := by decide +kernel
theorem dX9_cell_148 : decode cX9_cell 148 = .ok (.ifCond .eq 7, 3) := by decide +kernel
theorem dX9_cell_151 : decode cX9_cell 151 = .ok (.iconst 1, 1) := by decide +kernel
theorem dX9_cell_152 : decode cX9_cell 152 = .ok (.goto 4, 3) := by decide +kernel
theorem dX9_cell_155 : decode cX9_cell 155 = .ok (.iconst 0, 1) := by decide +kernel
theorem dX9_cell_156 : decode cX9_cell 156 = .ok (.ireturn, 1) := by decide +kernel
theorem dX9_cell_157 : decode cX9_cell 157 = .ok (.new 70, 3) := by decide +kernel
theorem dX9_cell_160 : decode cX9_cell 160 = .ok (.dup, 1) := by decide +kernel
theorem dX9_cell_161 : decode cX9_cell 161 = .ok (.ldc_w 274, 3) := by decide +kernel
theorem dX9_cell_164 : decode cX9_cell 164 = .ok (.invokespecial 74, 3) := by decide +kernel
theorem dX9_cell_167 : decode cX9_cell 167 = .ok (.athrow, 1) := by decide +kernel
theorem dX9_count_0 : decode cX9_count 0 = .ok (.iload_n 1, 1) := by decide +kernel
theorem dX9_count_1 : decode cX9_count 1 = .ok (.tableswitch 162 0 7 #[47, 55, 63, 71, 79, 102, 123, 128], 47) := by decide +kernel
theorem dX9_count_48 : decode cX9_count 48 = .ok (.aload_n 0, 1) := by decide +kernel
theorem dX9_count_49 : decode cX9_count 49 = .ok (.getfield 12, 3) := by decide +kernel
theorem dX9_count_52 : decode cX9_count 52 = .ok (.invokevirtual 77, 3) := by decide +kernel
theorem dX9_count_55 : decode cX9_count 55 = .ok (.ireturn, 1) := by decide +kernel
theorem dX9_count_56 : decode cX9_count 56 = .ok (.aload_n 0, 1) := by decide +kernel
theorem dX9_count_57 : decode cX9_count 57 = .ok (.getfield 12, 3) := by decide +kernel
theorem dX9_count_60 : decode cX9_count 60 = .ok (.invokevirtual 87, 3) := by decide +kernel
theorem dX9_count_63 : decode cX9_count 63 = .ok (.ireturn, 1) := by decide +kernel
theorem dX9_count_64 : decode cX9_count 64 = .ok (.aload_n 0, 1) := by decide +kernel
theorem dX9_count_65 : decode cX9_count 65 = .ok (.getfield 19, 3) := by decide +kernel
theorem dX9_count_68 : decode cX9_count 68 = .ok (.invokevirtual 123, 3) := by decide +kernel
theorem dX9_count_71 : decode cX9_count 71 = .ok (.ireturn, 1) := by decide +kernel
theorem dX9_count_72 : decode cX9_count 72 = .ok (.aload_n 0, 1) := by decide +kernel
theorem dX9_count_73 : decode cX9_count 73 = .ok (.getfield 26, 3) := by decide +kernel
theorem dX9_count_76 : decode cX9_count 76 = .ok (.invokevirtual 276, 3) := by decide +kernel
theorem dX9_count_79 : decode cX9_count 79 = .ok (.ireturn, 1) := by decide +kernel
theorem dX9_count_80 : decode cX9_count 80 = .ok (.aload_n 0, 1) := by decide +kernel
theorem dX9_count_81 : decode cX9_count 81 = .ok (.getfield 33, 3) := by decide +kernel
theorem dX9_count_84 : decode cX9_count 84 = .ok (.aload_n 0, 1) := by decide +kernel
theorem dX9_count_85 : decode cX9_count 85 = .ok (.getfield 26, 3) := by decide +kernel
theorem dX9_count_88 : decode cX9_count 88 = .ok (.aload_n 0, 1) := by decide +kernel
theorem dX9_count_89 : decode cX9_count 89 = .ok (.getfield 19, 3) := by decide +kernel
theorem dX9_count_92 : decode cX9_count 92 = .ok (.invokevirtual 210, 3) := by decide +kernel
theorem dX9_count_95 : decode cX9_count 95 = .ok (.aload_n 0, 1) := by decide +kernel
theorem dX9_count_96 : decode cX9_count 96 = .ok (.getfield 33, 3) := by decide +kernel
theorem dX9_count_99 : decode cX9_count 99 = .ok (.invokevirtual 277, 3) := by decide +kernel
theorem dX9_count_102 : decode cX9_count 102 = .ok (.ireturn, 1) := by decide +kernel
theorem dX9_count_103 : decode cX9_count 103 = .ok (.aload_n 0, 1) := by decide +kernel
theorem dX9_count_104 : decode cX9_count 104 = .ok (.getfield 33, 3) := by decide +kernel
theorem dX9_count_107 : decode cX9_count 107 = .ok (.aload_n 0, 1) := by decide +kernel
theorem dX9_count_108 : decode cX9_count 108 = .ok (.getfield 26, 3) := by decide +kernel
theorem dX9_count_111 : decode cX9_count 111 = .ok (.aload_n 0, 1) := by decide +kernel
theorem dX9_count_112 : decode cX9_count 112 = .ok (.getfield 19, 3) := by decide +kernel
theorem dX9_count_115 : decode cX9_count 115 = .ok (.invokevirtual 210, 3) := by decide +kernel
theorem dX9_count_118 : decode cX9_count 118 = .ok (.aload_n 0, 1) := by decide +kernel
theorem dX9_count_119 : decode cX9_count 119 = .ok (.iconst 1, 1) := by decide +kernel
theorem dX9_count_120 : decode cX9_count 120 = .ok (.invokevirtual 280, 3) := by decide +kernel
theorem dX9_count_123 : decode cX9_count 123 = .ok (.ireturn, 1) := by decide +kernel
theorem dX9_count_124 : decode cX9_count 124 = .ok (.aload_n 0, 1) := by decide +kernel
theorem dX9_count_125 : decode cX9_count 125 = .ok (.invokevirtual 283, 3) := by decide +kernel
theorem dX9_count_128 : decode cX9_count 128 = .ok (.ireturn, 1) := by decide +kernel
theorem dX9_count_129 : decode cX9_count 129 = .ok (.aload_n 0, 1) := by decide +kernel
theorem dX9_count_130 : decode cX9_count 130 = .ok (.getfield 33, 3) := by decide +kernel
theorem dX9_count_133 : decode cX9_count 133 = .ok (.aload_n 0, 1) := by decide +kernel
theorem dX9_count_134 : decode cX9_count 134 = .ok (.getfield 26, 3) := by decide +kernel
theorem dX9_count_137 : decode cX9_count 137 = .ok (.aload_n 0, 1) := by decide +kernel
theorem dX9_count_138 : decode cX9_count 138 = .ok (.getfield 19, 3) := by decide +kernel
theorem dX9_count_141 : decode cX9_count 141 = .ok (.invokevirtual 210, 3) := by decide +kernel
theorem dX9_count_144 : decode cX9_count 144 = .ok (.aload_n 0, 1) := by decide +kernel
theorem dX9_count_145 : decode cX9_count 145 = .ok (.getfield 33, 3) := by decide +kernel
theorem dX9_count_148 : decode cX9_count 148 = .ok (.aload_n 0, 1) := by decide +kernel
theorem dX9_count_149 : decode cX9_count 149 = .ok (.getfield 19, 3) := by decide +kernel
theorem dX9_count_152 : decode cX9_count 152 = .ok (.invokevirtual 263, 3) := by decide +kernel
theorem dX9_count_155 : decode cX9_count 155 = .ok (.aload_n 0, 1) := by decide +kernel
theorem dX9_count_156 : decode cX9_count 156 = .ok (.getfield 33, 3) := by decide +kernel
theorem dX9_count_159 : decode cX9_count 159 = .ok (.invokevirtual 286, 3) := by decide +kernel
theorem dX9_count_162 : decode cX9_count 162 = .ok (.ireturn, 1) := by decide +kernel
theorem dX9_count_163 : decode cX9_count 163 = .ok (.new 70, 3) := by decide +kernel
theorem dX9_count_166 : decode cX9_count 166 = .ok (.dup, 1) := by decide +kernel
theorem dX9_count_167 : decode cX9_count 167 = .ok (.ldc_w 289, 3) := by decide +kernel
theorem dX9_count_170 : decode cX9_count 170 = .ok (.invokespecial 74, 3) := by decide +kernel
theorem dX9_count_173 : decode cX9_count 173 = .ok (.athrow, 1) := by decide +kernel
theorem dX9_commuting_0 : decode cX9_commuting 0 = .ok (.aload_n 0, 1) := by decide +kernel
theorem dX9_commuting_1 : decode cX9_commuting 1 = .ok (.getfield 33, 3) := by decide +kernel
theorem dX9_commuting_4 : decode cX9_commuting 4 = .ok (.aload_n 0, 1) := by decide +kernel
theorem dX9_commuting_5 : decode cX9_commuting 5 = .ok (.getfield 26, 3) := by decide +kernel
theorem dX9_commuting_8 : decode cX9_commuting 8 = .ok (.aload_n 0, 1) := by decide +kernel
theorem dX9_commuting_9 : decode cX9_commuting 9 = .ok (.getfield 19, 3) := by decide +kernel
theorem dX9_commuting_12 : decode cX9_commuting 12 = .ok (.invokevirtual 210, 3) := by decide +kernel
theorem dX9_commuting_15 : decode cX9_commuting 15 = .ok (.aload_n 0, 1) := by decide +kernel
theorem dX9_commuting_16 : decode cX9_commuting 16 = .ok (.sipush 300, 3) := by decide +kernel
theorem dX9_commuting_19 : decode cX9_commuting 19 = .ok (.invokevirtual 280, 3) := by decide +kernel
theorem dX9_commuting_22 : decode cX9_commuting 22 = .ok (.istore_n 1, 1) := by decide +kernel
theorem dX9_commuting_23 : decode cX9_commuting 23 = .ok (.iload_n 1, 1) := by decide +kernel
theorem dX9_commuting_24 : decode cX9_commuting 24 = .ok (.ifCond .le 15, 3) := by decide +kernel
theorem dX9_commuting_27 : decode cX9_commuting 27 = .ok (.aload_n 0, 1) := by decide +kernel
theorem dX9_commuting_28 : decode cX9_commuting 28 = .ok (.iconst 1, 1) := by decide +kernel
theorem dX9_commuting_29 : decode cX9_commuting 29 = .ok (.invokevirtual 280, 3) := by decide +kernel
theorem dX9_commuting_32 : decode cX9_commuting 32 = .ok (.i2d, 1) := by decide +kernel
theorem dX9_commuting_33 : decode cX9_commuting 33 = .ok (.iload_n 1, 1) := by decide +kernel
theorem dX9_commuting_34 : decode cX9_commuting 34 = .ok (.i2d, 1) := by decide +kernel
theorem dX9_commuting_35 : decode cX9_commuting 35 = .ok (.ddiv, 1) := by decide +kernel
theorem dX9_commuting_36 : decode cX9_commuting 36 = .ok (.goto 4, 3) := by decide +kernel
theorem dX9_commuting_39 : decode cX9_commuting 39 = .ok (.dconst 1, 1) := by decide +kernel
theorem dX9_commuting_40 : decode cX9_commuting 40 = .ok (.dreturn, 1) := by decide +kernel
theorem dX9_setSize_0 : decode cX9_setSize 0 = .ok (.aload_n 0, 1) := by decide +kernel
theorem dX9_setSize_1 : decode cX9_setSize 1 = .ok (.iload_n 1, 1) := by decide +kernel
theorem dX9_setSize_2 : decode cX9_setSize 2 = .ok (.invokevirtual 82, 3) := by decide +kernel
theorem dX9_setSize_5 : decode cX9_setSize 5 = .ok (.iload_n 2, 1) := by decide +kernel
theorem dX9_setSize_6 : decode cX9_setSize 6 = .ok (.iconst 1, 1) := by decide +kernel
theorem dX9_setSize_7 : decode cX9_setSize 7 = .ok (.if_icmp .lt 8, 3) := by decide +kernel
theorem dX9_setSize_10 : decode cX9_setSize 10 = .ok (.iload_n 2, 1) := by decide +kernel
theorem dX9_setSize_11 : decode cX9_setSize 11 = .ok (.iconst 4, 1) := by decide +kernel
theorem dX9_setSize_12 : decode cX9_setSize 12 = .ok (.if_icmp .le 14, 3) := by decide +kernel
theorem dX9_setSize_15 : decode cX9_setSize 15 = .ok (.new 70, 3) := by decide +kernel
theorem dX9_setSize_18 : decode cX9_setSize 18 = .ok (.dup, 1) := by decide +kernel
theorem dX9_setSize_19 : decode cX9_setSize 19 = .ok (.ldc_w 291, 3) := by decide +kernel
theorem dX9_setSize_22 : decode cX9_setSize 22 = .ok (.invokespecial 74, 3) := by decide +kernel
theorem dX9_setSize_25 : decode cX9_setSize 25 = .ok (.athrow, 1) := by decide +kernel
theorem dX9_setSize_26 : decode cX9_setSize 26 = .ok (.aload_n 0, 1) := by decide +kernel
theorem dX9_setSize_27 : decode cX9_setSize 27 = .ok (.getfield 40, 3) := by decide +kernel
theorem dX9_setSize_30 : decode cX9_setSize 30 = .ok (.iload_n 1, 1) := by decide +kernel
theorem dX9_setSize_31 : decode cX9_setSize 31 = .ok (.invokevirtual 224, 3) := by decide +kernel
theorem dX9_setSize_34 : decode cX9_setSize 34 = .ok (.istore_n 3, 1) := by decide +kernel
theorem dX9_setSize_35 : decode cX9_setSize 35 = .ok (.aload_n 0, 1) := by decide +kernel
theorem dX9_setSize_36 : decode cX9_setSize 36 = .ok (.getfield 40, 3) := by decide +kernel
theorem dX9_setSize_39 : decode cX9_setSize 39 = .ok (.iload_n 1, 1) := by decide +kernel
theorem dX9_setSize_40 : decode cX9_setSize 40 = .ok (.iload_n 2, 1) := by decide +kernel
theorem dX9_setSize_41 : decode cX9_setSize 41 = .ok (.invokevirtual 293, 3) := by decide +kernel
theorem dX9_setSize_44 : decode cX9_setSize 44 = .ok (.iconst 0, 1) := by decide +kernel
theorem dX9_setSize_45 : decode cX9_setSize 45 = .ok (.istore 4, 2) := by decide +kernel
theorem dX9_setSize_47 : decode cX9_setSize 47 = .ok (.iload 4, 2) := by decide +kernel
theorem dX9_setSize_49 : decode cX9_setSize 49 = .ok (.aload_n 0, 1) := by decide +kernel
theorem dX9_setSize_50 : decode cX9_setSize 50 = .ok (.getfield 12, 3) := by decide +kernel
theorem dX9_setSize_53 : decode cX9_setSize 53 = .ok (.invokevirtual 87, 3) := by decide +kernel
theorem dX9_setSize_56 : decode cX9_setSize 56 = .ok (.if_icmp .ge 45, 3) := by decide +kernel
theorem dX9_setSize_59 : decode cX9_setSize 59 = .ok (.aload_n 0, 1) := by decide +kernel
theorem dX9_setSize_60 : decode cX9_setSize 60 = .ok (.getfield 12, 3) := by decide +kernel
theorem dX9_setSize_63 : decode cX9_setSize 63 = .ok (.iload 4, 2) := by decide +kernel
theorem dX9_setSize_65 : decode cX9_setSize 65 = .ok (.invokevirtual 191, 3) := by decide +kernel
theorem dX9_setSize_68 : decode cX9_setSize 68 = .ok (.iload_n 1, 1) := by decide +kernel
theorem dX9_setSize_69 : decode cX9_setSize 69 = .ok (.if_icmp .eq 16, 3) := by decide +kernel
theorem dX9_setSize_72 : decode cX9_setSize 72 = .ok (.aload_n 0, 1) := by decide +kernel
theorem dX9_setSize_73 : decode cX9_setSize 73 = .ok (.getfield 12, 3) := by decide +kernel
theorem dX9_setSize_76 : decode cX9_setSize 76 = .ok (.iload 4, 2) := by decide +kernel
theorem dX9_setSize_78 : decode cX9_setSize 78 = .ok (.invokevirtual 296, 3) := by decide +kernel
theorem dX9_setSize_81 : decode cX9_setSize 81 = .ok (.iload_n 1, 1) := by decide +kernel
theorem dX9_setSize_82 : decode cX9_setSize 82 = .ok (.if_icmp .ne 13, 3) := by decide +kernel
theorem dX9_setSize_85 : decode cX9_setSize 85 = .ok (.aload_n 0, 1) := by decide +kernel
theorem dX9_setSize_86 : decode cX9_setSize 86 = .ok (.getfield 40, 3) := by decide +kernel
theorem dX9_setSize_89 : decode cX9_setSize 89 = .ok (.iload 4, 2) := by decide +kernel
theorem dX9_setSize_91 : decode cX9_setSize 91 = .ok (.iconst 0, 1) := by decide +kernel
theorem dX9_setSize_92 : decode cX9_setSize 92 = .ok (.invokevirtual 107, 3) := by decide +kernel
theorem dX9_setSize_95 : decode cX9_setSize 95 = .ok (.iinc 4 1, 3) := by decide +kernel
theorem dX9_setSize_98 : decode cX9_setSize 98 = .ok (.goto (-51), 3) := by decide +kernel
theorem dX9_setSize_101 : decode cX9_setSize 101 = .ok (.iload_n 3, 1) := by decide +kernel
theorem dX9_setSize_102 : decode cX9_setSize 102 = .ok (.ireturn, 1) := by decide +kernel
theorem dX9_setFunction_0 : decode cX9_setFunction 0 = .ok (.aload_n 0, 1) := by decide +kernel
theorem dX9_setFunction_1 : decode cX9_setFunction 1 = .ok (.iload_n 1, 1) := by decide +kernel
theorem dX9_setFunction_2 : decode cX9_setFunction 2 = .ok (.invokevirtual 299, 3) := by decide +kernel
theorem dX9_setFunction_5 : decode cX9_setFunction 5 = .ok (.iload_n 2, 1) := by decide +kernel
theorem dX9_setFunction_6 : decode cX9_setFunction 6 = .ok (.aload_n 0, 1) := by decide +kernel
theorem dX9_setFunction_7 : decode cX9_setFunction 7 = .ok (.getfield 40, 3) := by decide +kernel
theorem dX9_setFunction_10 : decode cX9_setFunction 10 = .ok (.aload_n 0, 1) := by decide +kernel
theorem dX9_setFunction_11 : decode cX9_setFunction 11 = .ok (.getfield 12, 3) := by decide +kernel
theorem dX9_setFunction_14 : decode cX9_setFunction 14 = .ok (.iload_n 1, 1) := by decide +kernel
theorem dX9_setFunction_15 : decode cX9_setFunction 15 = .ok (.invokevirtual 191, 3) := by decide +kernel
theorem dX9_setFunction_18 : decode cX9_setFunction 18 = .ok (.invokevirtual 224, 3) := by decide +kernel
theorem dX9_setFunction_21 : decode cX9_setFunction 21 = .ok (.aload_n 0, 1) := by decide +kernel
theorem dX9_setFunction_22 : decode cX9_setFunction 22 = .ok (.getfield 40, 3) := by decide +kernel
theorem dX9_setFunction_25 : decode cX9_setFunction 25 = .ok (.aload_n 0, 1) := by decide +kernel
theorem dX9_setFunction_26 : decode cX9_setFunction 26 = .ok (.getfield 12, 3) := by decide +kernel
theorem dX9_setFunction_29 : decode cX9_setFunction 29 = .ok (.iload_n 1, 1) := by decide +kernel
theorem dX9_setFunction_30 : decode cX9_setFunction 30 = .ok (.invokevirtual 296, 3) := by decide +kernel
theorem dX9_setFunction_33 : decode cX9_setFunction 33 = .ok (.invokevirtual 224, 3) := by decide +kernel
theorem dX9_setFunction_36 : decode cX9_setFunction 36 = .ok (.invokestatic 302, 3) := by decide +kernel
theorem dX9_setFunction_39 : decode cX9_setFunction 39 = .ok (.ifCond .ne 14, 3) := by decide +kernel
theorem dX9_setFunction_42 : decode cX9_setFunction 42 = .ok (.new 70, 3) := by decide +kernel
theorem dX9_setFunction_45 : decode cX9_setFunction 45 = .ok (.dup, 1) := by decide +kernel
theorem dX9_setFunction_46 : decode cX9_setFunction 46 = .ok (.ldc_w 306, 3) := by decide +kernel
theorem dX9_setFunction_49 : decode cX9_setFunction 49 = .ok (.invokespecial 74, 3) := by decide +kernel
theorem dX9_setFunction_52 : decode cX9_setFunction 52 = .ok (.athrow, 1) := by decide +kernel
theorem dX9_setFunction_53 : decode cX9_setFunction 53 = .ok (.aload_n 0, 1) := by decide +kernel
theorem dX9_setFunction_54 : decode cX9_setFunction 54 = .ok (.getfield 40, 3) := by decide +kernel
theorem dX9_setFunction_57 : decode cX9_setFunction 57 = .ok (.iload_n 1, 1) := by decide +kernel
theorem dX9_setFunction_58 : decode cX9_setFunction 58 = .ok (.invokevirtual 308, 3) := by decide +kernel
theorem dX9_setFunction_61 : decode cX9_setFunction 61 = .ok (.istore_n 3, 1) := by decide +kernel
theorem dX9_setFunction_62 : decode cX9_setFunction 62 = .ok (.aload_n 0, 1) := by decide +kernel
theorem dX9_setFunction_63 : decode cX9_setFunction 63 = .ok (.getfield 40, 3) := by decide +kernel
theorem dX9_setFunction_66 : decode cX9_setFunction 66 = .ok (.iload_n 1, 1) := by decide +kernel
theorem dX9_setFunction_67 : decode cX9_setFunction 67 = .ok (.iload_n 2, 1) := by decide +kernel
theorem dX9_setFunction_68 : decode cX9_setFunction 68 = .ok (.invokevirtual 107, 3) := by decide +kernel
theorem dX9_setFunction_71 : decode cX9_setFunction 71 = .ok (.iload_n 3, 1) := by decide +kernel
theorem dX9_setFunction_72 : decode cX9_setFunction 72 = .ok (.ireturn, 1) := by decide +kernel
theorem dX9_apply_0 : decode cX9_apply 0 = .ok (.aload_n 0, 1) := by decide +kernel
theorem dX9_apply_1 : decode cX9_apply 1 = .ok (.iload_n 1, 1) := by decide +kernel
theorem dX9_apply_2 : decode cX9_apply 2 = .ok (.invokevirtual 202, 3) := by decide +kernel
theorem dX9_apply_5 : decode cX9_apply 5 = .ok (.iload_n 2, 1) := by decide +kernel
theorem dX9_apply_6 : decode cX9_apply 6 = .ok (.ifCond .lt 25, 3) := by decide +kernel
theorem dX9_apply_9 : decode cX9_apply 9 = .ok (.iload_n 2, 1) := by decide +kernel
theorem dX9_apply_10 : decode cX9_apply 10 = .ok (.aload_n 0, 1) := by decide +kernel
theorem dX9_apply_11 : decode cX9_apply 11 = .ok (.getfield 40, 3) := by decide +kernel
theorem dX9_apply_14 : decode cX9_apply 14 = .ok (.aload_n 0, 1) := by decide +kernel
theorem dX9_apply_15 : decode cX9_apply 15 = .ok (.getfield 26, 3) := by decide +kernel
theorem dX9_apply_18 : decode cX9_apply 18 = .ok (.getfield 128, 3) := by decide +kernel
theorem dX9_apply_21 : decode cX9_apply 21 = .ok (.iload_n 1, 1) := by decide +kernel
theorem dX9_apply_22 : decode cX9_apply 22 = .ok (.invokevirtual 132, 3) := by decide +kernel
theorem dX9_apply_25 : decode cX9_apply 25 = .ok (.invokevirtual 224, 3) := by decide +kernel
theorem dX9_apply_28 : decode cX9_apply 28 = .ok (.if_icmp .lt 14, 3) := by decide +kernel
theorem dX9_apply_31 : decode cX9_apply 31 = .ok (.new 70, 3) := by decide +kernel
theorem dX9_apply_34 : decode cX9_apply 34 = .ok (.dup, 1) := by decide +kernel
theorem dX9_apply_35 : decode cX9_apply 35 = .ok (.ldc_w 311, 3) := by decide +kernel
theorem dX9_apply_38 : decode cX9_apply 38 = .ok (.invokespecial 74, 3) := by decide +kernel
theorem dX9_apply_41 : decode cX9_apply 41 = .ok (.athrow, 1) := by decide +kernel
theorem dX9_apply_42 : decode cX9_apply 42 = .ok (.aload_n 0, 1) := by decide +kernel
theorem dX9_apply_43 : decode cX9_apply 43 = .ok (.getfield 40, 3) := by decide +kernel
theorem dX9_apply_46 : decode cX9_apply 46 = .ok (.aload_n 0, 1) := by decide +kernel
theorem dX9_apply_47 : decode cX9_apply 47 = .ok (.getfield 26, 3) := by decide +kernel
theorem dX9_apply_50 : decode cX9_apply 50 = .ok (.iload_n 1, 1) := by decide +kernel
theorem dX9_apply_51 : decode cX9_apply 51 = .ok (.iload_n 2, 1) := by decide +kernel
theorem dX9_apply_52 : decode cX9_apply 52 = .ok (.invokevirtual 313, 3) := by decide +kernel
theorem dX9_apply_55 : decode cX9_apply 55 = .ok (.ireturn, 1) := by decide +kernel
theorem dX9_imageShare_0 : decode cX9_imageShare 0 = .ok (.aload_n 0, 1) := by decide +kernel
theorem dX9_imageShare_1 : decode cX9_imageShare 1 = .ok (.iload_n 1, 1) := by decide +kernel
theorem dX9_imageShare_2 : decode cX9_imageShare 2 = .ok (.invokevirtual 202, 3) := by decide +kernel
theorem dX9_imageShare_5 : decode cX9_imageShare 5 = .ok (.aload_n 0, 1) := by decide +kernel
theorem dX9_imageShare_6 : decode cX9_imageShare 6 = .ok (.getfield 40, 3) := by decide +kernel
theorem dX9_imageShare_9 : decode cX9_imageShare 9 = .ok (.aload_n 0, 1) := by decide +kernel
theorem dX9_imageShare_10 : decode cX9_imageShare 10 = .ok (.getfield 26, 3) := by decide +kernel
theorem dX9_imageShare_13 : decode cX9_imageShare 13 = .ok (.getfield 205, 3) := by decide +kernel
theorem dX9_imageShare_16 : decode cX9_imageShare 16 = .ok (.iload_n 1, 1) := by decide +kernel
theorem dX9_imageShare_17 : decode cX9_imageShare 17 = .ok (.invokevirtual 132, 3) := by decide +kernel
theorem dX9_imageShare_20 : decode cX9_imageShare 20 = .ok (.invokevirtual 224, 3) := by decide +kernel
theorem dX9_imageShare_23 : decode cX9_imageShare 23 = .ok (.istore_n 2, 1) := by decide +kernel
theorem dX9_imageShare_24 : decode cX9_imageShare 24 = .ok (.iload_n 2, 1) := by decide +kernel
theorem dX9_imageShare_25 : decode cX9_imageShare 25 = .ok (.ifCond .le 25, 3) := by decide +kernel
theorem dX9_imageShare_28 : decode cX9_imageShare 28 = .ok (.aload_n 0, 1) := by decide +kernel
theorem dX9_imageShare_29 : decode cX9_imageShare 29 = .ok (.getfield 40, 3) := by decide +kernel
theorem dX9_imageShare_32 : decode cX9_imageShare 32 = .ok (.aload_n 0, 1) := by decide +kernel
theorem dX9_imageShare_33 : decode cX9_imageShare 33 = .ok (.getfield 26, 3) := by decide +kernel
theorem dX9_imageShare_36 : decode cX9_imageShare 36 = .ok (.iload_n 1, 1) := by decide +kernel
theorem dX9_imageShare_37 : decode cX9_imageShare 37 = .ok (.invokevirtual 220, 3) := by decide +kernel
theorem dX9_imageShare_40 : decode cX9_imageShare 40 = .ok (.i2f, 1) := by decide +kernel
theorem dX9_imageShare_41 : decode cX9_imageShare 41 = .ok (.iload_n 2, 1) := by decide +kernel
theorem dX9_imageShare_42 : decode cX9_imageShare 42 = .ok (.i2f, 1) := by decide +kernel
theorem dX9_imageShare_43 : decode cX9_imageShare 43 = .ok (.fdiv, 1) := by decide +kernel
theorem dX9_imageShare_44 : decode cX9_imageShare 44 = .ok (.invokestatic 317, 3) := by decide +kernel
theorem dX9_imageShare_47 : decode cX9_imageShare 47 = .ok (.goto 4, 3) := by decide +kernel
theorem dX9_imageShare_50 : decode cX9_imageShare 50 = .ok (.iconst 0, 1) := by decide +kernel
theorem dX9_imageShare_51 : decode cX9_imageShare 51 = .ok (.ireturn, 1) := by decide +kernel
theorem dX9_separate_0 : decode cX9_separate 0 = .ok (.aload_n 0, 1) := by decide +kernel
theorem dX9_separate_1 : decode cX9_separate 1 = .ok (.iload_n 1, 1) := by decide +kernel
theorem dX9_separate_2 : decode cX9_separate 2 = .ok (.iload_n 2, 1) := by decide +kernel
theorem dX9_separate_3 : decode cX9_separate 3 = .ok (.invokevirtual 120, 3) := by decide +kernel
theorem dX9_separate_6 : decode cX9_separate 6 = .ok (.aload_n 0, 1) := by decide +kernel
theorem dX9_separate_7 : decode cX9_separate 7 = .ok (.getfield 12, 3) := by decide +kernel
theorem dX9_separate_10 : decode cX9_separate 10 = .ok (.invokevirtual 87, 3) := by decide +kernel
theorem dX9_separate_13 : decode cX9_separate 13 = .ok (.bipush 6, 2) := by decide +kernel
theorem dX9_separate_15 : decode cX9_separate 15 = .ok (.if_icmp .le 14, 3) := by decide +kernel
theorem dX9_separate_18 : decode cX9_separate 18 = .ok (.new 90, 3) := by decide +kernel
theorem dX9_separate_21 : decode cX9_separate 21 = .ok (.dup, 1) := by decide +kernel
theorem dX9_separate_22 : decode cX9_separate 22 = .ok (.ldc_w 321, 3) := by decide +kernel
theorem dX9_separate_25 : decode cX9_separate 25 = .ok (.invokespecial 94, 3) := by decide +kernel
theorem dX9_separate_28 : decode cX9_separate 28 = .ok (.athrow, 1) := by decide +kernel
theorem dX9_separate_29 : decode cX9_separate 29 = .ok (.aload_n 0, 1) := by decide +kernel
theorem dX9_separate_30 : decode cX9_separate 30 = .ok (.getfield 33, 3) := by decide +kernel
theorem dX9_separate_33 : decode cX9_separate 33 = .ok (.aload_n 0, 1) := by decide +kernel
theorem dX9_separate_34 : decode cX9_separate 34 = .ok (.getfield 26, 3) := by decide +kernel
theorem dX9_separate_37 : decode cX9_separate 37 = .ok (.aload_n 0, 1) := by decide +kernel
theorem dX9_separate_38 : decode cX9_separate 38 = .ok (.getfield 19, 3) := by decide +kernel
theorem dX9_separate_41 : decode cX9_separate 41 = .ok (.invokevirtual 210, 3) := by decide +kernel
theorem dX9_separate_44 : decode cX9_separate 44 = .ok (.aload_n 0, 1) := by decide +kernel
theorem dX9_separate_45 : decode cX9_separate 45 = .ok (.getfield 33, 3) := by decide +kernel
theorem dX9_separate_48 : decode cX9_separate 48 = .ok (.iload_n 1, 1) := by decide +kernel
theorem dX9_separate_49 : decode cX9_separate 49 = .ok (.invokevirtual 214, 3) := by decide +kernel
theorem dX9_separate_52 : decode cX9_separate 52 = .ok (.aload_n 0, 1) := by decide +kernel
theorem dX9_separate_53 : decode cX9_separate 53 = .ok (.getfield 33, 3) := by decide +kernel
theorem dX9_separate_56 : decode cX9_separate 56 = .ok (.iload_n 2, 1) := by decide +kernel
theorem dX9_separate_57 : decode cX9_separate 57 = .ok (.invokevirtual 214, 3) := by decide +kernel
theorem dX9_separate_60 : decode cX9_separate 60 = .ok (.if_icmp .ne 5, 3) := by decide +kernel
theorem dX9_separate_63 : decode cX9_separate 63 = .ok (.iconst (-1), 1) := by decide +kernel
theorem dX9_separate_64 : decode cX9_separate 64 = .ok (.ireturn, 1) := by decide +kernel
theorem dX9_separate_65 : decode cX9_separate 65 = .ok (.aload_n 0, 1) := by decide +kernel
theorem dX9_separate_66 : decode cX9_separate 66 = .ok (.getfield 44, 3) := by decide +kernel
theorem dX9_separate_69 : decode cX9_separate 69 = .ok (.invokevirtual 65, 3) := by decide +kernel
theorem dX9_separate_72 : decode cX9_separate 72 = .ok (.iconst 1, 1) := by decide +kernel
theorem dX9_separate_73 : decode cX9_separate 73 = .ok (.iconst 2, 1) := by decide +kernel
theorem dX9_separate_74 : decode cX9_separate 74 = .ok (.aload_n 0, 1) := by decide +kernel
theorem dX9_separate_75 : decode cX9_separate 75 = .ok (.getfield 12, 3) := by decide +kernel
theorem dX9_separate_78 : decode cX9_separate 78 = .ok (.invokevirtual 87, 3) := by decide +kernel
theorem dX9_separate_81 : decode cX9_separate 81 = .ok (.imul, 1) := by decide +kernel
theorem dX9_separate_82 : decode cX9_separate 82 = .ok (.ishl, 1) := by decide +kernel
theorem dX9_separate_83 : decode cX9_separate 83 = .ok (.istore_n 3, 1) := by decide +kernel
theorem dX9_separate_84 : decode cX9_separate 84 = .ok (.iconst 0, 1) := by decide +kernel
theorem dX9_separate_85 : decode cX9_separate 85 = .ok (.istore 4, 2) := by decide +kernel
theorem dX9_separate_87 : decode cX9_separate 87 = .ok (.iload 4, 2) := by decide +kernel
theorem dX9_separate_89 : decode cX9_separate 89 = .ok (.iload_n 3, 1) := by decide +kernel
theorem dX9_separate_90 : decode cX9_separate 90 = .ok (.if_icmp .ge 66, 3) := by decide +kernel
theorem dX9_separate_93 : decode cX9_separate 93 = .ok (.aload_n 0, 1) := by decide +kernel
theorem dX9_separate_94 : decode cX9_separate 94 = .ok (.getfield 44, 3) := by decide +kernel
theorem dX9_separate_97 : decode cX9_separate 97 = .ok (.iload 4, 2) := by decide +kernel
theorem dX9_separate_99 : decode cX9_separate 99 = .ok (.aload_n 0, 1) := by decide +kernel
theorem dX9_separate_100 : decode cX9_separate 100 = .ok (.getfield 12, 3) := by decide +kernel
theorem dX9_separate_103 : decode cX9_separate 103 = .ok (.invokevirtual 87, 3) := by decide +kernel
theorem dX9_separate_106 : decode cX9_separate 106 = .ok (.invokevirtual 323, 3) := by decide +kernel
theorem dX9_separate_109 : decode cX9_separate 109 = .ok (.aload_n 0, 1) := by decide +kernel
theorem dX9_separate_110 : decode cX9_separate 110 = .ok (.getfield 44, 3) := by decide +kernel
theorem dX9_separate_113 : decode cX9_separate 113 = .ok (.aload_n 0, 1) := by decide +kernel
theorem dX9_separate_114 : decode cX9_separate 114 = .ok (.getfield 26, 3) := by decide +kernel
theorem dX9_separate_117 : decode cX9_separate 117 = .ok (.iload_n 1, 1) := by decide +kernel
theorem dX9_separate_118 : decode cX9_separate 118 = .ok (.iload_n 2, 1) := by decide +kernel
theorem dX9_separate_119 : decode cX9_separate 119 = .ok (.invokevirtual 326, 3) := by decide +kernel
theorem dX9_separate_122 : decode cX9_separate 122 = .ok (.ifCond .ne 28, 3) := by decide +kernel
theorem dX9_separate_125 : decode cX9_separate 125 = .ok (.aload_n 0, 1) := by decide +kernel
theorem dX9_separate_126 : decode cX9_separate 126 = .ok (.aload_n 0, 1) := by decide +kernel
theorem dX9_separate_127 : decode cX9_separate 127 = .ok (.getfield 44, 3) := by decide +kernel
theorem dX9_separate_130 : decode cX9_separate 130 = .ok (.invokevirtual 330, 3) := by decide +kernel
theorem dX9_separate_133 : decode cX9_separate 133 = .ok (.ifCond .eq 17, 3) := by decide +kernel
theorem dX9_separate_136 : decode cX9_separate 136 = .ok (.aload_n 0, 1) := by decide +kernel
theorem dX9_separate_137 : decode cX9_separate 137 = .ok (.getfield 40, 3) := by decide +kernel
theorem dX9_separate_140 : decode cX9_separate 140 = .ok (.aload_n 0, 1) := by decide +kernel
theorem dX9_separate_141 : decode cX9_separate 141 = .ok (.getfield 44, 3) := by decide +kernel
theorem dX9_separate_144 : decode cX9_separate 144 = .ok (.invokevirtual 334, 3) := by decide +kernel
theorem dX9_separate_147 : decode cX9_separate 147 = .ok (.iload 4, 2) := by decide +kernel
theorem dX9_separate_149 : decode cX9_separate 149 = .ok (.ireturn, 1) := by decide +kernel
theorem dX9_separate_150 : decode cX9_separate 150 = .ok (.iinc 4 1, 3) := by decide +kernel
theorem dX9_separate_153 : decode cX9_separate 153 = .ok (.goto (-66), 3) := by decide +kernel
theorem dX9_separate_156 : decode cX9_separate 156 = .ok (.iconst (-1), 1) := by decide +kernel
theorem dX9_separate_157 : decode cX9_separate 157 = .ok (.ireturn, 1) := by decide +kernel
theorem dX9_isProduct_0 : decode cX9_isProduct 0 = .ok (.aload_n 0, 1) := by decide +kernel
theorem dX9_isProduct_1 : decode cX9_isProduct 1 = .ok (.iload_n 1, 1) := by decide +kernel
theorem dX9_isProduct_2 : decode cX9_isProduct 2 = .ok (.invokevirtual 299, 3) := by decide +kernel
theorem dX9_isProduct_5 : decode cX9_isProduct 5 = .ok (.aload_n 0, 1) := by decide +kernel
theorem dX9_isProduct_6 : decode cX9_isProduct 6 = .ok (.iload_n 2, 1) := by decide +kernel
theorem dX9_isProduct_7 : decode cX9_isProduct 7 = .ok (.invokevirtual 299, 3) := by decide +kernel
theorem dX9_isProduct_10 : decode cX9_isProduct 10 = .ok (.iload_n 1, 1) := by decide +kernel
theorem dX9_isProduct_11 : decode cX9_isProduct 11 = .ok (.iload_n 2, 1) := by decide +kernel
theorem dX9_isProduct_12 : decode cX9_isProduct 12 = .ok (.if_icmp .eq 22, 3) := by decide +kernel
theorem dX9_isProduct_15 : decode cX9_isProduct 15 = .ok (.aload_n 0, 1) := by decide +kernel
theorem dX9_isProduct_16 : decode cX9_isProduct 16 = .ok (.getfield 12, 3) := by decide +kernel
theorem dX9_isProduct_19 : decode cX9_isProduct 19 = .ok (.iload_n 1, 1) := by decide +kernel
theorem dX9_isProduct_20 : decode cX9_isProduct 20 = .ok (.invokevirtual 191, 3) := by decide +kernel
theorem dX9_isProduct_23 : decode cX9_isProduct 23 = .ok (.aload_n 0, 1) := by decide +kernel
theorem dX9_isProduct_24 : decode cX9_isProduct 24 = .ok (.getfield 12, 3) := by decide +kernel
theorem dX9_isProduct_27 : decode cX9_isProduct 27 = .ok (.iload_n 2, 1) := by decide +kernel
theorem dX9_isProduct_28 : decode cX9_isProduct 28 = .ok (.invokevirtual 191, 3) := by decide +kernel
theorem dX9_isProduct_31 : decode cX9_isProduct 31 = .ok (.if_icmp .eq 14, 3) := by decide +kernel
theorem dX9_isProduct_34 : decode cX9_isProduct 34 = .ok (.new 70, 3) := by decide +kernel
theorem dX9_isProduct_37 : decode cX9_isProduct 37 = .ok (.dup, 1) := by decide +kernel
theorem dX9_isProduct_38 : decode cX9_isProduct 38 = .ok (.ldc_w 337, 3) := by decide +kernel
theorem dX9_isProduct_41 : decode cX9_isProduct 41 = .ok (.invokespecial 74, 3) := by decide +kernel
theorem dX9_isProduct_44 : decode cX9_isProduct 44 = .ok (.athrow, 1) := by decide +kernel
theorem dX9_isProduct_45 : decode cX9_isProduct 45 = .ok (.iconst 0, 1) := by decide +kernel
theorem dX9_isProduct_46 : decode cX9_isProduct 46 = .ok (.istore_n 3, 1) := by decide +kernel
theorem dX9_isProduct_47 : decode cX9_isProduct 47 = .ok (.iload_n 3, 1) := by decide +kernel
theorem dX9_isProduct_48 : decode cX9_isProduct 48 = .ok (.aload_n 0, 1) := by decide +kernel
theorem dX9_isProduct_49 : decode cX9_isProduct 49 = .ok (.iload_n 1, 1) := by decide +kernel
theorem dX9_isProduct_50 : decode cX9_isProduct 50 = .ok (.invokevirtual 339, 3) := by decide +kernel
theorem dX9_isProduct_53 : decode cX9_isProduct 53 = .ok (.if_icmp .ge 43, 3) := by decide +kernel
theorem dX9_isProduct_56 : decode cX9_isProduct 56 = .ok (.iconst 0, 1) := by decide +kernel
theorem dX9_isProduct_57 : decode cX9_isProduct 57 = .ok (.istore 4, 2) := by decide +kernel
theorem dX9_isProduct_59 : decode cX9_isProduct 59 = .ok (.iload 4, 2) := by decide +kernel
theorem dX9_isProduct_61 : decode cX9_isProduct 61 = .ok (.aload_n 0, 1) := by decide +kernel
theorem dX9_isProduct_62 : decode cX9_isProduct 62 = .ok (.iload_n 2, 1) := by decide +kernel
theorem dX9_isProduct_63 : decode cX9_isProduct 63 = .ok (.invokevirtual 339, 3) := by decide +kernel
theorem dX9_isProduct_66 : decode cX9_isProduct 66 = .ok (.if_icmp .ge 24, 3) := by decide +kernel
theorem dX9_isProduct_69 : decode cX9_isProduct 69 = .ok (.aload_n 0, 1) := by decide +kernel
theorem dX9_isProduct_70 : decode cX9_isProduct 70 = .ok (.iload_n 1, 1) := by decide +kernel
theorem dX9_isProduct_71 : decode cX9_isProduct 71 = .ok (.iload_n 3, 1) := by decide +kernel
theorem dX9_isProduct_72 : decode cX9_isProduct 72 = .ok (.iload_n 2, 1) := by decide +kernel
theorem dX9_isProduct_73 : decode cX9_isProduct 73 = .ok (.iload 4, 2) := by decide +kernel
theorem dX9_isProduct_75 : decode cX9_isProduct 75 = .ok (.invokevirtual 342, 3) := by decide +kernel
theorem dX9_isProduct_78 : decode cX9_isProduct 78 = .ok (.iconst 1, 1) := by decide +kernel
theorem dX9_isProduct_79 : decode cX9_isProduct 79 = .ok (.if_icmp .eq 5, 3) := by decide +kernel
theorem dX9_isProduct_82 : decode cX9_isProduct 82 = .ok (.iconst 0, 1) := by decide +kernel
theorem dX9_isProduct_83 : decode cX9_isProduct 83 = .ok (.ireturn, 1) := by decide +kernel
theorem dX9_isProduct_84 : decode cX9_isProduct 84 = .ok (.iinc 4 1, 3) := by decide +kernel
theorem dX9_isProduct_87 : decode cX9_isProduct 87 = .ok (.goto (-28), 3) := by decide +kernel
theorem dX9_isProduct_90 : decode cX9_isProduct 90 = .ok (.iinc 3 1, 3) := by decide +kernel
theorem dX9_isProduct_93 : decode cX9_isProduct 93 = .ok (.goto (-46), 3) := by decide +kernel
theorem dX9_isProduct_96 : decode cX9_isProduct 96 = .ok (.iconst 1, 1) := by decide +kernel
theorem dX9_isProduct_97 : decode cX9_isProduct 97 = .ok (.ireturn, 1) := by decide +kernel
theorem dX9_isPullback_0 : decode cX9_isPullback 0 = .ok (.aload_n 0, 1) := by decide +kernel
theorem dX9_isPullback_1 : decode cX9_isPullback 1 = .ok (.iload_n 1, 1) := by decide +kernel
theorem dX9_isPullback_2 : decode cX9_isPullback 2 = .ok (.invokevirtual 299, 3) := by decide +kernel
theorem dX9_isPullback_5 : decode cX9_isPullback 5 = .ok (.aload_n 0, 1) := by decide +kernel
theorem dX9_isPullback_6 : decode cX9_isPullback 6 = .ok (.iload_n 2, 1) := by decide +kernel
theorem dX9_isPullback_7 : decode cX9_isPullback 7 = .ok (.invokevirtual 299, 3) := by decide +kernel
theorem dX9_isPullback_10 : decode cX9_isPullback 10 = .ok (.aload_n 0, 1) := by decide +kernel
theorem dX9_isPullback_11 : decode cX9_isPullback 11 = .ok (.iload_n 3, 1) := by decide +kernel
theorem dX9_isPullback_12 : decode cX9_isPullback 12 = .ok (.invokevirtual 299, 3) := by decide +kernel
theorem dX9_isPullback_15 : decode cX9_isPullback 15 = .ok (.aload_n 0, 1) := by decide +kernel
theorem dX9_isPullback_16 : decode cX9_isPullback 16 = .ok (.iload 4, 2) := by decide +kernel
theorem dX9_isPullback_18 : decode cX9_isPullback 18 = .ok (.invokevirtual 299, 3) := by decide +kernel
theorem dX9_isPullback_21 : decode cX9_isPullback 21 = .ok (.aload_n 0, 1) := by decide +kernel
theorem dX9_isPullback_22 : decode cX9_isPullback 22 = .ok (.iload_n 1, 1) := by decide +kernel
theorem dX9_isPullback_23 : decode cX9_isPullback 23 = .ok (.iload_n 2, 1) := by decide +kernel
theorem dX9_isPullback_24 : decode cX9_isPullback 24 = .ok (.iload_n 3, 1) := by decide +kernel
theorem dX9_isPullback_25 : decode cX9_isPullback 25 = .ok (.iload 4, 2) := by decide +kernel
theorem dX9_isPullback_27 : decode cX9_isPullback 27 = .ok (.invokevirtual 346, 3) := by decide +kernel
theorem dX9_isPullback_30 : decode cX9_isPullback 30 = .ok (.ifCond .ne 14, 3) := by decide +kernel
theorem dX9_isPullback_33 : decode cX9_isPullback 33 = .ok (.new 70, 3) := by decide +kernel
theorem dX9_isPullback_36 : decode cX9_isPullback 36 = .ok (.dup, 1) := by decide +kernel
theorem dX9_isPullback_37 : decode cX9_isPullback 37 = .ok (.ldc_w 350, 3) := by decide +kernel
theorem dX9_isPullback_40 : decode cX9_isPullback 40 = .ok (.invokespecial 74, 3) := by decide +kernel
theorem dX9_isPullback_43 : decode cX9_isPullback 43 = .ok (.athrow, 1) := by decide +kernel
theorem dX9_isPullback_44 : decode cX9_isPullback 44 = .ok (.aload_n 0, 1) := by decide +kernel
theorem dX9_isPullback_45 : decode cX9_isPullback 45 = .ok (.iload_n 1, 1) := by decide +kernel
theorem dX9_isPullback_46 : decode cX9_isPullback 46 = .ok (.iload_n 2, 1) := by decide +kernel
theorem dX9_isPullback_47 : decode cX9_isPullback 47 = .ok (.iload_n 3, 1) := by decide +kernel
theorem dX9_isPullback_48 : decode cX9_isPullback 48 = .ok (.iload 4, 2) := by decide +kernel
theorem dX9_isPullback_50 : decode cX9_isPullback 50 = .ok (.invokevirtual 352, 3) := by decide +kernel
theorem dX9_isPullback_53 : decode cX9_isPullback 53 = .ok (.ifCond .ne 5, 3) := by decide +kernel
theorem dX9_isPullback_56 : decode cX9_isPullback 56 = .ok (.iconst 0, 1) := by decide +kernel
theorem dX9_isPullback_57 : decode cX9_isPullback 57 = .ok (.ireturn, 1) := by decide +kernel
theorem dX9_isPullback_58 : decode cX9_isPullback 58 = .ok (.iconst 0, 1) := by decide +kernel
theorem dX9_isPullback_59 : decode cX9_isPullback 59 = .ok (.istore 5, 2) := by decide +kernel
theorem dX9_isPullback_61 : decode cX9_isPullback 61 = .ok (.iload 5, 2) := by decide +kernel
theorem dX9_isPullback_63 : decode cX9_isPullback 63 = .ok (.aload_n 0, 1) := by decide +kernel
theorem dX9_isPullback_64 : decode cX9_isPullback 64 = .ok (.iload_n 1, 1) := by decide +kernel
theorem dX9_isPullback_65 : decode cX9_isPullback 65 = .ok (.invokevirtual 339, 3) := by decide +kernel
theorem dX9_isPullback_68 : decode cX9_isPullback 68 = .ok (.if_icmp .ge 68, 3) := by decide +kernel
theorem dX9_isPullback_71 : decode cX9_isPullback 71 = .ok (.iconst 0, 1) := by decide +kernel
theorem dX9_isPullback_72 : decode cX9_isPullback 72 = .ok (.istore 6, 2) := by decide +kernel
theorem dX9_isPullback_74 : decode cX9_isPullback 74 = .ok (.iload 6, 2) := by decide +kernel
theorem dX9_isPullback_76 : decode cX9_isPullback 76 = .ok (.aload_n 0, 1) := by decide +kernel
theorem dX9_isPullback_77 : decode cX9_isPullback 77 = .ok (.iload_n 3, 1) := by decide +kernel
theorem dX9_isPullback_78 : decode cX9_isPullback 78 = .ok (.invokevirtual 339, 3) := by decide +kernel
theorem dX9_isPullback_81 : decode cX9_isPullback 81 = .ok (.if_icmp .ge 49, 3) := by decide +kernel
theorem dX9_isPullback_84 : decode cX9_isPullback 84 = .ok (.aload_n 0, 1) := by decide +kernel
theorem dX9_isPullback_85 : decode cX9_isPullback 85 = .ok (.getfield 40, 3) := by decide +kernel
theorem dX9_isPullback_88 : decode cX9_isPullback 88 = .ok (.iload_n 2, 1) := by decide +kernel
theorem dX9_isPullback_89 : decode cX9_isPullback 89 = .ok (.iload 5, 2) := by decide +kernel
theorem dX9_isPullback_91 : decode cX9_isPullback 91 = .ok (.invokevirtual 355, 3) := by decide +kernel
theorem dX9_isPullback_94 : decode cX9_isPullback 94 = .ok (.aload_n 0, 1) := by decide +kernel
theorem dX9_isPullback_95 : decode cX9_isPullback 95 = .ok (.getfield 40, 3) := by decide +kernel
theorem dX9_isPullback_98 : decode cX9_isPullback 98 = .ok (.iload 4, 2) := by decide +kernel
theorem dX9_isPullback_100 : decode cX9_isPullback 100 = .ok (.iload 6, 2) := by decide +kernel
theorem dX9_isPullback_102 : decode cX9_isPullback 102 = .ok (.invokevirtual 355, 3) := by decide +kernel
theorem dX9_isPullback_105 : decode cX9_isPullback 105 = .ok (.if_icmp .ne 19, 3) := by decide +kernel
theorem dX9_isPullback_108 : decode cX9_isPullback 108 = .ok (.aload_n 0, 1) := by decide +kernel
theorem dX9_isPullback_109 : decode cX9_isPullback 109 = .ok (.iload_n 1, 1) := by decide +kernel
theorem dX9_isPullback_110 : decode cX9_isPullback 110 = .ok (.iload 5, 2) := by decide +kernel
theorem dX9_isPullback_112 : decode cX9_isPullback 112 = .ok (.iload_n 3, 1) := by decide +kernel
theorem dX9_isPullback_113 : decode cX9_isPullback 113 = .ok (.iload 6, 2) := by decide +kernel
theorem dX9_isPullback_115 : decode cX9_isPullback 115 = .ok (.invokevirtual 342, 3) := by decide +kernel
theorem dX9_isPullback_118 : decode cX9_isPullback 118 = .ok (.iconst 1, 1) := by decide +kernel
theorem dX9_isPullback_119 : decode cX9_isPullback 119 = .ok (.if_icmp .eq 5, 3) := by decide +kernel
theorem dX9_isPullback_122 : decode cX9_isPullback 122 = .ok (.iconst 0, 1) := by decide +kernel
theorem dX9_isPullback_123 : decode cX9_isPullback 123 = .ok (.ireturn, 1) := by decide +kernel
theorem dX9_isPullback_124 : decode cX9_isPullback 124 = .ok (.iinc 6 1, 3) := by decide +kernel
theorem dX9_isPullback_127 : decode cX9_isPullback 127 = .ok (.goto (-53), 3) := by decide +kernel
theorem dX9_isPullback_130 : decode cX9_isPullback 130 = .ok (.iinc 5 1, 3) := by decide +kernel
theorem dX9_isPullback_133 : decode cX9_isPullback 133 = .ok (.goto (-72), 3) := by decide +kernel
theorem dX9_isPullback_136 : decode cX9_isPullback 136 = .ok (.iconst 1, 1) := by decide +kernel
theorem dX9_isPullback_137 : decode cX9_isPullback 137 = .ok (.ireturn, 1) := by decide +kernel
theorem dX9_isEqualizer_0 : decode cX9_isEqualizer 0 = .ok (.aload_n 0, 1) := by decide +kernel
theorem dX9_isEqualizer_1 : decode cX9_isEqualizer 1 = .ok (.iload_n 1, 1) := by decide +kernel
theorem dX9_isEqualizer_2 : decode cX9_isEqualizer 2 = .ok (.invokevirtual 299, 3) := by decide +kernel
theorem dX9_isEqualizer_5 : decode cX9_isEqualizer 5 = .ok (.aload_n 0, 1) := by decide +kernel
theorem dX9_isEqualizer_6 : decode cX9_isEqualizer 6 = .ok (.iload_n 2, 1) := by decide +kernel
theorem dX9_isEqualizer_7 : decode cX9_isEqualizer 7 = .ok (.invokevirtual 299, 3) := by decide +kernel
theorem dX9_isEqualizer_10 : decode cX9_isEqualizer 10 = .ok (.aload_n 0, 1) := by decide +kernel
theorem dX9_isEqualizer_11 : decode cX9_isEqualizer 11 = .ok (.iload_n 3, 1) := by decide +kernel
theorem dX9_isEqualizer_12 : decode cX9_isEqualizer 12 = .ok (.invokevirtual 299, 3) := by decide +kernel
theorem dX9_isEqualizer_15 : decode cX9_isEqualizer 15 = .ok (.aload_n 0, 1) := by decide +kernel
theorem dX9_isEqualizer_16 : decode cX9_isEqualizer 16 = .ok (.iload_n 1, 1) := by decide +kernel
theorem dX9_isEqualizer_17 : decode cX9_isEqualizer 17 = .ok (.iload_n 2, 1) := by decide +kernel
theorem dX9_isEqualizer_18 : decode cX9_isEqualizer 18 = .ok (.iload_n 1, 1) := by decide +kernel
theorem dX9_isEqualizer_19 : decode cX9_isEqualizer 19 = .ok (.iload_n 3, 1) := by decide +kernel
theorem dX9_isEqualizer_20 : decode cX9_isEqualizer 20 = .ok (.invokevirtual 346, 3) := by decide +kernel
theorem dX9_isEqualizer_23 : decode cX9_isEqualizer 23 = .ok (.ifCond .ne 14, 3) := by decide +kernel
theorem dX9_isEqualizer_26 : decode cX9_isEqualizer 26 = .ok (.new 70, 3) := by decide +kernel
theorem dX9_isEqualizer_29 : decode cX9_isEqualizer 29 = .ok (.dup, 1) := by decide +kernel
theorem dX9_isEqualizer_30 : decode cX9_isEqualizer 30 = .ok (.ldc_w 358, 3) := by decide +kernel
theorem dX9_isEqualizer_33 : decode cX9_isEqualizer 33 = .ok (.invokespecial 74, 3) := by decide +kernel
theorem dX9_isEqualizer_36 : decode cX9_isEqualizer 36 = .ok (.athrow, 1) := by decide +kernel
theorem dX9_isEqualizer_37 : decode cX9_isEqualizer 37 = .ok (.aload_n 0, 1) := by decide +kernel
theorem dX9_isEqualizer_38 : decode cX9_isEqualizer 38 = .ok (.iload_n 1, 1) := by decide +kernel
theorem dX9_isEqualizer_39 : decode cX9_isEqualizer 39 = .ok (.iload_n 2, 1) := by decide +kernel
theorem dX9_isEqualizer_40 : decode cX9_isEqualizer 40 = .ok (.iload_n 1, 1) := by decide +kernel
theorem dX9_isEqualizer_41 : decode cX9_isEqualizer 41 = .ok (.iload_n 3, 1) := by decide +kernel
theorem dX9_isEqualizer_42 : decode cX9_isEqualizer 42 = .ok (.invokevirtual 352, 3) := by decide +kernel
theorem dX9_isEqualizer_45 : decode cX9_isEqualizer 45 = .ok (.ifCond .ne 5, 3) := by decide +kernel
theorem dX9_isEqualizer_48 : decode cX9_isEqualizer 48 = .ok (.iconst 0, 1) := by decide +kernel
theorem dX9_isEqualizer_49 : decode cX9_isEqualizer 49 = .ok (.ireturn, 1) := by decide +kernel
theorem dX9_isEqualizer_50 : decode cX9_isEqualizer 50 = .ok (.iconst 0, 1) := by decide +kernel
theorem dX9_isEqualizer_51 : decode cX9_isEqualizer 51 = .ok (.istore 4, 2) := by decide +kernel
theorem dX9_isEqualizer_53 : decode cX9_isEqualizer 53 = .ok (.iload 4, 2) := by decide +kernel
theorem dX9_isEqualizer_55 : decode cX9_isEqualizer 55 = .ok (.aload_n 0, 1) := by decide +kernel
theorem dX9_isEqualizer_56 : decode cX9_isEqualizer 56 = .ok (.iload_n 1, 1) := by decide +kernel
theorem dX9_isEqualizer_57 : decode cX9_isEqualizer 57 = .ok (.invokevirtual 339, 3) := by decide +kernel
theorem dX9_isEqualizer_60 : decode cX9_isEqualizer 60 = .ok (.if_icmp .ge 48, 3) := by decide +kernel
theorem dX9_isEqualizer_63 : decode cX9_isEqualizer 63 = .ok (.aload_n 0, 1) := by decide +kernel
theorem dX9_isEqualizer_64 : decode cX9_isEqualizer 64 = .ok (.getfield 40, 3) := by decide +kernel
theorem dX9_isEqualizer_67 : decode cX9_isEqualizer 67 = .ok (.iload_n 2, 1) := by decide +kernel
theorem dX9_isEqualizer_68 : decode cX9_isEqualizer 68 = .ok (.iload 4, 2) := by decide +kernel
theorem dX9_isEqualizer_70 : decode cX9_isEqualizer 70 = .ok (.invokevirtual 355, 3) := by decide +kernel
theorem dX9_isEqualizer_73 : decode cX9_isEqualizer 73 = .ok (.aload_n 0, 1) := by decide +kernel
theorem dX9_isEqualizer_74 : decode cX9_isEqualizer 74 = .ok (.getfield 40, 3) := by decide +kernel
theorem dX9_isEqualizer_77 : decode cX9_isEqualizer 77 = .ok (.iload_n 3, 1) := by decide +kernel
theorem dX9_isEqualizer_78 : decode cX9_isEqualizer 78 = .ok (.iload 4, 2) := by decide +kernel
theorem dX9_isEqualizer_80 : decode cX9_isEqualizer 80 = .ok (.invokevirtual 355, 3) := by decide +kernel
theorem dX9_isEqualizer_83 : decode cX9_isEqualizer 83 = .ok (.if_icmp .ne 19, 3) := by decide +kernel
theorem dX9_isEqualizer_86 : decode cX9_isEqualizer 86 = .ok (.aload_n 0, 1) := by decide +kernel
theorem dX9_isEqualizer_87 : decode cX9_isEqualizer 87 = .ok (.iload_n 1, 1) := by decide +kernel
theorem dX9_isEqualizer_88 : decode cX9_isEqualizer 88 = .ok (.iload 4, 2) := by decide +kernel
theorem dX9_isEqualizer_90 : decode cX9_isEqualizer 90 = .ok (.iload_n 1, 1) := by decide +kernel
theorem dX9_isEqualizer_91 : decode cX9_isEqualizer 91 = .ok (.iload 4, 2) := by decide +kernel
theorem dX9_isEqualizer_93 : decode cX9_isEqualizer 93 = .ok (.invokevirtual 342, 3) := by decide +kernel
theorem dX9_isEqualizer_96 : decode cX9_isEqualizer 96 = .ok (.iconst 1, 1) := by decide +kernel
theorem dX9_isEqualizer_97 : decode cX9_isEqualizer 97 = .ok (.if_icmp .eq 5, 3) := by decide +kernel
theorem dX9_isEqualizer_100 : decode cX9_isEqualizer 100 = .ok (.iconst 0, 1) := by decide +kernel
theorem dX9_isEqualizer_101 : decode cX9_isEqualizer 101 = .ok (.ireturn, 1) := by decide +kernel
theorem dX9_isEqualizer_102 : decode cX9_isEqualizer 102 = .ok (.iinc 4 1, 3) := by decide +kernel
theorem dX9_isEqualizer_105 : decode cX9_isEqualizer 105 = .ok (.goto (-52), 3) := by decide +kernel
theorem dX9_isEqualizer_108 : decode cX9_isEqualizer 108 = .ok (.iconst 1, 1) := by decide +kernel
theorem dX9_isEqualizer_109 : decode cX9_isEqualizer 109 = .ok (.ireturn, 1) := by decide +kernel
theorem dX9_digest_0 : decode cX9_digest 0 = .ok (.ldc2_w 360, 3) := by decide +kernel
theorem dX9_digest_3 : decode cX9_digest 3 = .ok (.lstore_n 1, 1) := by decide +kernel
theorem dX9_digest_4 : decode cX9_digest 4 = .ok (.iconst 0, 1) := by decide +kernel
theorem dX9_digest_5 : decode cX9_digest 5 = .ok (.istore_n 3, 1) := by decide +kernel
theorem dX9_digest_6 : decode cX9_digest 6 = .ok (.iload_n 3, 1) := by decide +kernel
theorem dX9_digest_7 : decode cX9_digest 7 = .ok (.bipush 7, 2) := by decide +kernel
theorem dX9_digest_9 : decode cX9_digest 9 = .ok (.if_icmp .gt 22, 3) := by decide +kernel
theorem dX9_digest_12 : decode cX9_digest 12 = .ok (.ldc2_w 362, 3) := by decide +kernel
theorem dX9_digest_15 : decode cX9_digest 15 = .ok (.lload_n 1, 1) := by decide +kernel
theorem dX9_digest_16 : decode cX9_digest 16 = .ok (.lmul, 1) := by decide +kernel
theorem dX9_digest_17 : decode cX9_digest 17 = .ok (.aload_n 0, 1) := by decide +kernel
theorem dX9_digest_18 : decode cX9_digest 18 = .ok (.iload_n 3, 1) := by decide +kernel
theorem dX9_digest_19 : decode cX9_digest 19 = .ok (.invokevirtual 364, 3) := by decide +kernel
theorem dX9_digest_22 : decode cX9_digest 22 = .ok (.i2l, 1) := by decide +kernel
theorem dX9_digest_23 : decode cX9_digest 23 = .ok (.ladd, 1) := by decide +kernel
theorem dX9_digest_24 : decode cX9_digest 24 = .ok (.lstore_n 1, 1) := by decide +kernel
theorem dX9_digest_25 : decode cX9_digest 25 = .ok (.iinc 3 1, 3) := by decide +kernel
theorem dX9_digest_28 : decode cX9_digest 28 = .ok (.goto (-22), 3) := by decide +kernel
theorem dX9_digest_31 : decode cX9_digest 31 = .ok (.iconst 0, 1) := by decide +kernel
theorem dX9_digest_32 : decode cX9_digest 32 = .ok (.istore_n 3, 1) := by decide +kernel
theorem dX9_digest_33 : decode cX9_digest 33 = .ok (.iload_n 3, 1) := by decide +kernel
theorem dX9_digest_34 : decode cX9_digest 34 = .ok (.aload_n 0, 1) := by decide +kernel
theorem dX9_digest_35 : decode cX9_digest 35 = .ok (.getfield 12, 3) := by decide +kernel
theorem dX9_digest_38 : decode cX9_digest 38 = .ok (.invokevirtual 77, 3) := by decide +kernel
theorem dX9_digest_41 : decode cX9_digest 41 = .ok (.if_icmp .ge 25, 3) := by decide +kernel
theorem dX9_digest_44 : decode cX9_digest 44 = .ok (.ldc2_w 362, 3) := by decide +kernel
theorem dX9_digest_47 : decode cX9_digest 47 = .ok (.lload_n 1, 1) := by decide +kernel
theorem dX9_digest_48 : decode cX9_digest 48 = .ok (.lmul, 1) := by decide +kernel
theorem dX9_digest_49 : decode cX9_digest 49 = .ok (.aload_n 0, 1) := by decide +kernel
theorem dX9_digest_50 : decode cX9_digest 50 = .ok (.getfield 40, 3) := by decide +kernel
theorem dX9_digest_53 : decode cX9_digest 53 = .ok (.iload_n 3, 1) := by decide +kernel
theorem dX9_digest_54 : decode cX9_digest 54 = .ok (.invokevirtual 224, 3) := by decide +kernel
theorem dX9_digest_57 : decode cX9_digest 57 = .ok (.i2l, 1) := by decide +kernel
theorem dX9_digest_58 : decode cX9_digest 58 = .ok (.ladd, 1) := by decide +kernel
theorem dX9_digest_59 : decode cX9_digest 59 = .ok (.lstore_n 1, 1) := by decide +kernel
theorem dX9_digest_60 : decode cX9_digest 60 = .ok (.iinc 3 1, 3) := by decide +kernel
theorem dX9_digest_63 : decode cX9_digest 63 = .ok (.goto (-30), 3) := by decide +kernel
theorem dX9_digest_66 : decode cX9_digest 66 = .ok (.iconst 0, 1) := by decide +kernel
theorem dX9_digest_67 : decode cX9_digest 67 = .ok (.istore_n 3, 1) := by decide +kernel
theorem dX9_digest_68 : decode cX9_digest 68 = .ok (.iload_n 3, 1) := by decide +kernel
theorem dX9_digest_69 : decode cX9_digest 69 = .ok (.aload_n 0, 1) := by decide +kernel
theorem dX9_digest_70 : decode cX9_digest 70 = .ok (.getfield 12, 3) := by decide +kernel
theorem dX9_digest_73 : decode cX9_digest 73 = .ok (.invokevirtual 87, 3) := by decide +kernel
theorem dX9_digest_76 : decode cX9_digest 76 = .ok (.if_icmp .ge 57, 3) := by decide +kernel
theorem dX9_digest_79 : decode cX9_digest 79 = .ok (.ldc2_w 362, 3) := by decide +kernel
theorem dX9_digest_82 : decode cX9_digest 82 = .ok (.lload_n 1, 1) := by decide +kernel
theorem dX9_digest_83 : decode cX9_digest 83 = .ok (.lmul, 1) := by decide +kernel
theorem dX9_digest_84 : decode cX9_digest 84 = .ok (.aload_n 0, 1) := by decide +kernel
theorem dX9_digest_85 : decode cX9_digest 85 = .ok (.getfield 12, 3) := by decide +kernel
theorem dX9_digest_88 : decode cX9_digest 88 = .ok (.iload_n 3, 1) := by decide +kernel
theorem dX9_digest_89 : decode cX9_digest 89 = .ok (.invokevirtual 191, 3) := by decide +kernel
theorem dX9_digest_92 : decode cX9_digest 92 = .ok (.i2l, 1) := by decide +kernel
theorem dX9_digest_93 : decode cX9_digest 93 = .ok (.ladd, 1) := by decide +kernel
theorem dX9_digest_94 : decode cX9_digest 94 = .ok (.lstore_n 1, 1) := by decide +kernel
theorem dX9_digest_95 : decode cX9_digest 95 = .ok (.ldc2_w 362, 3) := by decide +kernel
theorem dX9_digest_98 : decode cX9_digest 98 = .ok (.lload_n 1, 1) := by decide +kernel
theorem dX9_digest_99 : decode cX9_digest 99 = .ok (.lmul, 1) := by decide +kernel
theorem dX9_digest_100 : decode cX9_digest 100 = .ok (.aload_n 0, 1) := by decide +kernel
theorem dX9_digest_101 : decode cX9_digest 101 = .ok (.getfield 12, 3) := by decide +kernel
theorem dX9_digest_104 : decode cX9_digest 104 = .ok (.iload_n 3, 1) := by decide +kernel
theorem dX9_digest_105 : decode cX9_digest 105 = .ok (.invokevirtual 296, 3) := by decide +kernel
theorem dX9_digest_108 : decode cX9_digest 108 = .ok (.i2l, 1) := by decide +kernel
theorem dX9_digest_109 : decode cX9_digest 109 = .ok (.ladd, 1) := by decide +kernel
theorem dX9_digest_110 : decode cX9_digest 110 = .ok (.lstore_n 1, 1) := by decide +kernel
theorem dX9_digest_111 : decode cX9_digest 111 = .ok (.ldc2_w 362, 3) := by decide +kernel
theorem dX9_digest_114 : decode cX9_digest 114 = .ok (.lload_n 1, 1) := by decide +kernel
theorem dX9_digest_115 : decode cX9_digest 115 = .ok (.lmul, 1) := by decide +kernel
theorem dX9_digest_116 : decode cX9_digest 116 = .ok (.aload_n 0, 1) := by decide +kernel
theorem dX9_digest_117 : decode cX9_digest 117 = .ok (.getfield 40, 3) := by decide +kernel
theorem dX9_digest_120 : decode cX9_digest 120 = .ok (.iload_n 3, 1) := by decide +kernel
theorem dX9_digest_121 : decode cX9_digest 121 = .ok (.invokevirtual 308, 3) := by decide +kernel
theorem dX9_digest_124 : decode cX9_digest 124 = .ok (.i2l, 1) := by decide +kernel
theorem dX9_digest_125 : decode cX9_digest 125 = .ok (.ladd, 1) := by decide +kernel
theorem dX9_digest_126 : decode cX9_digest 126 = .ok (.lstore_n 1, 1) := by decide +kernel
theorem dX9_digest_127 : decode cX9_digest 127 = .ok (.iinc 3 1, 3) := by decide +kernel
theorem dX9_digest_130 : decode cX9_digest 130 = .ok (.goto (-62), 3) := by decide +kernel
theorem dX9_digest_133 : decode cX9_digest 133 = .ok (.iconst 0, 1) := by decide +kernel
theorem dX9_digest_134 : decode cX9_digest 134 = .ok (.istore_n 3, 1) := by decide +kernel
theorem dX9_digest_135 : decode cX9_digest 135 = .ok (.iload_n 3, 1) := by decide +kernel
theorem dX9_digest_136 : decode cX9_digest 136 = .ok (.aload_n 0, 1) := by decide +kernel
theorem dX9_digest_137 : decode cX9_digest 137 = .ok (.getfield 19, 3) := by decide +kernel
theorem dX9_digest_140 : decode cX9_digest 140 = .ok (.invokevirtual 123, 3) := by decide +kernel
theorem dX9_digest_143 : decode cX9_digest 143 = .ok (.if_icmp .ge 39, 3) := by decide +kernel
theorem dX9_digest_146 : decode cX9_digest 146 = .ok (.iconst 0, 1) := by decide +kernel
theorem dX9_digest_147 : decode cX9_digest 147 = .ok (.istore 4, 2) := by decide +kernel
theorem dX9_digest_149 : decode cX9_digest 149 = .ok (.iload 4, 2) := by decide +kernel
theorem dX9_digest_151 : decode cX9_digest 151 = .ok (.iconst 4, 1) := by decide +kernel
theorem dX9_digest_152 : decode cX9_digest 152 = .ok (.if_icmp .gt 24, 3) := by decide +kernel
theorem dX9_digest_155 : decode cX9_digest 155 = .ok (.ldc2_w 362, 3) := by decide +kernel
theorem dX9_digest_158 : decode cX9_digest 158 = .ok (.lload_n 1, 1) := by decide +kernel
theorem dX9_digest_159 : decode cX9_digest 159 = .ok (.lmul, 1) := by decide +kernel
theorem dX9_digest_160 : decode cX9_digest 160 = .ok (.aload_n 0, 1) := by decide +kernel
theorem dX9_digest_161 : decode cX9_digest 161 = .ok (.iload_n 3, 1) := by decide +kernel
theorem dX9_digest_162 : decode cX9_digest 162 = .ok (.iload 4, 2) := by decide +kernel
theorem dX9_digest_164 : decode cX9_digest 164 = .ok (.invokevirtual 367, 3) := by decide +kernel
theorem dX9_digest_167 : decode cX9_digest 167 = .ok (.i2l, 1) := by decide +kernel
theorem dX9_digest_168 : decode cX9_digest 168 = .ok (.ladd, 1) := by decide +kernel
theorem dX9_digest_169 : decode cX9_digest 169 = .ok (.lstore_n 1, 1) := by decide +kernel
theorem dX9_digest_170 : decode cX9_digest 170 = .ok (.iinc 4 1, 3) := by decide +kernel
theorem dX9_digest_173 : decode cX9_digest 173 = .ok (.goto (-24), 3) := by decide +kernel
theorem dX9_digest_176 : decode cX9_digest 176 = .ok (.iinc 3 1, 3) := by decide +kernel
theorem dX9_digest_179 : decode cX9_digest 179 = .ok (.goto (-44), 3) := by decide +kernel
theorem dX9_digest_182 : decode cX9_digest 182 = .ok (.iconst 0, 1) := by decide +kernel
theorem dX9_digest_183 : decode cX9_digest 183 = .ok (.istore_n 3, 1) := by decide +kernel
theorem dX9_digest_184 : decode cX9_digest 184 = .ok (.iload_n 3, 1) := by decide +kernel
theorem dX9_digest_185 : decode cX9_digest 185 = .ok (.aload_n 0, 1) := by decide +kernel
theorem dX9_digest_186 : decode cX9_digest 186 = .ok (.getfield 26, 3) := by decide +kernel
theorem dX9_digest_189 : decode cX9_digest 189 = .ok (.invokevirtual 276, 3) := by decide +kernel
theorem dX9_digest_192 : decode cX9_digest 192 = .ok (.if_icmp .ge 65, 3) := by decide +kernel
theorem dX9_digest_195 : decode cX9_digest 195 = .ok (.ldc2_w 362, 3) := by decide +kernel
theorem dX9_digest_198 : decode cX9_digest 198 = .ok (.lload_n 1, 1) := by decide +kernel
theorem dX9_digest_199 : decode cX9_digest 199 = .ok (.lmul, 1) := by decide +kernel
theorem dX9_digest_200 : decode cX9_digest 200 = .ok (.aload_n 0, 1) := by decide +kernel
theorem dX9_digest_201 : decode cX9_digest 201 = .ok (.iload_n 3, 1) := by decide +kernel
theorem dX9_digest_202 : decode cX9_digest 202 = .ok (.iconst 0, 1) := by decide +kernel
theorem dX9_digest_203 : decode cX9_digest 203 = .ok (.invokevirtual 370, 3) := by decide +kernel
theorem dX9_digest_206 : decode cX9_digest 206 = .ok (.i2l, 1) := by decide +kernel
theorem dX9_digest_207 : decode cX9_digest 207 = .ok (.ladd, 1) := by decide +kernel
theorem dX9_digest_208 : decode cX9_digest 208 = .ok (.lstore_n 1, 1) := by decide +kernel
theorem dX9_digest_209 : decode cX9_digest 209 = .ok (.ldc2_w 362, 3) := by decide +kernel
theorem dX9_digest_212 : decode cX9_digest 212 = .ok (.lload_n 1, 1) := by decide +kernel
theorem dX9_digest_213 : decode cX9_digest 213 = .ok (.lmul, 1) := by decide +kernel
theorem dX9_digest_214 : decode cX9_digest 214 = .ok (.aload_n 0, 1) := by decide +kernel
theorem dX9_digest_215 : decode cX9_digest 215 = .ok (.iload_n 3, 1) := by decide +kernel
theorem dX9_digest_216 : decode cX9_digest 216 = .ok (.iconst 1, 1) := by decide +kernel
theorem dX9_digest_217 : decode cX9_digest 217 = .ok (.invokevirtual 370, 3) := by decide +kernel
theorem dX9_digest_220 : decode cX9_digest 220 = .ok (.i2l, 1) := by decide +kernel
theorem dX9_digest_221 : decode cX9_digest 221 = .ok (.ladd, 1) := by decide +kernel
theorem dX9_digest_222 : decode cX9_digest 222 = .ok (.lstore_n 1, 1) := by decide +kernel
theorem dX9_digest_223 : decode cX9_digest 223 = .ok (.ldc2_w 362, 3) := by decide +kernel
theorem dX9_digest_226 : decode cX9_digest 226 = .ok (.lload_n 1, 1) := by decide +kernel
theorem dX9_digest_227 : decode cX9_digest 227 = .ok (.lmul, 1) := by decide +kernel
theorem dX9_digest_228 : decode cX9_digest 228 = .ok (.aload_n 0, 1) := by decide +kernel
theorem dX9_digest_229 : decode cX9_digest 229 = .ok (.iload_n 3, 1) := by decide +kernel
theorem dX9_digest_230 : decode cX9_digest 230 = .ok (.iconst 3, 1) := by decide +kernel
theorem dX9_digest_231 : decode cX9_digest 231 = .ok (.invokevirtual 370, 3) := by decide +kernel
theorem dX9_digest_234 : decode cX9_digest 234 = .ok (.i2l, 1) := by decide +kernel
theorem dX9_digest_235 : decode cX9_digest 235 = .ok (.ladd, 1) := by decide +kernel
theorem dX9_digest_236 : decode cX9_digest 236 = .ok (.lstore_n 1, 1) := by decide +kernel
theorem dX9_digest_237 : decode cX9_digest 237 = .ok (.ldc2_w 362, 3) := by decide +kernel
theorem dX9_digest_240 : decode cX9_digest 240 = .ok (.lload_n 1, 1) := by decide +kernel
theorem dX9_digest_241 : decode cX9_digest 241 = .ok (.lmul, 1) := by decide +kernel
theorem dX9_digest_242 : decode cX9_digest 242 = .ok (.aload_n 0, 1) := by decide +kernel
theorem dX9_digest_243 : decode cX9_digest 243 = .ok (.iload_n 3, 1) := by decide +kernel
theorem dX9_digest_244 : decode cX9_digest 244 = .ok (.iconst 5, 1) := by decide +kernel
theorem dX9_digest_245 : decode cX9_digest 245 = .ok (.invokevirtual 370, 3) := by decide +kernel
theorem dX9_digest_248 : decode cX9_digest 248 = .ok (.i2l, 1) := by decide +kernel
theorem dX9_digest_249 : decode cX9_digest 249 = .ok (.ladd, 1) := by decide +kernel
theorem dX9_digest_250 : decode cX9_digest 250 = .ok (.lstore_n 1, 1) := by decide +kernel
theorem dX9_digest_251 : decode cX9_digest 251 = .ok (.iinc 3 1, 3) := by decide +kernel
theorem dX9_digest_254 : decode cX9_digest 254 = .ok (.goto (-70), 3) := by decide +kernel
theorem dX9_digest_257 : decode cX9_digest 257 = .ok (.ldc2_w 362, 3) := by decide +kernel
theorem dX9_digest_260 : decode cX9_digest 260 = .ok (.lload_n 1, 1) := by decide +kernel
theorem dX9_digest_261 : decode cX9_digest 261 = .ok (.lmul, 1) := by decide +kernel
theorem dX9_digest_262 : decode cX9_digest 262 = .ok (.aload_n 0, 1) := by decide +kernel
theorem dX9_digest_263 : decode cX9_digest 263 = .ok (.invokevirtual 373, 3) := by decide +kernel
theorem dX9_digest_266 : decode cX9_digest 266 = .ok (.invokestatic 377, 3) := by decide +kernel
theorem dX9_digest_269 : decode cX9_digest 269 = .ok (.ladd, 1) := by decide +kernel
theorem dX9_digest_270 : decode cX9_digest 270 = .ok (.lstore_n 1, 1) := by decide +kernel
theorem dX9_digest_271 : decode cX9_digest 271 = .ok (.ldc2_w 362, 3) := by decide +kernel
theorem dX9_digest_274 : decode cX9_digest 274 = .ok (.lload_n 1, 1) := by decide +kernel
theorem dX9_digest_275 : decode cX9_digest 275 = .ok (.lmul, 1) := by decide +kernel
theorem dX9_digest_276 : decode cX9_digest 276 = .ok (.aload_n 0, 1) := by decide +kernel
theorem dX9_digest_277 : decode cX9_digest 277 = .ok (.getfield 50, 3) := by decide +kernel
theorem dX9_digest_280 : decode cX9_digest 280 = .ok (.invokevirtual 154, 3) := by decide +kernel
theorem dX9_digest_283 : decode cX9_digest 283 = .ok (.i2l, 1) := by decide +kernel
theorem dX9_digest_284 : decode cX9_digest 284 = .ok (.ladd, 1) := by decide +kernel
theorem dX9_digest_285 : decode cX9_digest 285 = .ok (.lstore_n 1, 1) := by decide +kernel
theorem dX9_digest_286 : decode cX9_digest 286 = .ok (.iconst 0, 1) := by decide +kernel
theorem dX9_digest_287 : decode cX9_digest 287 = .ok (.istore_n 3, 1) := by decide +kernel
theorem dX9_digest_288 : decode cX9_digest 288 = .ok (.iload_n 3, 1) := by decide +kernel
theorem dX9_digest_289 : decode cX9_digest 289 = .ok (.aload_n 0, 1) := by decide +kernel
theorem dX9_digest_290 : decode cX9_digest 290 = .ok (.getfield 50, 3) := by decide +kernel
theorem dX9_digest_293 : decode cX9_digest 293 = .ok (.invokevirtual 154, 3) := by decide +kernel
theorem dX9_digest_296 : decode cX9_digest 296 = .ok (.if_icmp .ge 25, 3) := by decide +kernel
theorem dX9_digest_299 : decode cX9_digest 299 = .ok (.ldc2_w 362, 3) := by decide +kernel
theorem dX9_digest_302 : decode cX9_digest 302 = .ok (.lload_n 1, 1) := by decide +kernel
theorem dX9_digest_303 : decode cX9_digest 303 = .ok (.lmul, 1) := by decide +kernel
theorem dX9_digest_304 : decode cX9_digest 304 = .ok (.aload_n 0, 1) := by decide +kernel
theorem dX9_digest_305 : decode cX9_digest 305 = .ok (.getfield 50, 3) := by decide +kernel
theorem dX9_digest_308 : decode cX9_digest 308 = .ok (.iload_n 3, 1) := by decide +kernel
theorem dX9_digest_309 : decode cX9_digest 309 = .ok (.invokevirtual 381, 3) := by decide +kernel
theorem dX9_digest_312 : decode cX9_digest 312 = .ok (.i2l, 1) := by decide +kernel
theorem dX9_digest_313 : decode cX9_digest 313 = .ok (.ladd, 1) := by decide +kernel
theorem dX9_digest_314 : decode cX9_digest 314 = .ok (.lstore_n 1, 1) := by decide +kernel
theorem dX9_digest_315 : decode cX9_digest 315 = .ok (.iinc 3 1, 3) := by decide +kernel
theorem dX9_digest_318 : decode cX9_digest 318 = .ok (.goto (-30), 3) := by decide +kernel
theorem dX9_digest_321 : decode cX9_digest 321 = .ok (.lload_n 1, 1) := by decide +kernel
theorem dX9_digest_322 : decode cX9_digest 322 = .ok (.lreturn, 1) := by decide +kernel
theorem dX9_graphChanged_0 : decode cX9_graphChanged 0 = .ok (.aload_n 0, 1) := by decide +kernel
theorem dX9_graphChanged_1 : decode cX9_graphChanged 1 = .ok (.getfield 26, 3) := by decide +kernel
theorem dX9_graphChanged_4 : decode cX9_graphChanged 4 = .ok (.aload_n 0, 1) := by decide +kernel
theorem dX9_graphChanged_5 : decode cX9_graphChanged 5 = .ok (.getfield 12, 3) := by decide +kernel
theorem dX9_graphChanged_8 : decode cX9_graphChanged 8 = .ok (.invokevirtual 384, 3) := by decide +kernel
theorem dX9_graphChanged_11 : decode cX9_graphChanged 11 = .ok (.aload_n 0, 1) := by decide +kernel
theorem dX9_graphChanged_12 : decode cX9_graphChanged 12 = .ok (.invokevirtual 143, 3) := by decide +kernel
theorem dX9_graphChanged_15 : decode cX9_graphChanged 15 = .ok (.return_, 1) := by decide +kernel
theorem dX9_cellsChanged_0 : decode cX9_cellsChanged 0 = .ok (.aload_n 0, 1) := by decide +kernel
theorem dX9_cellsChanged_1 : decode cX9_cellsChanged 1 = .ok (.getfield 19, 3) := by decide +kernel
theorem dX9_cellsChanged_4 : decode cX9_cellsChanged 4 = .ok (.aload_n 0, 1) := by decide +kernel
theorem dX9_cellsChanged_5 : decode cX9_cellsChanged 5 = .ok (.getfield 26, 3) := by decide +kernel
theorem dX9_cellsChanged_8 : decode cX9_cellsChanged 8 = .ok (.invokevirtual 387, 3) := by decide +kernel
theorem dX9_cellsChanged_11 : decode cX9_cellsChanged 11 = .ok (.aload_n 0, 1) := by decide +kernel
theorem dX9_cellsChanged_12 : decode cX9_cellsChanged 12 = .ok (.getfield 33, 3) := by decide +kernel
theorem dX9_cellsChanged_15 : decode cX9_cellsChanged 15 = .ok (.invokevirtual 391, 3) := by decide +kernel
theorem dX9_cellsChanged_18 : decode cX9_cellsChanged 18 = .ok (.return_, 1) := by decide +kernel
theorem dX9_requireObject_0 : decode cX9_requireObject 0 = .ok (.aload_n 0, 1) := by decide +kernel
theorem dX9_requireObject_1 : decode cX9_requireObject 1 = .ok (.getfield 12, 3) := by decide +kernel
theorem dX9_requireObject_4 : decode cX9_requireObject 4 = .ok (.iload_n 1, 1) := by decide +kernel
theorem dX9_requireObject_5 : decode cX9_requireObject 5 = .ok (.invokevirtual 394, 3) := by decide +kernel
theorem dX9_requireObject_8 : decode cX9_requireObject 8 = .ok (.ifCond .ne 14, 3) := by decide +kernel
theorem dX9_requireObject_11 : decode cX9_requireObject 11 = .ok (.new 229, 3) := by decide +kernel
theorem dX9_requireObject_14 : decode cX9_requireObject 14 = .ok (.dup, 1) := by decide +kernel
theorem dX9_requireObject_15 : decode cX9_requireObject 15 = .ok (.ldc_w 397, 3) := by decide +kernel
theorem dX9_requireObject_18 : decode cX9_requireObject 18 = .ok (.invokespecial 233, 3) := by decide +kernel
theorem dX9_requireObject_21 : decode cX9_requireObject 21 = .ok (.athrow, 1) := by decide +kernel
theorem dX9_requireObject_22 : decode cX9_requireObject 22 = .ok (.return_, 1) := by decide +kernel
theorem dX9_requireArrow_0 : decode cX9_requireArrow 0 = .ok (.aload_n 0, 1) := by decide +kernel
theorem dX9_requireArrow_1 : decode cX9_requireArrow 1 = .ok (.getfield 12, 3) := by decide +kernel
theorem dX9_requireArrow_4 : decode cX9_requireArrow 4 = .ok (.iload_n 1, 1) := by decide +kernel
theorem dX9_requireArrow_5 : decode cX9_requireArrow 5 = .ok (.invokevirtual 399, 3) := by decide +kernel
theorem dX9_requireArrow_8 : decode cX9_requireArrow 8 = .ok (.ifCond .ne 14, 3) := by decide +kernel
theorem dX9_requireArrow_11 : decode cX9_requireArrow 11 = .ok (.new 229, 3) := by decide +kernel
theorem dX9_requireArrow_14 : decode cX9_requireArrow 14 = .ok (.dup, 1) := by decide +kernel
theorem dX9_requireArrow_15 : decode cX9_requireArrow 15 = .ok (.ldc_w 402, 3) := by decide +kernel
theorem dX9_requireArrow_18 : decode cX9_requireArrow 18 = .ok (.invokespecial 233, 3) := by decide +kernel
theorem dX9_requireArrow_21 : decode cX9_requireArrow 21 = .ok (.athrow, 1) := by decide +kernel
theorem dX9_requireArrow_22 : decode cX9_requireArrow 22 = .ok (.return_, 1) := by decide +kernel
theorem dX9_requireCell_0 : decode cX9_requireCell 0 = .ok (.iload_n 1, 1) := by decide +kernel
theorem dX9_requireCell_1 : decode cX9_requireCell 1 = .ok (.ifCond .lt 14, 3) := by decide +kernel
theorem dX9_requireCell_4 : decode cX9_requireCell 4 = .ok (.iload_n 1, 1) := by decide +kernel
theorem dX9_requireCell_5 : decode cX9_requireCell 5 = .ok (.aload_n 0, 1) := by decide +kernel
theorem dX9_requireCell_6 : decode cX9_requireCell 6 = .ok (.getfield 19, 3) := by decide +kernel
theorem dX9_requireCell_9 : decode cX9_requireCell 9 = .ok (.invokevirtual 123, 3) := by decide +kernel
theorem dX9_requireCell_12 : decode cX9_requireCell 12 = .ok (.if_icmp .lt 14, 3) := by decide +kernel
theorem dX9_requireCell_15 : decode cX9_requireCell 15 = .ok (.new 229, 3) := by decide +kernel
theorem dX9_requireCell_18 : decode cX9_requireCell 18 = .ok (.dup, 1) := by decide +kernel
theorem dX9_requireCell_19 : decode cX9_requireCell 19 = .ok (.ldc_w 404, 3) := by decide +kernel
theorem dX9_requireCell_22 : decode cX9_requireCell 22 = .ok (.invokespecial 233, 3) := by decide +kernel
theorem dX9_requireCell_25 : decode cX9_requireCell 25 = .ok (.athrow, 1) := by decide +kernel
theorem dX9_requireCell_26 : decode cX9_requireCell 26 = .ok (.return_, 1) := by decide +kernel
theorem dX9_requirePath_0 : decode cX9_requirePath 0 = .ok (.iload_n 1, 1) := by decide +kernel
theorem dX9_requirePath_1 : decode cX9_requirePath 1 = .ok (.ifCond .lt 14, 3) := by decide +kernel
theorem dX9_requirePath_4 : decode cX9_requirePath 4 = .ok (.iload_n 1, 1) := by decide +kernel
theorem dX9_requirePath_5 : decode cX9_requirePath 5 = .ok (.aload_n 0, 1) := by decide +kernel
theorem dX9_requirePath_6 : decode cX9_requirePath 6 = .ok (.getfield 26, 3) := by decide +kernel
theorem dX9_requirePath_9 : decode cX9_requirePath 9 = .ok (.invokevirtual 276, 3) := by decide +kernel
theorem dX9_requirePath_12 : decode cX9_requirePath 12 = .ok (.if_icmp .lt 14, 3) := by decide +kernel
theorem dX9_requirePath_15 : decode cX9_requirePath 15 = .ok (.new 229, 3) := by decide +kernel
theorem dX9_requirePath_18 : decode cX9_requirePath 18 = .ok (.dup, 1) := by decide +kernel
theorem dX9_requirePath_19 : decode cX9_requirePath 19 = .ok (.ldc_w 406, 3) := by decide +kernel
theorem dX9_requirePath_22 : decode cX9_requirePath 22 = .ok (.invokespecial 233, 3) := by decide +kernel
theorem dX9_requirePath_25 : decode cX9_requirePath 25 = .ok (.athrow, 1) := by decide +kernel
theorem dX9_requirePath_26 : decode cX9_requirePath 26 = .ok (.return_, 1) := by decide +kernel
theorem dX9_requireParallel_0 : decode cX9_requireParallel 0 = .ok (.aload_n 0, 1) := by decide +kernel
theorem dX9_requireParallel_1 : decode cX9_requireParallel 1 = .ok (.iload_n 1, 1) := by decide +kernel
theorem dX9_requireParallel_2 : decode cX9_requireParallel 2 = .ok (.invokevirtual 202, 3) := by decide +kernel
theorem dX9_requireParallel_5 : decode cX9_requireParallel 5 = .ok (.aload_n 0, 1) := by decide +kernel
theorem dX9_requireParallel_6 : decode cX9_requireParallel 6 = .ok (.iload_n 2, 1) := by decide +kernel
theorem dX9_requireParallel_7 : decode cX9_requireParallel 7 = .ok (.invokevirtual 202, 3) := by decide +kernel
theorem dX9_requireParallel_10 : decode cX9_requireParallel 10 = .ok (.aload_n 0, 1) := by decide +kernel
theorem dX9_requireParallel_11 : decode cX9_requireParallel 11 = .ok (.getfield 26, 3) := by decide +kernel
theorem dX9_requireParallel_14 : decode cX9_requireParallel 14 = .ok (.getfield 128, 3) := by decide +kernel
theorem dX9_requireParallel_17 : decode cX9_requireParallel 17 = .ok (.iload_n 1, 1) := by decide +kernel
theorem dX9_requireParallel_18 : decode cX9_requireParallel 18 = .ok (.invokevirtual 132, 3) := by decide +kernel
theorem dX9_requireParallel_21 : decode cX9_requireParallel 21 = .ok (.aload_n 0, 1) := by decide +kernel
theorem dX9_requireParallel_22 : decode cX9_requireParallel 22 = .ok (.getfield 26, 3) := by decide +kernel
theorem dX9_requireParallel_25 : decode cX9_requireParallel 25 = .ok (.getfield 128, 3) := by decide +kernel
theorem dX9_requireParallel_28 : decode cX9_requireParallel 28 = .ok (.iload_n 2, 1) := by decide +kernel
theorem dX9_requireParallel_29 : decode cX9_requireParallel 29 = .ok (.invokevirtual 132, 3) := by decide +kernel
theorem dX9_requireParallel_32 : decode cX9_requireParallel 32 = .ok (.if_icmp .ne 28, 3) := by decide +kernel
theorem dX9_requireParallel_35 : decode cX9_requireParallel 35 = .ok (.aload_n 0, 1) := by decide +kernel
theorem dX9_requireParallel_36 : decode cX9_requireParallel 36 = .ok (.getfield 26, 3) := by decide +kernel
theorem dX9_requireParallel_39 : decode cX9_requireParallel 39 = .ok (.getfield 205, 3) := by decide +kernel
theorem dX9_requireParallel_42 : decode cX9_requireParallel 42 = .ok (.iload_n 1, 1) := by decide +kernel
theorem dX9_requireParallel_43 : decode cX9_requireParallel 43 = .ok (.invokevirtual 132, 3) := by decide +kernel
theorem dX9_requireParallel_46 : decode cX9_requireParallel 46 = .ok (.aload_n 0, 1) := by decide +kernel
theorem dX9_requireParallel_47 : decode cX9_requireParallel 47 = .ok (.getfield 26, 3) := by decide +kernel
theorem dX9_requireParallel_50 : decode cX9_requireParallel 50 = .ok (.getfield 205, 3) := by decide +kernel
theorem dX9_requireParallel_53 : decode cX9_requireParallel 53 = .ok (.iload_n 2, 1) := by decide +kernel
theorem dX9_requireParallel_54 : decode cX9_requireParallel 54 = .ok (.invokevirtual 132, 3) := by decide +kernel
theorem dX9_requireParallel_57 : decode cX9_requireParallel 57 = .ok (.if_icmp .eq 14, 3) := by decide +kernel
theorem dX9_requireParallel_60 : decode cX9_requireParallel 60 = .ok (.new 70, 3) := by decide +kernel
theorem dX9_requireParallel_63 : decode cX9_requireParallel 63 = .ok (.dup, 1) := by decide +kernel
theorem dX9_requireParallel_64 : decode cX9_requireParallel 64 = .ok (.ldc_w 408, 3) := by decide +kernel
theorem dX9_requireParallel_67 : decode cX9_requireParallel 67 = .ok (.invokespecial 74, 3) := by decide +kernel
theorem dX9_requireParallel_70 : decode cX9_requireParallel 70 = .ok (.athrow, 1) := by decide +kernel
theorem dX9_requireParallel_71 : decode cX9_requireParallel 71 = .ok (.return_, 1) := by decide +kernel
theorem dX9_lengthenBy_0 : decode cX9_lengthenBy 0 = .ok (.iconst 0, 1) := by decide +kernel
theorem dX9_lengthenBy_1 : decode cX9_lengthenBy 1 = .ok (.istore_n 3, 1) := by decide +kernel
theorem dX9_lengthenBy_2 : decode cX9_lengthenBy 2 = .ok (.iload_n 3, 1) := by decide +kernel
theorem dX9_lengthenBy_3 : decode cX9_lengthenBy 3 = .ok (.aload_n 0, 1) := by decide +kernel
theorem dX9_lengthenBy_4 : decode cX9_lengthenBy 4 = .ok (.getfield 26, 3) := by decide +kernel
theorem dX9_lengthenBy_7 : decode cX9_lengthenBy 7 = .ok (.getfield 208, 3) := by decide +kernel
theorem dX9_lengthenBy_10 : decode cX9_lengthenBy 10 = .ok (.iload_n 2, 1) := by decide +kernel
theorem dX9_lengthenBy_11 : decode cX9_lengthenBy 11 = .ok (.invokevirtual 132, 3) := by decide +kernel
theorem dX9_lengthenBy_14 : decode cX9_lengthenBy 14 = .ok (.if_icmp .ge 29, 3) := by decide +kernel
theorem dX9_lengthenBy_17 : decode cX9_lengthenBy 17 = .ok (.aload_n 0, 1) := by decide +kernel
theorem dX9_lengthenBy_18 : decode cX9_lengthenBy 18 = .ok (.getfield 19, 3) := by decide +kernel
theorem dX9_lengthenBy_21 : decode cX9_lengthenBy 21 = .ok (.iload_n 1, 1) := by decide +kernel
theorem dX9_lengthenBy_22 : decode cX9_lengthenBy 22 = .ok (.aload_n 0, 1) := by decide +kernel
theorem dX9_lengthenBy_23 : decode cX9_lengthenBy 23 = .ok (.getfield 26, 3) := by decide +kernel
theorem dX9_lengthenBy_26 : decode cX9_lengthenBy 26 = .ok (.getfield 234, 3) := by decide +kernel
theorem dX9_lengthenBy_29 : decode cX9_lengthenBy 29 = .ok (.iload_n 2, 1) := by decide +kernel
theorem dX9_lengthenBy_30 : decode cX9_lengthenBy 30 = .ok (.iload_n 3, 1) := by decide +kernel
theorem dX9_lengthenBy_31 : decode cX9_lengthenBy 31 = .ok (.invokevirtual 198, 3) := by decide +kernel
theorem dX9_lengthenBy_34 : decode cX9_lengthenBy 34 = .ok (.invokevirtual 410, 3) := by decide +kernel
theorem dX9_lengthenBy_37 : decode cX9_lengthenBy 37 = .ok (.iinc 3 1, 3) := by decide +kernel
theorem dX9_lengthenBy_40 : decode cX9_lengthenBy 40 = .ok (.goto (-38), 3) := by decide +kernel
theorem dX9_lengthenBy_43 : decode cX9_lengthenBy 43 = .ok (.return_, 1) := by decide +kernel
theorem dX9_pathsFromTo_0 : decode cX9_pathsFromTo 0 = .ok (.iconst 0, 1) := by decide +kernel
theorem dX9_pathsFromTo_1 : decode cX9_pathsFromTo 1 = .ok (.istore_n 3, 1) := by decide +kernel
theorem dX9_pathsFromTo_2 : decode cX9_pathsFromTo 2 = .ok (.iconst 0, 1) := by decide +kernel
theorem dX9_pathsFromTo_3 : decode cX9_pathsFromTo 3 = .ok (.istore 4, 2) := by decide +kernel
theorem dX9_pathsFromTo_5 : decode cX9_pathsFromTo 5 = .ok (.iload 4, 2) := by decide +kernel
theorem dX9_pathsFromTo_7 : decode cX9_pathsFromTo 7 = .ok (.aload_n 0, 1) := by decide +kernel
theorem dX9_pathsFromTo_8 : decode cX9_pathsFromTo 8 = .ok (.getfield 26, 3) := by decide +kernel
theorem dX9_pathsFromTo_11 : decode cX9_pathsFromTo 11 = .ok (.invokevirtual 276, 3) := by decide +kernel
theorem dX9_pathsFromTo_14 : decode cX9_pathsFromTo 14 = .ok (.if_icmp .ge 26, 3) := by decide +kernel
theorem dX9_pathsFromTo_17 : decode cX9_pathsFromTo 17 = .ok (.aload_n 0, 1) := by decide +kernel
theorem dX9_pathsFromTo_18 : decode cX9_pathsFromTo 18 = .ok (.getfield 26, 3) := by decide +kernel
theorem dX9_pathsFromTo_21 : decode cX9_pathsFromTo 21 = .ok (.iload 4, 2) := by decide +kernel
theorem dX9_pathsFromTo_23 : decode cX9_pathsFromTo 23 = .ok (.iload_n 1, 1) := by decide +kernel
theorem dX9_pathsFromTo_24 : decode cX9_pathsFromTo 24 = .ok (.iload_n 2, 1) := by decide +kernel
theorem dX9_pathsFromTo_25 : decode cX9_pathsFromTo 25 = .ok (.invokevirtual 413, 3) := by decide +kernel
theorem dX9_pathsFromTo_28 : decode cX9_pathsFromTo 28 = .ok (.ifCond .eq 6, 3) := by decide +kernel
theorem dX9_pathsFromTo_31 : decode cX9_pathsFromTo 31 = .ok (.iinc 3 1, 3) := by decide +kernel
theorem dX9_pathsFromTo_34 : decode cX9_pathsFromTo 34 = .ok (.iinc 4 1, 3) := by decide +kernel
theorem dX9_pathsFromTo_37 : decode cX9_pathsFromTo 37 = .ok (.goto (-32), 3) := by decide +kernel
theorem dX9_pathsFromTo_40 : decode cX9_pathsFromTo 40 = .ok (.iload_n 3, 1) := by decide +kernel
theorem dX9_pathsFromTo_41 : decode cX9_pathsFromTo 41 = .ok (.ireturn, 1) := by decide +kernel
theorem dX9_pairsWithAtMost_0 : decode cX9_pairsWithAtMost 0 = .ok (.iconst 0, 1) := by decide +kernel
theorem dX9_pairsWithAtMost_1 : decode cX9_pairsWithAtMost 1 = .ok (.istore_n 2, 1) := by decide +kernel
theorem dX9_pairsWithAtMost_2 : decode cX9_pairsWithAtMost 2 = .ok (.iconst 0, 1) := by decide +kernel
theorem dX9_pairsWithAtMost_3 : decode cX9_pairsWithAtMost 3 = .ok (.istore_n 3, 1) := by decide +kernel
theorem dX9_pairsWithAtMost_4 : decode cX9_pairsWithAtMost 4 = .ok (.iload_n 3, 1) := by decide +kernel
theorem dX9_pairsWithAtMost_5 : decode cX9_pairsWithAtMost 5 = .ok (.aload_n 0, 1) := by decide +kernel
theorem dX9_pairsWithAtMost_6 : decode cX9_pairsWithAtMost 6 = .ok (.getfield 12, 3) := by decide +kernel
theorem dX9_pairsWithAtMost_9 : decode cX9_pairsWithAtMost 9 = .ok (.invokevirtual 77, 3) := by decide +kernel
theorem dX9_pairsWithAtMost_12 : decode cX9_pairsWithAtMost 12 = .ok (.if_icmp .ge 58, 3) := by decide +kernel
theorem dX9_pairsWithAtMost_15 : decode cX9_pairsWithAtMost 15 = .ok (.iload_n 3, 1) := by decide +kernel
theorem dX9_pairsWithAtMost_16 : decode cX9_pairsWithAtMost 16 = .ok (.iconst 1, 1) := by decide +kernel
theorem dX9_pairsWithAtMost_17 : decode cX9_pairsWithAtMost 17 = .ok (.iadd, 1) := by decide +kernel
theorem dX9_pairsWithAtMost_18 : decode cX9_pairsWithAtMost 18 = .ok (.istore 4, 2) := by decide +kernel
theorem dX9_pairsWithAtMost_20 : decode cX9_pairsWithAtMost 20 = .ok (.iload 4, 2) := by decide +kernel
theorem dX9_pairsWithAtMost_22 : decode cX9_pairsWithAtMost 22 = .ok (.aload_n 0, 1) := by decide +kernel
theorem dX9_pairsWithAtMost_23 : decode cX9_pairsWithAtMost 23 = .ok (.getfield 12, 3) := by decide +kernel
theorem dX9_pairsWithAtMost_26 : decode cX9_pairsWithAtMost 26 = .ok (.invokevirtual 77, 3) := by decide +kernel
theorem dX9_pairsWithAtMost_29 : decode cX9_pairsWithAtMost 29 = .ok (.if_icmp .ge 35, 3) := by decide +kernel
theorem dX9_pairsWithAtMost_32 : decode cX9_pairsWithAtMost 32 = .ok (.aload_n 0, 1) := by decide +kernel
theorem dX9_pairsWithAtMost_33 : decode cX9_pairsWithAtMost 33 = .ok (.getfield 33, 3) := by decide +kernel
theorem dX9_pairsWithAtMost_36 : decode cX9_pairsWithAtMost 36 = .ok (.iload_n 3, 1) := by decide +kernel
theorem dX9_pairsWithAtMost_37 : decode cX9_pairsWithAtMost 37 = .ok (.iload 4, 2) := by decide +kernel
theorem dX9_pairsWithAtMost_39 : decode cX9_pairsWithAtMost 39 = .ok (.invokevirtual 240, 3) := by decide +kernel
theorem dX9_pairsWithAtMost_42 : decode cX9_pairsWithAtMost 42 = .ok (.istore 5, 2) := by decide +kernel
theorem dX9_pairsWithAtMost_44 : decode cX9_pairsWithAtMost 44 = .ok (.iload 5, 2) := by decide +kernel
theorem dX9_pairsWithAtMost_46 : decode cX9_pairsWithAtMost 46 = .ok (.ifCond .le 12, 3) := by decide +kernel
theorem dX9_pairsWithAtMost_49 : decode cX9_pairsWithAtMost 49 = .ok (.iload 5, 2) := by decide +kernel
theorem dX9_pairsWithAtMost_51 : decode cX9_pairsWithAtMost 51 = .ok (.iload_n 1, 1) := by decide +kernel
theorem dX9_pairsWithAtMost_52 : decode cX9_pairsWithAtMost 52 = .ok (.if_icmp .gt 6, 3) := by decide +kernel
theorem dX9_pairsWithAtMost_55 : decode cX9_pairsWithAtMost 55 = .ok (.iinc 2 1, 3) := by decide +kernel
theorem dX9_pairsWithAtMost_58 : decode cX9_pairsWithAtMost 58 = .ok (.iinc 4 1, 3) := by decide +kernel
theorem dX9_pairsWithAtMost_61 : decode cX9_pairsWithAtMost 61 = .ok (.goto (-41), 3) := by decide +kernel
theorem dX9_pairsWithAtMost_64 : decode cX9_pairsWithAtMost 64 = .ok (.iinc 3 1, 3) := by decide +kernel
theorem dX9_pairsWithAtMost_67 : decode cX9_pairsWithAtMost 67 = .ok (.goto (-63), 3) := by decide +kernel
theorem dX9_pairsWithAtMost_70 : decode cX9_pairsWithAtMost 70 = .ok (.iload_n 2, 1) := by decide +kernel
theorem dX9_pairsWithAtMost_71 : decode cX9_pairsWithAtMost 71 = .ok (.ireturn, 1) := by decide +kernel
theorem dX9_stepsTo_0 : decode cX9_stepsTo 0 = .ok (.aload_n 0, 1) := by decide +kernel
theorem dX9_stepsTo_1 : decode cX9_stepsTo 1 = .ok (.getfield 33, 3) := by decide +kernel
theorem dX9_stepsTo_4 : decode cX9_stepsTo 4 = .ok (.aload_n 0, 1) := by decide +kernel
theorem dX9_stepsTo_5 : decode cX9_stepsTo 5 = .ok (.getfield 26, 3) := by decide +kernel
theorem dX9_stepsTo_8 : decode cX9_stepsTo 8 = .ok (.aload_n 0, 1) := by decide +kernel
theorem dX9_stepsTo_9 : decode cX9_stepsTo 9 = .ok (.getfield 19, 3) := by decide +kernel
theorem dX9_stepsTo_12 : decode cX9_stepsTo 12 = .ok (.invokevirtual 210, 3) := by decide +kernel
theorem dX9_stepsTo_15 : decode cX9_stepsTo 15 = .ok (.aload_n 0, 1) := by decide +kernel
theorem dX9_stepsTo_16 : decode cX9_stepsTo 16 = .ok (.getfield 33, 3) := by decide +kernel
theorem dX9_stepsTo_19 : decode cX9_stepsTo 19 = .ok (.iload_n 1, 1) := by decide +kernel
theorem dX9_stepsTo_20 : decode cX9_stepsTo 20 = .ok (.sipush 1023, 3) := by decide +kernel
theorem dX9_stepsTo_23 : decode cX9_stepsTo 23 = .ok (.invokevirtual 416, 3) := by decide +kernel
theorem dX9_stepsTo_26 : decode cX9_stepsTo 26 = .ok (.aload_n 0, 1) := by decide +kernel
theorem dX9_stepsTo_27 : decode cX9_stepsTo 27 = .ok (.getfield 33, 3) := by decide +kernel
theorem dX9_stepsTo_30 : decode cX9_stepsTo 30 = .ok (.iload_n 2, 1) := by decide +kernel
theorem dX9_stepsTo_31 : decode cX9_stepsTo 31 = .ok (.invokevirtual 419, 3) := by decide +kernel
theorem dX9_stepsTo_34 : decode cX9_stepsTo 34 = .ok (.ireturn, 1) := by decide +kernel
theorem dX9_holds_0 : decode cX9_holds 0 = .ok (.aload_n 1, 1) := by decide +kernel
theorem dX9_holds_1 : decode cX9_holds 1 = .ok (.aload_n 0, 1) := by decide +kernel
theorem dX9_holds_2 : decode cX9_holds 2 = .ok (.getfield 26, 3) := by decide +kernel
theorem dX9_holds_5 : decode cX9_holds 5 = .ok (.aload_n 0, 1) := by decide +kernel
theorem dX9_holds_6 : decode cX9_holds 6 = .ok (.getfield 19, 3) := by decide +kernel
theorem dX9_holds_9 : decode cX9_holds 9 = .ok (.iload_n 2, 1) := by decide +kernel
theorem dX9_holds_10 : decode cX9_holds 10 = .ok (.iconst 0, 1) := by decide +kernel
theorem dX9_holds_11 : decode cX9_holds 11 = .ok (.invokevirtual 256, 3) := by decide +kernel
theorem dX9_holds_14 : decode cX9_holds 14 = .ok (.aload_n 0, 1) := by decide +kernel
theorem dX9_holds_15 : decode cX9_holds 15 = .ok (.getfield 19, 3) := by decide +kernel
theorem dX9_holds_18 : decode cX9_holds 18 = .ok (.iload_n 2, 1) := by decide +kernel
theorem dX9_holds_19 : decode cX9_holds 19 = .ok (.iconst 1, 1) := by decide +kernel
theorem dX9_holds_20 : decode cX9_holds 20 = .ok (.invokevirtual 256, 3) := by decide +kernel
theorem dX9_holds_23 : decode cX9_holds 23 = .ok (.invokevirtual 326, 3) := by decide +kernel
theorem dX9_holds_26 : decode cX9_holds 26 = .ok (.ireturn, 1) := by decide +kernel
theorem dX9_allHold_0 : decode cX9_allHold 0 = .ok (.iconst 0, 1) := by decide +kernel
theorem dX9_allHold_1 : decode cX9_allHold 1 = .ok (.istore_n 2, 1) := by decide +kernel
theorem dX9_allHold_2 : decode cX9_allHold 2 = .ok (.iload_n 2, 1) := by decide +kernel
theorem dX9_allHold_3 : decode cX9_allHold 3 = .ok (.aload_n 0, 1) := by decide +kernel
theorem dX9_allHold_4 : decode cX9_allHold 4 = .ok (.getfield 19, 3) := by decide +kernel
theorem dX9_allHold_7 : decode cX9_allHold 7 = .ok (.invokevirtual 123, 3) := by decide +kernel
theorem dX9_allHold_10 : decode cX9_allHold 10 = .ok (.if_icmp .ge 20, 3) := by decide +kernel
theorem dX9_allHold_13 : decode cX9_allHold 13 = .ok (.aload_n 0, 1) := by decide +kernel
theorem dX9_allHold_14 : decode cX9_allHold 14 = .ok (.aload_n 1, 1) := by decide +kernel
theorem dX9_allHold_15 : decode cX9_allHold 15 = .ok (.iload_n 2, 1) := by decide +kernel
theorem dX9_allHold_16 : decode cX9_allHold 16 = .ok (.invokevirtual 270, 3) := by decide +kernel
theorem dX9_allHold_19 : decode cX9_allHold 19 = .ok (.ifCond .ne 5, 3) := by decide +kernel
theorem dX9_allHold_22 : decode cX9_allHold 22 = .ok (.iconst 0, 1) := by decide +kernel
theorem dX9_allHold_23 : decode cX9_allHold 23 = .ok (.ireturn, 1) := by decide +kernel
theorem dX9_allHold_24 : decode cX9_allHold 24 = .ok (.iinc 2 1, 3) := by decide +kernel
theorem dX9_allHold_27 : decode cX9_allHold 27 = .ok (.goto (-25), 3) := by decide +kernel
theorem dX9_allHold_30 : decode cX9_allHold 30 = .ok (.iconst 1, 1) := by decide +kernel
theorem dX9_allHold_31 : decode cX9_allHold 31 = .ok (.ireturn, 1) := by decide +kernel
theorem dX9_holdingCells_0 : decode cX9_holdingCells 0 = .ok (.iconst 0, 1) := by decide +kernel
theorem dX9_holdingCells_1 : decode cX9_holdingCells 1 = .ok (.istore_n 1, 1) := by decide +kernel
theorem dX9_holdingCells_2 : decode cX9_holdingCells 2 = .ok (.iconst 0, 1) := by decide +kernel
theorem dX9_holdingCells_3 : decode cX9_holdingCells 3 = .ok (.istore_n 2, 1) := by decide +kernel
theorem dX9_holdingCells_4 : decode cX9_holdingCells 4 = .ok (.iload_n 2, 1) := by decide +kernel
theorem dX9_holdingCells_5 : decode cX9_holdingCells 5 = .ok (.aload_n 0, 1) := by decide +kernel
theorem dX9_holdingCells_6 : decode cX9_holdingCells 6 = .ok (.getfield 19, 3) := by decide +kernel
theorem dX9_holdingCells_9 : decode cX9_holdingCells 9 = .ok (.invokevirtual 123, 3) := by decide +kernel
theorem dX9_holdingCells_12 : decode cX9_holdingCells 12 = .ok (.if_icmp .ge 24, 3) := by decide +kernel
theorem dX9_holdingCells_15 : decode cX9_holdingCells 15 = .ok (.aload_n 0, 1) := by decide +kernel
theorem dX9_holdingCells_16 : decode cX9_holdingCells 16 = .ok (.aload_n 0, 1) := by decide +kernel
theorem dX9_holdingCells_17 : decode cX9_holdingCells 17 = .ok (.getfield 40, 3) := by decide +kernel
theorem dX9_holdingCells_20 : decode cX9_holdingCells 20 = .ok (.iload_n 2, 1) := by decide +kernel
theorem dX9_holdingCells_21 : decode cX9_holdingCells 21 = .ok (.invokevirtual 270, 3) := by decide +kernel
theorem dX9_holdingCells_24 : decode cX9_holdingCells 24 = .ok (.ifCond .eq 6, 3) := by decide +kernel
theorem dX9_holdingCells_27 : decode cX9_holdingCells 27 = .ok (.iinc 1 1, 3) := by decide +kernel
theorem dX9_holdingCells_30 : decode cX9_holdingCells 30 = .ok (.iinc 2 1, 3) := by decide +kernel
theorem dX9_holdingCells_33 : decode cX9_holdingCells 33 = .ok (.goto (-29), 3) := by decide +kernel
theorem dX9_holdingCells_36 : decode cX9_holdingCells 36 = .ok (.iload_n 1, 1) := by decide +kernel
theorem dX9_holdingCells_37 : decode cX9_holdingCells 37 = .ok (.ireturn, 1) := by decide +kernel
theorem dX9_sizeAtStart_0 : decode cX9_sizeAtStart 0 = .ok (.aload_n 0, 1) := by decide +kernel
theorem dX9_sizeAtStart_1 : decode cX9_sizeAtStart 1 = .ok (.getfield 40, 3) := by decide +kernel
theorem dX9_sizeAtStart_4 : decode cX9_sizeAtStart 4 = .ok (.aload_n 0, 1) := by decide +kernel
theorem dX9_sizeAtStart_5 : decode cX9_sizeAtStart 5 = .ok (.getfield 12, 3) := by decide +kernel
theorem dX9_sizeAtStart_8 : decode cX9_sizeAtStart 8 = .ok (.iload_n 1, 1) := by decide +kernel
theorem dX9_sizeAtStart_9 : decode cX9_sizeAtStart 9 = .ok (.invokevirtual 191, 3) := by decide +kernel
theorem dX9_sizeAtStart_12 : decode cX9_sizeAtStart 12 = .ok (.invokevirtual 224, 3) := by decide +kernel
theorem dX9_sizeAtStart_15 : decode cX9_sizeAtStart 15 = .ok (.ireturn, 1) := by decide +kernel
theorem dX9_sizeAtEnd_0 : decode cX9_sizeAtEnd 0 = .ok (.aload_n 0, 1) := by decide +kernel
theorem dX9_sizeAtEnd_1 : decode cX9_sizeAtEnd 1 = .ok (.getfield 40, 3) := by decide +kernel
theorem dX9_sizeAtEnd_4 : decode cX9_sizeAtEnd 4 = .ok (.aload_n 0, 1) := by decide +kernel
theorem dX9_sizeAtEnd_5 : decode cX9_sizeAtEnd 5 = .ok (.getfield 12, 3) := by decide +kernel
theorem dX9_sizeAtEnd_8 : decode cX9_sizeAtEnd 8 = .ok (.iload_n 1, 1) := by decide +kernel
theorem dX9_sizeAtEnd_9 : decode cX9_sizeAtEnd 9 = .ok (.invokevirtual 296, 3) := by decide +kernel
theorem dX9_sizeAtEnd_12 : decode cX9_sizeAtEnd 12 = .ok (.invokevirtual 224, 3) := by decide +kernel
theorem dX9_sizeAtEnd_15 : decode cX9_sizeAtEnd 15 = .ok (.ireturn, 1) := by decide +kernel
theorem dX9_isSquare_0 : decode cX9_isSquare 0 = .ok (.aload_n 0, 1) := by decide +kernel
theorem dX9_isSquare_1 : decode cX9_isSquare 1 = .ok (.getfield 12, 3) := by decide +kernel
theorem dX9_isSquare_4 : decode cX9_isSquare 4 = .ok (.iload_n 2, 1) := by decide +kernel
theorem dX9_isSquare_5 : decode cX9_isSquare 5 = .ok (.invokevirtual 191, 3) := by decide +kernel
theorem dX9_isSquare_8 : decode cX9_isSquare 8 = .ok (.aload_n 0, 1) := by decide +kernel
theorem dX9_isSquare_9 : decode cX9_isSquare 9 = .ok (.getfield 12, 3) := by decide +kernel
theorem dX9_isSquare_12 : decode cX9_isSquare 12 = .ok (.iload_n 1, 1) := by decide +kernel
theorem dX9_isSquare_13 : decode cX9_isSquare 13 = .ok (.invokevirtual 296, 3) := by decide +kernel
theorem dX9_isSquare_16 : decode cX9_isSquare 16 = .ok (.if_icmp .ne 66, 3) := by decide +kernel
theorem dX9_isSquare_19 : decode cX9_isSquare 19 = .ok (.aload_n 0, 1) := by decide +kernel
theorem dX9_isSquare_20 : decode cX9_isSquare 20 = .ok (.getfield 12, 3) := by decide +kernel
theorem dX9_isSquare_23 : decode cX9_isSquare 23 = .ok (.iload_n 3, 1) := by decide +kernel
theorem dX9_isSquare_24 : decode cX9_isSquare 24 = .ok (.invokevirtual 191, 3) := by decide +kernel
theorem dX9_isSquare_27 : decode cX9_isSquare 27 = .ok (.aload_n 0, 1) := by decide +kernel
theorem dX9_isSquare_28 : decode cX9_isSquare 28 = .ok (.getfield 12, 3) := by decide +kernel
theorem dX9_isSquare_31 : decode cX9_isSquare 31 = .ok (.iload_n 1, 1) := by decide +kernel
theorem dX9_isSquare_32 : decode cX9_isSquare 32 = .ok (.invokevirtual 191, 3) := by decide +kernel
theorem dX9_isSquare_35 : decode cX9_isSquare 35 = .ok (.if_icmp .ne 47, 3) := by decide +kernel
theorem dX9_isSquare_38 : decode cX9_isSquare 38 = .ok (.aload_n 0, 1) := by decide +kernel
theorem dX9_isSquare_39 : decode cX9_isSquare 39 = .ok (.getfield 12, 3) := by decide +kernel
theorem dX9_isSquare_42 : decode cX9_isSquare 42 = .ok (.iload 4, 2) := by decide +kernel
theorem dX9_isSquare_44 : decode cX9_isSquare 44 = .ok (.invokevirtual 191, 3) := by decide +kernel
theorem dX9_isSquare_47 : decode cX9_isSquare 47 = .ok (.aload_n 0, 1) := by decide +kernel
theorem dX9_isSquare_48 : decode cX9_isSquare 48 = .ok (.getfield 12, 3) := by decide +kernel
theorem dX9_isSquare_51 : decode cX9_isSquare 51 = .ok (.iload_n 3, 1) := by decide +kernel
theorem dX9_isSquare_52 : decode cX9_isSquare 52 = .ok (.invokevirtual 296, 3) := by decide +kernel
theorem dX9_isSquare_55 : decode cX9_isSquare 55 = .ok (.if_icmp .ne 27, 3) := by decide +kernel
theorem dX9_isSquare_58 : decode cX9_isSquare 58 = .ok (.aload_n 0, 1) := by decide +kernel
theorem dX9_isSquare_59 : decode cX9_isSquare 59 = .ok (.getfield 12, 3) := by decide +kernel
theorem dX9_isSquare_62 : decode cX9_isSquare 62 = .ok (.iload 4, 2) := by decide +kernel
theorem dX9_isSquare_64 : decode cX9_isSquare 64 = .ok (.invokevirtual 296, 3) := by decide +kernel
theorem dX9_isSquare_67 : decode cX9_isSquare 67 = .ok (.aload_n 0, 1) := by decide +kernel
theorem dX9_isSquare_68 : decode cX9_isSquare 68 = .ok (.getfield 12, 3) := by decide +kernel
theorem dX9_isSquare_71 : decode cX9_isSquare 71 = .ok (.iload_n 2, 1) := by decide +kernel
theorem dX9_isSquare_72 : decode cX9_isSquare 72 = .ok (.invokevirtual 296, 3) := by decide +kernel
theorem dX9_isSquare_75 : decode cX9_isSquare 75 = .ok (.if_icmp .ne 7, 3) := by decide +kernel
theorem dX9_isSquare_78 : decode cX9_isSquare 78 = .ok (.iconst 1, 1) := by decide +kernel
theorem dX9_isSquare_79 : decode cX9_isSquare 79 = .ok (.goto 4, 3) := by decide +kernel
theorem dX9_isSquare_82 : decode cX9_isSquare 82 = .ok (.iconst 0, 1) := by decide +kernel
theorem dX9_isSquare_83 : decode cX9_isSquare 83 = .ok (.ireturn, 1) := by decide +kernel
theorem dX9_sameBehind_0 : decode cX9_sameBehind 0 = .ok (.iconst 0, 1) := by decide +kernel
theorem dX9_sameBehind_1 : decode cX9_sameBehind 1 = .ok (.istore 5, 2) := by decide +kernel
theorem dX9_sameBehind_3 : decode cX9_sameBehind 3 = .ok (.iload 5, 2) := by decide +kernel
theorem dX9_sameBehind_5 : decode cX9_sameBehind 5 = .ok (.aload_n 0, 1) := by decide +kernel
theorem dX9_sameBehind_6 : decode cX9_sameBehind 6 = .ok (.iload_n 1, 1) := by decide +kernel
theorem dX9_sameBehind_7 : decode cX9_sameBehind 7 = .ok (.invokevirtual 422, 3) := by decide +kernel
theorem dX9_sameBehind_10 : decode cX9_sameBehind 10 = .ok (.if_icmp .ge 59, 3) := by decide +kernel
theorem dX9_sameBehind_13 : decode cX9_sameBehind 13 = .ok (.aload_n 0, 1) := by decide +kernel
theorem dX9_sameBehind_14 : decode cX9_sameBehind 14 = .ok (.getfield 40, 3) := by decide +kernel
theorem dX9_sameBehind_17 : decode cX9_sameBehind 17 = .ok (.iload_n 1, 1) := by decide +kernel
theorem dX9_sameBehind_18 : decode cX9_sameBehind 18 = .ok (.iload 5, 2) := by decide +kernel
theorem dX9_sameBehind_20 : decode cX9_sameBehind 20 = .ok (.invokevirtual 355, 3) := by decide +kernel
theorem dX9_sameBehind_23 : decode cX9_sameBehind 23 = .ok (.istore 6, 2) := by decide +kernel
theorem dX9_sameBehind_25 : decode cX9_sameBehind 25 = .ok (.aload_n 0, 1) := by decide +kernel
theorem dX9_sameBehind_26 : decode cX9_sameBehind 26 = .ok (.getfield 40, 3) := by decide +kernel
theorem dX9_sameBehind_29 : decode cX9_sameBehind 29 = .ok (.iload_n 3, 1) := by decide +kernel
theorem dX9_sameBehind_30 : decode cX9_sameBehind 30 = .ok (.iload 5, 2) := by decide +kernel
theorem dX9_sameBehind_32 : decode cX9_sameBehind 32 = .ok (.invokevirtual 355, 3) := by decide +kernel
theorem dX9_sameBehind_35 : decode cX9_sameBehind 35 = .ok (.istore 7, 2) := by decide +kernel
theorem dX9_sameBehind_37 : decode cX9_sameBehind 37 = .ok (.aload_n 0, 1) := by decide +kernel
theorem dX9_sameBehind_38 : decode cX9_sameBehind 38 = .ok (.getfield 40, 3) := by decide +kernel
theorem dX9_sameBehind_41 : decode cX9_sameBehind 41 = .ok (.iload_n 2, 1) := by decide +kernel
theorem dX9_sameBehind_42 : decode cX9_sameBehind 42 = .ok (.iload 6, 2) := by decide +kernel
theorem dX9_sameBehind_44 : decode cX9_sameBehind 44 = .ok (.invokevirtual 355, 3) := by decide +kernel
theorem dX9_sameBehind_47 : decode cX9_sameBehind 47 = .ok (.aload_n 0, 1) := by decide +kernel
theorem dX9_sameBehind_48 : decode cX9_sameBehind 48 = .ok (.getfield 40, 3) := by decide +kernel
theorem dX9_sameBehind_51 : decode cX9_sameBehind 51 = .ok (.iload 4, 2) := by decide +kernel
theorem dX9_sameBehind_53 : decode cX9_sameBehind 53 = .ok (.iload 7, 2) := by decide +kernel
theorem dX9_sameBehind_55 : decode cX9_sameBehind 55 = .ok (.invokevirtual 355, 3) := by decide +kernel
theorem dX9_sameBehind_58 : decode cX9_sameBehind 58 = .ok (.if_icmp .eq 5, 3) := by decide +kernel
theorem dX9_sameBehind_61 : decode cX9_sameBehind 61 = .ok (.iconst 0, 1) := by decide +kernel
theorem dX9_sameBehind_62 : decode cX9_sameBehind 62 = .ok (.ireturn, 1) := by decide +kernel
theorem dX9_sameBehind_63 : decode cX9_sameBehind 63 = .ok (.iinc 5 1, 3) := by decide +kernel
theorem dX9_sameBehind_66 : decode cX9_sameBehind 66 = .ok (.goto (-63), 3) := by decide +kernel
theorem dX9_sameBehind_69 : decode cX9_sameBehind 69 = .ok (.iconst 1, 1) := by decide +kernel
theorem dX9_sameBehind_70 : decode cX9_sameBehind 70 = .ok (.ireturn, 1) := by decide +kernel
theorem dX9_sources_0 : decode cX9_sources 0 = .ok (.iconst 0, 1) := by decide +kernel
theorem dX9_sources_1 : decode cX9_sources 1 = .ok (.istore 5, 2) := by decide +kernel
theorem dX9_sources_3 : decode cX9_sources 3 = .ok (.iconst 0, 1) := by decide +kernel
theorem dX9_sources_4 : decode cX9_sources 4 = .ok (.istore 6, 2) := by decide +kernel
theorem dX9_sources_6 : decode cX9_sources 6 = .ok (.iload 6, 2) := by decide +kernel
theorem dX9_sources_8 : decode cX9_sources 8 = .ok (.aload_n 0, 1) := by decide +kernel
theorem dX9_sources_9 : decode cX9_sources 9 = .ok (.iload_n 1, 1) := by decide +kernel
theorem dX9_sources_10 : decode cX9_sources 10 = .ok (.invokevirtual 422, 3) := by decide +kernel
theorem dX9_sources_13 : decode cX9_sources 13 = .ok (.if_icmp .ge 41, 3) := by decide +kernel
theorem dX9_sources_16 : decode cX9_sources 16 = .ok (.aload_n 0, 1) := by decide +kernel
theorem dX9_sources_17 : decode cX9_sources 17 = .ok (.getfield 40, 3) := by decide +kernel
theorem dX9_sources_20 : decode cX9_sources 20 = .ok (.iload_n 1, 1) := by decide +kernel
theorem dX9_sources_21 : decode cX9_sources 21 = .ok (.iload 6, 2) := by decide +kernel
theorem dX9_sources_23 : decode cX9_sources 23 = .ok (.invokevirtual 355, 3) := by decide +kernel
theorem dX9_sources_26 : decode cX9_sources 26 = .ok (.iload_n 2, 1) := by decide +kernel
theorem dX9_sources_27 : decode cX9_sources 27 = .ok (.if_icmp .ne 21, 3) := by decide +kernel
theorem dX9_sources_30 : decode cX9_sources 30 = .ok (.aload_n 0, 1) := by decide +kernel
theorem dX9_sources_31 : decode cX9_sources 31 = .ok (.getfield 40, 3) := by decide +kernel
theorem dX9_sources_34 : decode cX9_sources 34 = .ok (.iload_n 3, 1) := by decide +kernel
theorem dX9_sources_35 : decode cX9_sources 35 = .ok (.iload 6, 2) := by decide +kernel
theorem dX9_sources_37 : decode cX9_sources 37 = .ok (.invokevirtual 355, 3) := by decide +kernel
theorem dX9_sources_40 : decode cX9_sources 40 = .ok (.iload 4, 2) := by decide +kernel
theorem dX9_sources_42 : decode cX9_sources 42 = .ok (.if_icmp .ne 6, 3) := by decide +kernel
theorem dX9_sources_45 : decode cX9_sources 45 = .ok (.iinc 5 1, 3) := by decide +kernel
theorem dX9_sources_48 : decode cX9_sources 48 = .ok (.iinc 6 1, 3) := by decide +kernel
theorem dX9_sources_51 : decode cX9_sources 51 = .ok (.goto (-45), 3) := by decide +kernel
theorem dX9_sources_54 : decode cX9_sources 54 = .ok (.iload 5, 2) := by decide +kernel
theorem dX9_sources_56 : decode cX9_sources 56 = .ok (.ireturn, 1) := by decide +kernel
theorem dX9_floatBits_0 : decode cX9_floatBits 0 = .ok (.fload_n 0, 1) := by decide +kernel
theorem dX9_floatBits_1 : decode cX9_floatBits 1 = .ok (.fconst 0, 1) := by decide +kernel
theorem dX9_floatBits_2 : decode cX9_floatBits 2 = .ok (.fcmp .l, 1) := by decide +kernel
theorem dX9_floatBits_3 : decode cX9_floatBits 3 = .ok (.ifCond .gt 5, 3) := by decide +kernel
theorem dX9_floatBits_6 : decode cX9_floatBits 6 = .ok (.iconst 0, 1) := by decide +kernel
theorem dX9_floatBits_7 : decode cX9_floatBits 7 = .ok (.ireturn, 1) := by decide +kernel
theorem dX9_floatBits_8 : decode cX9_floatBits 8 = .ok (.fload_n 0, 1) := by decide +kernel
theorem dX9_floatBits_9 : decode cX9_floatBits 9 = .ok (.fstore_n 1, 1) := by decide +kernel
theorem dX9_floatBits_10 : decode cX9_floatBits 10 = .ok (.bipush 127, 2) := by decide +kernel
theorem dX9_floatBits_12 : decode cX9_floatBits 12 = .ok (.istore_n 2, 1) := by decide +kernel
theorem dX9_floatBits_13 : decode cX9_floatBits 13 = .ok (.fload_n 1, 1) := by decide +kernel
theorem dX9_floatBits_14 : decode cX9_floatBits 14 = .ok (.fconst 1, 1) := by decide +kernel
theorem dX9_floatBits_15 : decode cX9_floatBits 15 = .ok (.fcmp .g, 1) := by decide +kernel
theorem dX9_floatBits_16 : decode cX9_floatBits 16 = .ok (.ifCond .ge 18, 3) := by decide +kernel
theorem dX9_floatBits_19 : decode cX9_floatBits 19 = .ok (.iload_n 2, 1) := by decide +kernel
theorem dX9_floatBits_20 : decode cX9_floatBits 20 = .ok (.iconst 1, 1) := by decide +kernel
theorem dX9_floatBits_21 : decode cX9_floatBits 21 = .ok (.if_icmp .le 13, 3) := by decide +kernel
theorem dX9_floatBits_24 : decode cX9_floatBits 24 = .ok (.fload_n 1, 1) := by decide +kernel
theorem dX9_floatBits_25 : decode cX9_floatBits 25 = .ok (.fconst 2, 1) := by decide +kernel
theorem dX9_floatBits_26 : decode cX9_floatBits 26 = .ok (.fmul, 1) := by decide +kernel
theorem dX9_floatBits_27 : decode cX9_floatBits 27 = .ok (.fstore_n 1, 1) := by decide +kernel
theorem dX9_floatBits_28 : decode cX9_floatBits 28 = .ok (.iinc 2 (-1), 3) := by decide +kernel
theorem dX9_floatBits_31 : decode cX9_floatBits 31 = .ok (.goto (-18), 3) := by decide +kernel
theorem dX9_floatBits_34 : decode cX9_floatBits 34 = .ok (.iload_n 2, 1) := by decide +kernel
theorem dX9_floatBits_35 : decode cX9_floatBits 35 = .ok (.bipush 23, 2) := by decide +kernel
theorem dX9_floatBits_37 : decode cX9_floatBits 37 = .ok (.ishl, 1) := by decide +kernel
theorem dX9_floatBits_38 : decode cX9_floatBits 38 = .ok (.fload_n 1, 1) := by decide +kernel
theorem dX9_floatBits_39 : decode cX9_floatBits 39 = .ok (.fconst 1, 1) := by decide +kernel
theorem dX9_floatBits_40 : decode cX9_floatBits 40 = .ok (.fsub, 1) := by decide +kernel
theorem dX9_floatBits_41 : decode cX9_floatBits 41 = .ok (.ldc_w 425, 3) := by decide +kernel
theorem dX9_floatBits_44 : decode cX9_floatBits 44 = .ok (.fmul, 1) := by decide +kernel
theorem dX9_floatBits_45 : decode cX9_floatBits 45 = .ok (.f2i, 1) := by decide +kernel
theorem dX9_floatBits_46 : decode cX9_floatBits 46 = .ok (.ior, 1) := by decide +kernel
theorem dX9_floatBits_47 : decode cX9_floatBits 47 = .ok (.ireturn, 1) := by decide +kernel
theorem dX9_doubleBits_0 : decode cX9_doubleBits 0 = .ok (.dload_n 0, 1) := by decide +kernel
theorem dX9_doubleBits_1 : decode cX9_doubleBits 1 = .ok (.dconst 0, 1) := by decide +kernel
theorem dX9_doubleBits_2 : decode cX9_doubleBits 2 = .ok (.dcmp .l, 1) := by decide +kernel
theorem dX9_doubleBits_3 : decode cX9_doubleBits 3 = .ok (.ifCond .gt 5, 3) := by decide +kernel
theorem dX9_doubleBits_6 : decode cX9_doubleBits 6 = .ok (.lconst 0, 1) := by decide +kernel
theorem dX9_doubleBits_7 : decode cX9_doubleBits 7 = .ok (.lreturn, 1) := by decide +kernel
theorem dX9_doubleBits_8 : decode cX9_doubleBits 8 = .ok (.dload_n 0, 1) := by decide +kernel
theorem dX9_doubleBits_9 : decode cX9_doubleBits 9 = .ok (.dstore_n 2, 1) := by decide +kernel
theorem dX9_doubleBits_10 : decode cX9_doubleBits 10 = .ok (.ldc2_w 426, 3) := by decide +kernel
theorem dX9_doubleBits_13 : decode cX9_doubleBits 13 = .ok (.lstore 4, 2) := by decide +kernel
theorem dX9_doubleBits_15 : decode cX9_doubleBits 15 = .ok (.dload_n 2, 1) := by decide +kernel
theorem dX9_doubleBits_16 : decode cX9_doubleBits 16 = .ok (.dconst 1, 1) := by decide +kernel
theorem dX9_doubleBits_17 : decode cX9_doubleBits 17 = .ok (.dcmp .g, 1) := by decide +kernel
theorem dX9_doubleBits_18 : decode cX9_doubleBits 18 = .ok (.ifCond .ge 25, 3) := by decide +kernel
theorem dX9_doubleBits_21 : decode cX9_doubleBits 21 = .ok (.lload 4, 2) := by decide +kernel
theorem dX9_doubleBits_23 : decode cX9_doubleBits 23 = .ok (.lconst 1, 1) := by decide +kernel
theorem dX9_doubleBits_24 : decode cX9_doubleBits 24 = .ok (.lcmp, 1) := by decide +kernel
theorem dX9_doubleBits_25 : decode cX9_doubleBits 25 = .ok (.ifCond .le 18, 3) := by decide +kernel
theorem dX9_doubleBits_28 : decode cX9_doubleBits 28 = .ok (.dload_n 2, 1) := by decide +kernel
theorem dX9_doubleBits_29 : decode cX9_doubleBits 29 = .ok (.ldc2_w 428, 3) := by decide +kernel
theorem dX9_doubleBits_32 : decode cX9_doubleBits 32 = .ok (.dmul, 1) := by decide +kernel
theorem dX9_doubleBits_33 : decode cX9_doubleBits 33 = .ok (.dstore_n 2, 1) := by decide +kernel
theorem dX9_doubleBits_34 : decode cX9_doubleBits 34 = .ok (.lload 4, 2) := by decide +kernel
theorem dX9_doubleBits_36 : decode cX9_doubleBits 36 = .ok (.lconst 1, 1) := by decide +kernel
theorem dX9_doubleBits_37 : decode cX9_doubleBits 37 = .ok (.lsub, 1) := by decide +kernel
theorem dX9_doubleBits_38 : decode cX9_doubleBits 38 = .ok (.lstore 4, 2) := by decide +kernel
theorem dX9_doubleBits_40 : decode cX9_doubleBits 40 = .ok (.goto (-25), 3) := by decide +kernel
theorem dX9_doubleBits_43 : decode cX9_doubleBits 43 = .ok (.lload 4, 2) := by decide +kernel
theorem dX9_doubleBits_45 : decode cX9_doubleBits 45 = .ok (.bipush 52, 2) := by decide +kernel
theorem dX9_doubleBits_47 : decode cX9_doubleBits 47 = .ok (.lshl, 1) := by decide +kernel
theorem dX9_doubleBits_48 : decode cX9_doubleBits 48 = .ok (.dload_n 2, 1) := by decide +kernel
theorem dX9_doubleBits_49 : decode cX9_doubleBits 49 = .ok (.dconst 1, 1) := by decide +kernel
theorem dX9_doubleBits_50 : decode cX9_doubleBits 50 = .ok (.dsub, 1) := by decide +kernel
theorem dX9_doubleBits_51 : decode cX9_doubleBits 51 = .ok (.ldc2_w 430, 3) := by decide +kernel
theorem dX9_doubleBits_54 : decode cX9_doubleBits 54 = .ok (.dmul, 1) := by decide +kernel
theorem dX9_doubleBits_55 : decode cX9_doubleBits 55 = .ok (.d2l, 1) := by decide +kernel
theorem dX9_doubleBits_56 : decode cX9_doubleBits 56 = .ok (.lor, 1) := by decide +kernel
theorem dX9_doubleBits_57 : decode cX9_doubleBits 57 = .ok (.lreturn, 1) := by decide +kernel

theorem dX10_core_40 : decode cX10_core 40 = .ok (.goto (-28), 3) := by decide +kernel
theorem dX10_core_43 : decode cX10_core 43 = .ok (.iload_n 1, 1) := by decide +kernel
theorem dX10_core_44 : decode cX10_core 44 = .ok (.ireturn, 1) := by decide +kernel
theorem dX10_distanceOf_0 : decode cX10_distanceOf 0 = .ok (.aload_n 0, 1) := by decide +kernel
theorem dX10_distanceOf_1 : decode cX10_distanceOf 1 = .ok (.invokevirtual 179, 3) := by decide +kernel
theorem dX10_distanceOf_4 : decode cX10_distanceOf 4 = .ok (.aload_n 0, 1) := by decide +kernel
theorem dX10_distanceOf_5 : decode cX10_distanceOf 5 = .ok (.iload_n 2, 1) := by decide +kernel
theorem dX10_distanceOf_6 : decode cX10_distanceOf 6 = .ok (.aload_n 0, 1) := by decide +kernel
theorem dX10_distanceOf_7 : decode cX10_distanceOf 7 = .ok (.invokevirtual 192, 3) := by decide +kernel
theorem dX10_distanceOf_10 : decode cX10_distanceOf 10 = .ok (.invokevirtual 182, 3) := by decide +kernel
theorem dX10_distanceOf_13 : decode cX10_distanceOf 13 = .ok (.pop, 1) := by decide +kernel
theorem dX10_distanceOf_14 : decode cX10_distanceOf 14 = .ok (.aload_n 0, 1) := by decide +kernel
theorem dX10_distanceOf_15 : decode cX10_distanceOf 15 = .ok (.getfield 53, 3) := by decide +kernel
theorem dX10_distanceOf_18 : decode cX10_distanceOf 18 = .ok (.iload_n 1, 1) := by decide +kernel
theorem dX10_distanceOf_19 : decode cX10_distanceOf 19 = .ok (.iaload, 1) := by decide +kernel
theorem dX10_distanceOf_20 : decode cX10_distanceOf 20 = .ok (.ireturn, 1) := by decide +kernel
theorem dX10_distance_0 : decode cX10_distance 0 = .ok (.aload_n 0, 1) := by decide +kernel
theorem dX10_distance_1 : decode cX10_distance 1 = .ok (.aload_n 0, 1) := by decide +kernel
theorem dX10_distance_2 : decode cX10_distance 2 = .ok (.iload_n 1, 1) := by decide +kernel
theorem dX10_distance_3 : decode cX10_distance 3 = .ok (.invokevirtual 114, 3) := by decide +kernel
theorem dX10_distance_6 : decode cX10_distance 6 = .ok (.ifCond .eq 15, 3) := by decide +kernel
theorem dX10_distance_9 : decode cX10_distance 9 = .ok (.aload_n 0, 1) := by decide +kernel
theorem dX10_distance_10 : decode cX10_distance 10 = .ok (.iload_n 2, 1) := by decide +kernel
theorem dX10_distance_11 : decode cX10_distance 11 = .ok (.invokevirtual 114, 3) := by decide +kernel
theorem dX10_distance_14 : decode cX10_distance 14 = .ok (.ifCond .eq 7, 3) := by decide +kernel
theorem dX10_distance_17 : decode cX10_distance 17 = .ok (.iconst 0, 1) := by decide +kernel
theorem dX10_distance_18 : decode cX10_distance 18 = .ok (.goto 4, 3) := by decide +kernel
theorem dX10_distance_21 : decode cX10_distance 21 = .ok (.iconst 1, 1) := by decide +kernel
theorem dX10_distance_22 : decode cX10_distance 22 = .ok (.putfield 72, 3) := by decide +kernel
theorem dX10_distance_25 : decode cX10_distance 25 = .ok (.aload_n 0, 1) := by decide +kernel
theorem dX10_distance_26 : decode cX10_distance 26 = .ok (.getfield 72, 3) := by decide +kernel
theorem dX10_distance_29 : decode cX10_distance 29 = .ok (.ifCond .le 7, 3) := by decide +kernel
theorem dX10_distance_32 : decode cX10_distance 32 = .ok (.iconst 0, 1) := by decide +kernel
theorem dX10_distance_33 : decode cX10_distance 33 = .ok (.goto 9, 3) := by decide +kernel
theorem dX10_distance_36 : decode cX10_distance 36 = .ok (.aload_n 0, 1) := by decide +kernel
theorem dX10_distance_37 : decode cX10_distance 37 = .ok (.iload_n 1, 1) := by decide +kernel
theorem dX10_distance_38 : decode cX10_distance 38 = .ok (.iload_n 2, 1) := by decide +kernel
theorem dX10_distance_39 : decode cX10_distance 39 = .ok (.invokevirtual 198, 3) := by decide +kernel
theorem dX10_distance_42 : decode cX10_distance 42 = .ok (.ireturn, 1) := by decide +kernel
theorem dX10_nearer_0 : decode cX10_nearer 0 = .ok (.iconst (-1), 1) := by decide +kernel
theorem dX10_nearer_1 : decode cX10_nearer 1 = .ok (.istore_n 2, 1) := by decide +kernel
theorem dX10_nearer_2 : decode cX10_nearer 2 = .ok (.iconst 0, 1) := by decide +kernel
theorem dX10_nearer_3 : decode cX10_nearer 3 = .ok (.istore_n 3, 1) := by decide +kernel
theorem dX10_nearer_4 : decode cX10_nearer 4 = .ok (.iload_n 3, 1) := by decide +kernel
theorem dX10_nearer_5 : decode cX10_nearer 5 = .ok (.bipush 14, 2) := by decide +kernel
theorem dX10_nearer_7 : decode cX10_nearer 7 = .ok (.aload_n 0, 1) := by decide +kernel
theorem dX10_nearer_8 : decode cX10_nearer 8 = .ok (.getfield 82, 3) := by decide +kernel
theorem dX10_nearer_11 : decode cX10_nearer 11 = .ok (.imul, 1) := by decide +kernel
theorem dX10_nearer_12 : decode cX10_nearer 12 = .ok (.if_icmp .ge 98, 3) := by decide +kernel
theorem dX10_nearer_15 : decode cX10_nearer 15 = .ok (.aload_n 0, 1) := by decide +kernel
theorem dX10_nearer_16 : decode cX10_nearer 16 = .ok (.iload_n 1, 1) := by decide +kernel
theorem dX10_nearer_17 : decode cX10_nearer 17 = .ok (.iload_n 3, 1) := by decide +kernel
theorem dX10_nearer_18 : decode cX10_nearer 18 = .ok (.bipush 7, 2) := by decide +kernel
theorem dX10_nearer_20 : decode cX10_nearer 20 = .ok (.idiv, 1) := by decide +kernel
theorem dX10_nearer_21 : decode cX10_nearer 21 = .ok (.iload_n 3, 1) := by decide +kernel
theorem dX10_nearer_22 : decode cX10_nearer 22 = .ok (.bipush 7, 2) := by decide +kernel
theorem dX10_nearer_24 : decode cX10_nearer 24 = .ok (.irem, 1) := by decide +kernel
theorem dX10_nearer_25 : decode cX10_nearer 25 = .ok (.invokevirtual 175, 3) := by decide +kernel
theorem dX10_nearer_28 : decode cX10_nearer 28 = .ok (.istore 4, 2) := by decide +kernel
theorem dX10_nearer_30 : decode cX10_nearer 30 = .ok (.iload 4, 2) := by decide +kernel
theorem dX10_nearer_32 : decode cX10_nearer 32 = .ok (.iconst (-1), 1) := by decide +kernel
theorem dX10_nearer_33 : decode cX10_nearer 33 = .ok (.if_icmp .eq 36, 3) := by decide +kernel
theorem dX10_nearer_36 : decode cX10_nearer 36 = .ok (.aload_n 0, 1) := by decide +kernel
theorem dX10_nearer_37 : decode cX10_nearer 37 = .ok (.getfield 53, 3) := by decide +kernel
theorem dX10_nearer_40 : decode cX10_nearer 40 = .ok (.iload 4, 2) := by decide +kernel
theorem dX10_nearer_42 : decode cX10_nearer 42 = .ok (.iaload, 1) := by decide +kernel
theorem dX10_nearer_43 : decode cX10_nearer 43 = .ok (.aload_n 0, 1) := by decide +kernel
theorem dX10_nearer_44 : decode cX10_nearer 44 = .ok (.getfield 53, 3) := by decide +kernel
theorem dX10_nearer_47 : decode cX10_nearer 47 = .ok (.iload_n 1, 1) := by decide +kernel
theorem dX10_nearer_48 : decode cX10_nearer 48 = .ok (.iaload, 1) := by decide +kernel
theorem dX10_nearer_49 : decode cX10_nearer 49 = .ok (.iconst 1, 1) := by decide +kernel
theorem dX10_nearer_50 : decode cX10_nearer 50 = .ok (.isub, 1) := by decide +kernel
theorem dX10_nearer_51 : decode cX10_nearer 51 = .ok (.if_icmp .ne 18, 3) := by decide +kernel
theorem dX10_nearer_54 : decode cX10_nearer 54 = .ok (.iload_n 2, 1) := by decide +kernel
theorem dX10_nearer_55 : decode cX10_nearer 55 = .ok (.iconst (-1), 1) := by decide +kernel
theorem dX10_nearer_56 : decode cX10_nearer 56 = .ok (.if_icmp .eq 9, 3) := by decide +kernel
theorem dX10_nearer_59 : decode cX10_nearer 59 = .ok (.iload 4, 2) := by decide +kernel
theorem dX10_nearer_61 : decode cX10_nearer 61 = .ok (.iload_n 2, 1) := by decide +kernel
theorem dX10_nearer_62 : decode cX10_nearer 62 = .ok (.if_icmp .ge 7, 3) := by decide +kernel
theorem dX10_nearer_65 : decode cX10_nearer 65 = .ok (.iconst 1, 1) := by decide +kernel
theorem dX10_nearer_66 : decode cX10_nearer 66 = .ok (.goto 4, 3) := by decide +kernel
theorem dX10_nearer_69 : decode cX10_nearer 69 = .ok (.iconst 0, 1) := by decide +kernel
theorem dX10_nearer_70 : decode cX10_nearer 70 = .ok (.istore 5, 2) := by decide +kernel
theorem dX10_nearer_72 : decode cX10_nearer 72 = .ok (.iload 5, 2) := by decide +kernel
theorem dX10_nearer_74 : decode cX10_nearer 74 = .ok (.ifCond .eq 8, 3) := by decide +kernel
theorem dX10_nearer_77 : decode cX10_nearer 77 = .ok (.iload 4, 2) := by decide +kernel
theorem dX10_nearer_79 : decode cX10_nearer 79 = .ok (.goto 4, 3) := by decide +kernel
theorem dX10_nearer_82 : decode cX10_nearer 82 = .ok (.iload_n 2, 1) := by decide +kernel
theorem dX10_nearer_83 : decode cX10_nearer 83 = .ok (.istore_n 2, 1) := by decide +kernel
theorem dX10_nearer_84 : decode cX10_nearer 84 = .ok (.aload_n 0, 1) := by decide +kernel
theorem dX10_nearer_85 : decode cX10_nearer 85 = .ok (.iload 5, 2) := by decide +kernel
theorem dX10_nearer_87 : decode cX10_nearer 87 = .ok (.ifCond .eq 10, 3) := by decide +kernel
theorem dX10_nearer_90 : decode cX10_nearer 90 = .ok (.iload_n 3, 1) := by decide +kernel
theorem dX10_nearer_91 : decode cX10_nearer 91 = .ok (.bipush 14, 2) := by decide +kernel
theorem dX10_nearer_93 : decode cX10_nearer 93 = .ok (.idiv, 1) := by decide +kernel
theorem dX10_nearer_94 : decode cX10_nearer 94 = .ok (.goto 7, 3) := by decide +kernel
theorem dX10_nearer_97 : decode cX10_nearer 97 = .ok (.aload_n 0, 1) := by decide +kernel
theorem dX10_nearer_98 : decode cX10_nearer 98 = .ok (.getfield 201, 3) := by decide +kernel
theorem dX10_nearer_101 : decode cX10_nearer 101 = .ok (.putfield 201, 3) := by decide +kernel
theorem dX10_nearer_104 : decode cX10_nearer 104 = .ok (.iinc 3 1, 3) := by decide +kernel
theorem dX10_nearer_107 : decode cX10_nearer 107 = .ok (.goto (-103), 3) := by decide +kernel
theorem dX10_nearer_110 : decode cX10_nearer 110 = .ok (.iload_n 2, 1) := by decide +kernel
theorem dX10_nearer_111 : decode cX10_nearer 111 = .ok (.ireturn, 1) := by decide +kernel
theorem dX10_proof_0 : decode cX10_proof 0 = .ok (.aload_n 0, 1) := by decide +kernel
theorem dX10_proof_1 : decode cX10_proof 1 = .ok (.iload_n 1, 1) := by decide +kernel
theorem dX10_proof_2 : decode cX10_proof 2 = .ok (.invokevirtual 114, 3) := by decide +kernel
theorem dX10_proof_5 : decode cX10_proof 5 = .ok (.ifCond .eq 15, 3) := by decide +kernel
theorem dX10_proof_8 : decode cX10_proof 8 = .ok (.aload_n 0, 1) := by decide +kernel
theorem dX10_proof_9 : decode cX10_proof 9 = .ok (.iload_n 2, 1) := by decide +kernel
theorem dX10_proof_10 : decode cX10_proof 10 = .ok (.invokevirtual 114, 3) := by decide +kernel
theorem dX10_proof_13 : decode cX10_proof 13 = .ok (.ifCond .eq 7, 3) := by decide +kernel
theorem dX10_proof_16 : decode cX10_proof 16 = .ok (.iconst 1, 1) := by decide +kernel
theorem dX10_proof_17 : decode cX10_proof 17 = .ok (.goto 4, 3) := by decide +kernel
theorem dX10_proof_20 : decode cX10_proof 20 = .ok (.iconst 0, 1) := by decide +kernel
theorem dX10_proof_21 : decode cX10_proof 21 = .ok (.istore 5, 2) := by decide +kernel
theorem dX10_proof_23 : decode cX10_proof 23 = .ok (.aload_n 0, 1) := by decide +kernel
theorem dX10_proof_24 : decode cX10_proof 24 = .ok (.iload 5, 2) := by decide +kernel
theorem dX10_proof_26 : decode cX10_proof 26 = .ok (.ifCond .ne 7, 3) := by decide +kernel
theorem dX10_proof_29 : decode cX10_proof 29 = .ok (.iconst 1, 1) := by decide +kernel
theorem dX10_proof_30 : decode cX10_proof 30 = .ok (.goto 38, 3) := by decide +kernel
theorem dX10_proof_33 : decode cX10_proof 33 = .ok (.iload 4, 2) := by decide +kernel
theorem dX10_proof_35 : decode cX10_proof 35 = .ok (.iconst 0, 1) := by decide +kernel
theorem dX10_proof_36 : decode cX10_proof 36 = .ok (.iconst 1, 1) := by decide +kernel
theorem dX10_proof_37 : decode cX10_proof 37 = .ok (.invokestatic 75, 3) := by decide +kernel
theorem dX10_proof_40 : decode cX10_proof 40 = .ok (.ifCond .ne 7, 3) := by decide +kernel
theorem dX10_proof_43 : decode cX10_proof 43 = .ok (.iconst 2, 1) := by decide +kernel
theorem dX10_proof_44 : decode cX10_proof 44 = .ok (.goto 24, 3) := by decide +kernel
theorem dX10_proof_47 : decode cX10_proof 47 = .ok (.iload_n 3, 1) := by decide +kernel
theorem dX10_proof_48 : decode cX10_proof 48 = .ok (.iconst 0, 1) := by decide +kernel
theorem dX10_proof_49 : decode cX10_proof 49 = .ok (.aload_n 0, 1) := by decide +kernel
theorem dX10_proof_50 : decode cX10_proof 50 = .ok (.iload_n 1, 1) := by decide +kernel
theorem dX10_proof_51 : decode cX10_proof 51 = .ok (.iload_n 2, 1) := by decide +kernel
theorem dX10_proof_52 : decode cX10_proof 52 = .ok (.invokevirtual 198, 3) := by decide +kernel
theorem dX10_proof_55 : decode cX10_proof 55 = .ok (.iconst 1, 1) := by decide +kernel
theorem dX10_proof_56 : decode cX10_proof 56 = .ok (.isub, 1) := by decide +kernel
theorem dX10_proof_57 : decode cX10_proof 57 = .ok (.invokestatic 75, 3) := by decide +kernel
theorem dX10_proof_60 : decode cX10_proof 60 = .ok (.ifCond .eq 7, 3) := by decide +kernel
theorem dX10_proof_63 : decode cX10_proof 63 = .ok (.iconst 0, 1) := by decide +kernel
theorem dX10_proof_64 : decode cX10_proof 64 = .ok (.goto 4, 3) := by decide +kernel
theorem dX10_proof_67 : decode cX10_proof 67 = .ok (.iconst 3, 1) := by decide +kernel
theorem dX10_proof_68 : decode cX10_proof 68 = .ok (.putfield 72, 3) := by decide +kernel
theorem dX10_proof_71 : decode cX10_proof 71 = .ok (.aload_n 0, 1) := by decide +kernel
theorem dX10_proof_72 : decode cX10_proof 72 = .ok (.getfield 72, 3) := by decide +kernel
theorem dX10_proof_75 : decode cX10_proof 75 = .ok (.ifCond .le 5, 3) := by decide +kernel
theorem dX10_proof_78 : decode cX10_proof 78 = .ok (.iconst 0, 1) := by decide +kernel
theorem dX10_proof_79 : decode cX10_proof 79 = .ok (.ireturn, 1) := by decide +kernel
theorem dX10_proof_80 : decode cX10_proof 80 = .ok (.iload_n 1, 1) := by decide +kernel
theorem dX10_proof_81 : decode cX10_proof 81 = .ok (.istore 6, 2) := by decide +kernel
theorem dX10_proof_83 : decode cX10_proof 83 = .ok (.iconst 0, 1) := by decide +kernel
theorem dX10_proof_84 : decode cX10_proof 84 = .ok (.istore 7, 2) := by decide +kernel
theorem dX10_proof_86 : decode cX10_proof 86 = .ok (.iload 7, 2) := by decide +kernel
theorem dX10_proof_88 : decode cX10_proof 88 = .ok (.iload_n 3, 1) := by decide +kernel
theorem dX10_proof_89 : decode cX10_proof 89 = .ok (.if_icmp .gt 17, 3) := by decide +kernel
theorem dX10_proof_92 : decode cX10_proof 92 = .ok (.aload_n 0, 1) := by decide +kernel
theorem dX10_proof_93 : decode cX10_proof 93 = .ok (.iload 6, 2) := by decide +kernel
theorem dX10_proof_95 : decode cX10_proof 95 = .ok (.invokevirtual 204, 3) := by decide +kernel
theorem dX10_proof_98 : decode cX10_proof 98 = .ok (.istore 6, 2) := by decide +kernel
theorem dX10_proof_100 : decode cX10_proof 100 = .ok (.iinc 7 1, 3) := by decide +kernel
theorem dX10_proof_103 : decode cX10_proof 103 = .ok (.goto (-17), 3) := by decide +kernel
theorem dX10_proof_106 : decode cX10_proof 106 = .ok (.iload 4, 2) := by decide +kernel
theorem dX10_proof_108 : decode cX10_proof 108 = .ok (.ifCond .ne 8, 3) := by decide +kernel
theorem dX10_proof_111 : decode cX10_proof 111 = .ok (.iload 6, 2) := by decide +kernel
theorem dX10_proof_113 : decode cX10_proof 113 = .ok (.goto 7, 3) := by decide +kernel
theorem dX10_proof_116 : decode cX10_proof 116 = .ok (.aload_n 0, 1) := by decide +kernel
theorem dX10_proof_117 : decode cX10_proof 117 = .ok (.getfield 201, 3) := by decide +kernel
theorem dX10_proof_120 : decode cX10_proof 120 = .ok (.ireturn, 1) := by decide +kernel
theorem dX10_value_0 : decode cX10_value 0 = .ok (.aload_n 0, 1) := by decide +kernel
theorem dX10_value_1 : decode cX10_value 1 = .ok (.getfield 20, 3) := by decide +kernel
theorem dX10_value_4 : decode cX10_value 4 = .ok (.iload_n 1, 1) := by decide +kernel
theorem dX10_value_5 : decode cX10_value 5 = .ok (.iaload, 1) := by decide +kernel
theorem dX10_value_6 : decode cX10_value 6 = .ok (.iconst 2, 1) := by decide +kernel
theorem dX10_value_7 : decode cX10_value 7 = .ok (.iload_n 2, 1) := by decide +kernel
theorem dX10_value_8 : decode cX10_value 8 = .ok (.imul, 1) := by decide +kernel
theorem dX10_value_9 : decode cX10_value 9 = .ok (.ishr, 1) := by decide +kernel
theorem dX10_value_10 : decode cX10_value 10 = .ok (.iconst 3, 1) := by decide +kernel
theorem dX10_value_11 : decode cX10_value 11 = .ok (.iand, 1) := by decide +kernel
theorem dX10_value_12 : decode cX10_value 12 = .ok (.ireturn, 1) := by decide +kernel
theorem dX10_through_0 : decode cX10_through 0 = .ok (.iload_n 2, 1) := by decide +kernel
theorem dX10_through_1 : decode cX10_through 1 = .ok (.istore_n 3, 1) := by decide +kernel
theorem dX10_through_2 : decode cX10_through 2 = .ok (.iconst 0, 1) := by decide +kernel
theorem dX10_through_3 : decode cX10_through 3 = .ok (.istore 4, 2) := by decide +kernel
theorem dX10_through_5 : decode cX10_through 5 = .ok (.iload 4, 2) := by decide +kernel
theorem dX10_through_7 : decode cX10_through 7 = .ok (.aload_n 0, 1) := by decide +kernel
theorem dX10_through_8 : decode cX10_through 8 = .ok (.getfield 44, 3) := by decide +kernel
theorem dX10_through_11 : decode cX10_through 11 = .ok (.iload_n 1, 1) := by decide +kernel
theorem dX10_through_12 : decode cX10_through 12 = .ok (.iaload, 1) := by decide +kernel
theorem dX10_through_13 : decode cX10_through 13 = .ok (.if_icmp .ge 27, 3) := by decide +kernel
theorem dX10_through_16 : decode cX10_through 16 = .ok (.aload_n 0, 1) := by decide +kernel
theorem dX10_through_17 : decode cX10_through 17 = .ok (.aload_n 0, 1) := by decide +kernel
theorem dX10_through_18 : decode cX10_through 18 = .ok (.getfield 47, 3) := by decide +kernel
theorem dX10_through_21 : decode cX10_through 21 = .ok (.bipush 7, 2) := by decide +kernel
theorem dX10_through_23 : decode cX10_through 23 = .ok (.iload_n 1, 1) := by decide +kernel
theorem dX10_through_24 : decode cX10_through 24 = .ok (.imul, 1) := by decide +kernel
theorem dX10_through_25 : decode cX10_through 25 = .ok (.iload 4, 2) := by decide +kernel
theorem dX10_through_27 : decode cX10_through 27 = .ok (.iadd, 1) := by decide +kernel
theorem dX10_through_28 : decode cX10_through 28 = .ok (.iaload, 1) := by decide +kernel
theorem dX10_through_29 : decode cX10_through 29 = .ok (.iload_n 3, 1) := by decide +kernel
theorem dX10_through_30 : decode cX10_through 30 = .ok (.invokevirtual 208, 3) := by decide +kernel
theorem dX10_through_33 : decode cX10_through 33 = .ok (.istore_n 3, 1) := by decide +kernel
theorem dX10_through_34 : decode cX10_through 34 = .ok (.iinc 4 1, 3) := by decide +kernel
theorem dX10_through_37 : decode cX10_through 37 = .ok (.goto (-32), 3) := by decide +kernel
theorem dX10_through_40 : decode cX10_through 40 = .ok (.iload_n 3, 1) := by decide +kernel
theorem dX10_through_41 : decode cX10_through 41 = .ok (.ireturn, 1) := by decide +kernel
theorem dX10_image_0 : decode cX10_image 0 = .ok (.iconst 0, 1) := by decide +kernel
theorem dX10_image_1 : decode cX10_image 1 = .ok (.istore_n 2, 1) := by decide +kernel
theorem dX10_image_2 : decode cX10_image 2 = .ok (.iconst 0, 1) := by decide +kernel
theorem dX10_image_3 : decode cX10_image 3 = .ok (.istore_n 3, 1) := by decide +kernel
theorem dX10_image_4 : decode cX10_image 4 = .ok (.iload_n 3, 1) := by decide +kernel
theorem dX10_image_5 : decode cX10_image 5 = .ok (.aload_n 0, 1) := by decide +kernel
theorem dX10_image_6 : decode cX10_image 6 = .ok (.getfield 23, 3) := by decide +kernel
theorem dX10_image_9 : decode cX10_image 9 = .ok (.aload_n 0, 1) := by decide +kernel
theorem dX10_image_10 : decode cX10_image 10 = .ok (.getfield 38, 3) := by decide +kernel
theorem dX10_image_13 : decode cX10_image 13 = .ok (.iload_n 1, 1) := by decide +kernel
theorem dX10_image_14 : decode cX10_image 14 = .ok (.iaload, 1) := by decide +kernel
theorem dX10_image_15 : decode cX10_image 15 = .ok (.iaload, 1) := by decide +kernel
theorem dX10_image_16 : decode cX10_image 16 = .ok (.if_icmp .ge 20, 3) := by decide +kernel
theorem dX10_image_19 : decode cX10_image 19 = .ok (.iload_n 2, 1) := by decide +kernel
theorem dX10_image_20 : decode cX10_image 20 = .ok (.iconst 1, 1) := by decide +kernel
theorem dX10_image_21 : decode cX10_image 21 = .ok (.aload_n 0, 1) := by decide +kernel
theorem dX10_image_22 : decode cX10_image 22 = .ok (.iload_n 1, 1) := by decide +kernel
theorem dX10_image_23 : decode cX10_image 23 = .ok (.iload_n 3, 1) := by decide +kernel
theorem dX10_image_24 : decode cX10_image 24 = .ok (.invokevirtual 211, 3) := by decide +kernel
theorem dX10_image_27 : decode cX10_image 27 = .ok (.ishl, 1) := by decide +kernel
theorem dX10_image_28 : decode cX10_image 28 = .ok (.ior, 1) := by decide +kernel
theorem dX10_image_29 : decode cX10_image 29 = .ok (.istore_n 2, 1) := by decide +kernel
theorem dX10_image_30 : decode cX10_image 30 = .ok (.iinc 3 1, 3) := by decide +kernel
theorem dX10_image_33 : decode cX10_image 33 = .ok (.goto (-29), 3) := by decide +kernel
theorem dX10_image_36 : decode cX10_image 36 = .ok (.iload_n 2, 1) := by decide +kernel
theorem dX10_image_37 : decode cX10_image 37 = .ok (.iconst 1, 1) := by decide +kernel
theorem dX10_image_38 : decode cX10_image 38 = .ok (.iand, 1) := by decide +kernel
theorem dX10_image_39 : decode cX10_image 39 = .ok (.iload_n 2, 1) := by decide +kernel
theorem dX10_image_40 : decode cX10_image 40 = .ok (.iconst 1, 1) := by decide +kernel
theorem dX10_image_41 : decode cX10_image 41 = .ok (.ishr, 1) := by decide +kernel
theorem dX10_image_42 : decode cX10_image 42 = .ok (.iconst 1, 1) := by decide +kernel
theorem dX10_image_43 : decode cX10_image 43 = .ok (.iand, 1) := by decide +kernel
theorem dX10_image_44 : decode cX10_image 44 = .ok (.iadd, 1) := by decide +kernel
theorem dX10_image_45 : decode cX10_image 45 = .ok (.iload_n 2, 1) := by decide +kernel
theorem dX10_image_46 : decode cX10_image 46 = .ok (.iconst 2, 1) := by decide +kernel
theorem dX10_image_47 : decode cX10_image 47 = .ok (.ishr, 1) := by decide +kernel
theorem dX10_image_48 : decode cX10_image 48 = .ok (.iconst 1, 1) := by decide +kernel
theorem dX10_image_49 : decode cX10_image 49 = .ok (.iand, 1) := by decide +kernel
theorem dX10_image_50 : decode cX10_image 50 = .ok (.iadd, 1) := by decide +kernel
theorem dX10_image_51 : decode cX10_image 51 = .ok (.iload_n 2, 1) := by decide +kernel
theorem dX10_image_52 : decode cX10_image 52 = .ok (.iconst 3, 1) := by decide +kernel
theorem dX10_image_53 : decode cX10_image 53 = .ok (.ishr, 1) := by decide +kernel
theorem dX10_image_54 : decode cX10_image 54 = .ok (.iconst 1, 1) := by decide +kernel
theorem dX10_image_55 : decode cX10_image 55 = .ok (.iand, 1) := by decide +kernel
theorem dX10_image_56 : decode cX10_image 56 = .ok (.iadd, 1) := by decide +kernel
theorem dX10_image_57 : decode cX10_image 57 = .ok (.ireturn, 1) := by decide +kernel
theorem dX10_areAlike_0 : decode cX10_areAlike 0 = .ok (.iconst 1, 1) := by decide +kernel
theorem dX10_areAlike_1 : decode cX10_areAlike 1 = .ok (.istore_n 3, 1) := by decide +kernel
theorem dX10_areAlike_2 : decode cX10_areAlike 2 = .ok (.iconst 0, 1) := by decide +kernel
theorem dX10_areAlike_3 : decode cX10_areAlike 3 = .ok (.istore 4, 2) := by decide +kernel
theorem dX10_areAlike_5 : decode cX10_areAlike 5 = .ok (.iload 4, 2) := by decide +kernel
theorem dX10_areAlike_7 : decode cX10_areAlike 7 = .ok (.aload_n 0, 1) := by decide +kernel
theorem dX10_areAlike_8 : decode cX10_areAlike 8 = .ok (.getfield 23, 3) := by decide +kernel
theorem dX10_areAlike_11 : decode cX10_areAlike 11 = .ok (.aload_n 0, 1) := by decide +kernel
theorem dX10_areAlike_12 : decode cX10_areAlike 12 = .ok (.getfield 38, 3) := by decide +kernel
theorem dX10_areAlike_15 : decode cX10_areAlike 15 = .ok (.iload_n 1, 1) := by decide +kernel
theorem dX10_areAlike_16 : decode cX10_areAlike 16 = .ok (.iaload, 1) := by decide +kernel
theorem dX10_areAlike_17 : decode cX10_areAlike 17 = .ok (.iaload, 1) := by decide +kernel
theorem dX10_areAlike_18 : decode cX10_areAlike 18 = .ok (.if_icmp .ge 36, 3) := by decide +kernel
theorem dX10_areAlike_21 : decode cX10_areAlike 21 = .ok (.iload_n 3, 1) := by decide +kernel
theorem dX10_areAlike_22 : decode cX10_areAlike 22 = .ok (.ifCond .eq 24, 3) := by decide +kernel
theorem dX10_areAlike_25 : decode cX10_areAlike 25 = .ok (.aload_n 0, 1) := by decide +kernel
theorem dX10_areAlike_26 : decode cX10_areAlike 26 = .ok (.iload_n 1, 1) := by decide +kernel
theorem dX10_areAlike_27 : decode cX10_areAlike 27 = .ok (.iload 4, 2) := by decide +kernel
theorem dX10_areAlike_29 : decode cX10_areAlike 29 = .ok (.invokevirtual 211, 3) := by decide +kernel
theorem dX10_areAlike_32 : decode cX10_areAlike 32 = .ok (.aload_n 0, 1) := by decide +kernel
theorem dX10_areAlike_33 : decode cX10_areAlike 33 = .ok (.iload_n 2, 1) := by decide +kernel
theorem dX10_areAlike_34 : decode cX10_areAlike 34 = .ok (.iload 4, 2) := by decide +kernel
theorem dX10_areAlike_36 : decode cX10_areAlike 36 = .ok (.invokevirtual 211, 3) := by decide +kernel
theorem dX10_areAlike_39 : decode cX10_areAlike 39 = .ok (.if_icmp .ne 7, 3) := by decide +kernel
theorem dX10_areAlike_42 : decode cX10_areAlike 42 = .ok (.iconst 1, 1) := by decide +kernel
theorem dX10_areAlike_43 : decode cX10_areAlike 43 = .ok (.goto 4, 3) := by decide +kernel
theorem dX10_areAlike_46 : decode cX10_areAlike 46 = .ok (.iconst 0, 1) := by decide +kernel
theorem dX10_areAlike_47 : decode cX10_areAlike 47 = .ok (.istore_n 3, 1) := by decide +kernel
theorem dX10_areAlike_48 : decode cX10_areAlike 48 = .ok (.iinc 4 1, 3) := by decide +kernel
theorem dX10_areAlike_51 : decode cX10_areAlike 51 = .ok (.goto (-46), 3) := by decide +kernel
theorem dX10_areAlike_54 : decode cX10_areAlike 54 = .ok (.iload_n 3, 1) := by decide +kernel
theorem dX10_areAlike_55 : decode cX10_areAlike 55 = .ok (.ireturn, 1) := by decide +kernel
theorem dX10_holds_0 : decode cX10_holds 0 = .ok (.aload_n 0, 1) := by decide +kernel
theorem dX10_holds_1 : decode cX10_holds 1 = .ok (.aload_n 0, 1) := by decide +kernel
theorem dX10_holds_2 : decode cX10_holds 2 = .ok (.iload_n 1, 1) := by decide +kernel
theorem dX10_holds_3 : decode cX10_holds 3 = .ok (.iconst 0, 1) := by decide +kernel
theorem dX10_holds_4 : decode cX10_holds 4 = .ok (.invokevirtual 186, 3) := by decide +kernel
theorem dX10_holds_7 : decode cX10_holds 7 = .ok (.aload_n 0, 1) := by decide +kernel
theorem dX10_holds_8 : decode cX10_holds 8 = .ok (.iload_n 1, 1) := by decide +kernel
theorem dX10_holds_9 : decode cX10_holds 9 = .ok (.iconst 1, 1) := by decide +kernel
theorem dX10_holds_10 : decode cX10_holds 10 = .ok (.invokevirtual 186, 3) := by decide +kernel
theorem dX10_holds_13 : decode cX10_holds 13 = .ok (.invokevirtual 214, 3) := by decide +kernel
theorem dX10_holds_16 : decode cX10_holds 16 = .ok (.ireturn, 1) := by decide +kernel
theorem dX10_classSize_0 : decode cX10_classSize 0 = .ok (.iconst 0, 1) := by decide +kernel
theorem dX10_classSize_1 : decode cX10_classSize 1 = .ok (.istore_n 2, 1) := by decide +kernel
theorem dX10_classSize_2 : decode cX10_classSize 2 = .ok (.iconst 0, 1) := by decide +kernel
theorem dX10_classSize_3 : decode cX10_classSize 3 = .ok (.istore_n 3, 1) := by decide +kernel
theorem dX10_classSize_4 : decode cX10_classSize 4 = .ok (.iload_n 3, 1) := by decide +kernel
theorem dX10_classSize_5 : decode cX10_classSize 5 = .ok (.aload_n 0, 1) := by decide +kernel
theorem dX10_classSize_6 : decode cX10_classSize 6 = .ok (.getfield 89, 3) := by decide +kernel
theorem dX10_classSize_9 : decode cX10_classSize 9 = .ok (.if_icmp .ge 27, 3) := by decide +kernel
theorem dX10_classSize_12 : decode cX10_classSize 12 = .ok (.iload_n 2, 1) := by decide +kernel
theorem dX10_classSize_13 : decode cX10_classSize 13 = .ok (.aload_n 0, 1) := by decide +kernel
theorem dX10_classSize_14 : decode cX10_classSize 14 = .ok (.getfield 56, 3) := by decide +kernel
theorem dX10_classSize_17 : decode cX10_classSize 17 = .ok (.iload_n 3, 1) := by decide +kernel
theorem dX10_classSize_18 : decode cX10_classSize 18 = .ok (.iaload, 1) := by decide +kernel
theorem dX10_classSize_19 : decode cX10_classSize 19 = .ok (.iload_n 1, 1) := by decide +kernel
theorem dX10_classSize_20 : decode cX10_classSize 20 = .ok (.if_icmp .ne 7, 3) := by decide +kernel
theorem dX10_classSize_23 : decode cX10_classSize 23 = .ok (.iconst 1, 1) := by decide +kernel
theorem dX10_classSize_24 : decode cX10_classSize 24 = .ok (.goto 4, 3) := by decide +kernel
theorem dX10_classSize_27 : decode cX10_classSize 27 = .ok (.iconst 0, 1) := by decide +kernel
theorem dX10_classSize_28 : decode cX10_classSize 28 = .ok (.iadd, 1) := by decide +kernel
theorem dX10_classSize_29 : decode cX10_classSize 29 = .ok (.istore_n 2, 1) := by decide +kernel
theorem dX10_classSize_30 : decode cX10_classSize 30 = .ok (.iinc 3 1, 3) := by decide +kernel
theorem dX10_classSize_33 : decode cX10_classSize 33 = .ok (.goto (-29), 3) := by decide +kernel
theorem dX10_classSize_36 : decode cX10_classSize 36 = .ok (.iload_n 2, 1) := by decide +kernel
theorem dX10_classSize_37 : decode cX10_classSize 37 = .ok (.ireturn, 1) := by decide +kernel
theorem dX10_pathNow_0 : decode cX10_pathNow 0 = .ok (.iload_n 2, 1) := by decide +kernel
theorem dX10_pathNow_1 : decode cX10_pathNow 1 = .ok (.tableswitch 84 0 5 #[39, 46, 53, 60, 67, 78], 39) := by decide +kernel
theorem dX10_pathNow_40 : decode cX10_pathNow 40 = .ok (.aload_n 0, 1) := by decide +kernel
theorem dX10_pathNow_41 : decode cX10_pathNow 41 = .ok (.getfield 38, 3) := by decide +kernel
theorem dX10_pathNow_44 : decode cX10_pathNow 44 = .ok (.iload_n 1, 1) := by decide +kernel
theorem dX10_pathNow_45 : decode cX10_pathNow 45 = .ok (.iaload, 1) := by decide +kernel
theorem dX10_pathNow_46 : decode cX10_pathNow 46 = .ok (.ireturn, 1) := by decide +kernel
theorem dX10_pathNow_47 : decode cX10_pathNow 47 = .ok (.aload_n 0, 1) := by decide +kernel
theorem dX10_pathNow_48 : decode cX10_pathNow 48 = .ok (.getfield 41, 3) := by decide +kernel
theorem dX10_pathNow_51 : decode cX10_pathNow 51 = .ok (.iload_n 1, 1) := by decide +kernel
theorem dX10_pathNow_52 : decode cX10_pathNow 52 = .ok (.iaload, 1) := by decide +kernel
theorem dX10_pathNow_53 : decode cX10_pathNow 53 = .ok (.ireturn, 1) := by decide +kernel
theorem dX10_pathNow_54 : decode cX10_pathNow 54 = .ok (.aload_n 0, 1) := by decide +kernel
theorem dX10_pathNow_55 : decode cX10_pathNow 55 = .ok (.getfield 44, 3) := by decide +kernel
theorem dX10_pathNow_58 : decode cX10_pathNow 58 = .ok (.iload_n 1, 1) := by decide +kernel
theorem dX10_pathNow_59 : decode cX10_pathNow 59 = .ok (.iaload, 1) := by decide +kernel
theorem dX10_pathNow_60 : decode cX10_pathNow 60 = .ok (.ireturn, 1) := by decide +kernel
theorem dX10_pathNow_61 : decode cX10_pathNow 61 = .ok (.aload_n 0, 1) := by decide +kernel
theorem dX10_pathNow_62 : decode cX10_pathNow 62 = .ok (.getfield 56, 3) := by decide +kernel
theorem dX10_pathNow_65 : decode cX10_pathNow 65 = .ok (.iload_n 1, 1) := by decide +kernel
theorem dX10_pathNow_66 : decode cX10_pathNow 66 = .ok (.iaload, 1) := by decide +kernel
theorem dX10_pathNow_67 : decode cX10_pathNow 67 = .ok (.ireturn, 1) := by decide +kernel
theorem dX10_pathNow_68 : decode cX10_pathNow 68 = .ok (.aload_n 0, 1) := by decide +kernel
theorem dX10_pathNow_69 : decode cX10_pathNow 69 = .ok (.aload_n 0, 1) := by decide +kernel
theorem dX10_pathNow_70 : decode cX10_pathNow 70 = .ok (.getfield 56, 3) := by decide +kernel
theorem dX10_pathNow_73 : decode cX10_pathNow 73 = .ok (.iload_n 1, 1) := by decide +kernel
theorem dX10_pathNow_74 : decode cX10_pathNow 74 = .ok (.iaload, 1) := by decide +kernel
theorem dX10_pathNow_75 : decode cX10_pathNow 75 = .ok (.invokevirtual 217, 3) := by decide +kernel
theorem dX10_pathNow_78 : decode cX10_pathNow 78 = .ok (.ireturn, 1) := by decide +kernel
theorem dX10_pathNow_79 : decode cX10_pathNow 79 = .ok (.aload_n 0, 1) := by decide +kernel
theorem dX10_pathNow_80 : decode cX10_pathNow 80 = .ok (.iload_n 1, 1) := by decide +kernel
theorem dX10_pathNow_81 : decode cX10_pathNow 81 = .ok (.invokevirtual 220, 3) := by decide +kernel
theorem dX10_pathNow_84 : decode cX10_pathNow 84 = .ok (.ireturn, 1) := by decide +kernel
theorem dX10_pathNow_85 : decode cX10_pathNow 85 = .ok (.aload_n 0, 1) := by decide +kernel
theorem dX10_pathNow_86 : decode cX10_pathNow 86 = .ok (.iload_n 1, 1) := by decide +kernel
theorem dX10_pathNow_87 : decode cX10_pathNow 87 = .ok (.invokevirtual 220, 3) := by decide +kernel
theorem dX10_pathNow_90 : decode cX10_pathNow 90 = .ok (.aload_n 0, 1) := by decide +kernel
theorem dX10_pathNow_91 : decode cX10_pathNow 91 = .ok (.getfield 23, 3) := by decide +kernel
theorem dX10_pathNow_94 : decode cX10_pathNow 94 = .ok (.aload_n 0, 1) := by decide +kernel
theorem dX10_pathNow_95 : decode cX10_pathNow 95 = .ok (.getfield 38, 3) := by decide +kernel
theorem dX10_pathNow_98 : decode cX10_pathNow 98 = .ok (.iload_n 1, 1) := by decide +kernel
theorem dX10_pathNow_99 : decode cX10_pathNow 99 = .ok (.iaload, 1) := by decide +kernel
theorem dX10_pathNow_100 : decode cX10_pathNow 100 = .ok (.iaload, 1) := by decide +kernel
theorem dX10_pathNow_101 : decode cX10_pathNow 101 = .ok (.if_icmp .ne 7, 3) := by decide +kernel
theorem dX10_pathNow_104 : decode cX10_pathNow 104 = .ok (.iconst 1, 1) := by decide +kernel
theorem dX10_pathNow_105 : decode cX10_pathNow 105 = .ok (.goto 4, 3) := by decide +kernel
theorem dX10_pathNow_108 : decode cX10_pathNow 108 = .ok (.iconst 0, 1) := by decide +kernel
theorem dX10_pathNow_109 : decode cX10_pathNow 109 = .ok (.ireturn, 1) := by decide +kernel
theorem dX10_path_0 : decode cX10_path 0 = .ok (.aload_n 0, 1) := by decide +kernel
theorem dX10_path_1 : decode cX10_path 1 = .ok (.aload_n 0, 1) := by decide +kernel
theorem dX10_path_2 : decode cX10_path 2 = .ok (.iload_n 1, 1) := by decide +kernel
theorem dX10_path_3 : decode cX10_path 3 = .ok (.invokevirtual 114, 3) := by decide +kernel
theorem dX10_path_6 : decode cX10_path 6 = .ok (.ifCond .ne 7, 3) := by decide +kernel
theorem dX10_path_9 : decode cX10_path 9 = .ok (.iconst 1, 1) := by decide +kernel
theorem dX10_path_10 : decode cX10_path 10 = .ok (.goto 18, 3) := by decide +kernel
theorem dX10_path_13 : decode cX10_path 13 = .ok (.iload_n 2, 1) := by decide +kernel
theorem dX10_path_14 : decode cX10_path 14 = .ok (.iconst 0, 1) := by decide +kernel
theorem dX10_path_15 : decode cX10_path 15 = .ok (.bipush 6, 2) := by decide +kernel
theorem dX10_path_17 : decode cX10_path 17 = .ok (.invokestatic 75, 3) := by decide +kernel
theorem dX10_path_20 : decode cX10_path 20 = .ok (.ifCond .eq 7, 3) := by decide +kernel
theorem dX10_path_23 : decode cX10_path 23 = .ok (.iconst 0, 1) := by decide +kernel
theorem dX10_path_24 : decode cX10_path 24 = .ok (.goto 4, 3) := by decide +kernel
theorem dX10_path_27 : decode cX10_path 27 = .ok (.iconst 2, 1) := by decide +kernel
theorem dX10_path_28 : decode cX10_path 28 = .ok (.putfield 72, 3) := by decide +kernel
theorem dX10_path_31 : decode cX10_path 31 = .ok (.aload_n 0, 1) := by decide +kernel
theorem dX10_path_32 : decode cX10_path 32 = .ok (.getfield 72, 3) := by decide +kernel
theorem dX10_path_35 : decode cX10_path 35 = .ok (.ifCond .le 5, 3) := by decide +kernel
theorem dX10_path_38 : decode cX10_path 38 = .ok (.iconst 0, 1) := by decide +kernel
theorem dX10_path_39 : decode cX10_path 39 = .ok (.ireturn, 1) := by decide +kernel
theorem dX10_path_40 : decode cX10_path 40 = .ok (.aload_n 0, 1) := by decide +kernel
theorem dX10_path_41 : decode cX10_path 41 = .ok (.aload_n 0, 1) := by decide +kernel
theorem dX10_path_42 : decode cX10_path 42 = .ok (.invokevirtual 192, 3) := by decide +kernel
theorem dX10_path_45 : decode cX10_path 45 = .ok (.invokevirtual 223, 3) := by decide +kernel
theorem dX10_path_48 : decode cX10_path 48 = .ok (.pop, 1) := by decide +kernel
theorem dX10_path_49 : decode cX10_path 49 = .ok (.aload_n 0, 1) := by decide +kernel
theorem dX10_path_50 : decode cX10_path 50 = .ok (.iload_n 1, 1) := by decide +kernel
theorem dX10_path_51 : decode cX10_path 51 = .ok (.iload_n 2, 1) := by decide +kernel
theorem dX10_path_52 : decode cX10_path 52 = .ok (.invokevirtual 226, 3) := by decide +kernel
theorem dX10_path_55 : decode cX10_path 55 = .ok (.ireturn, 1) := by decide +kernel
theorem dX10_arrowOf_0 : decode cX10_arrowOf 0 = .ok (.aload_n 0, 1) := by decide +kernel
theorem dX10_arrowOf_1 : decode cX10_arrowOf 1 = .ok (.aload_n 0, 1) := by decide +kernel
theorem dX10_arrowOf_2 : decode cX10_arrowOf 2 = .ok (.iload_n 1, 1) := by decide +kernel
theorem dX10_arrowOf_3 : decode cX10_arrowOf 3 = .ok (.invokevirtual 114, 3) := by decide +kernel
theorem dX10_arrowOf_6 : decode cX10_arrowOf 6 = .ok (.ifCond .eq 23, 3) := by decide +kernel
theorem dX10_arrowOf_9 : decode cX10_arrowOf 9 = .ok (.iload_n 2, 1) := by decide +kernel
theorem dX10_arrowOf_10 : decode cX10_arrowOf 10 = .ok (.iconst 0, 1) := by decide +kernel
theorem dX10_arrowOf_11 : decode cX10_arrowOf 11 = .ok (.aload_n 0, 1) := by decide +kernel
theorem dX10_arrowOf_12 : decode cX10_arrowOf 12 = .ok (.getfield 44, 3) := by decide +kernel
theorem dX10_arrowOf_15 : decode cX10_arrowOf 15 = .ok (.iload_n 1, 1) := by decide +kernel
theorem dX10_arrowOf_16 : decode cX10_arrowOf 16 = .ok (.iaload, 1) := by decide +kernel
theorem dX10_arrowOf_17 : decode cX10_arrowOf 17 = .ok (.iconst 1, 1) := by decide +kernel
theorem dX10_arrowOf_18 : decode cX10_arrowOf 18 = .ok (.isub, 1) := by decide +kernel
theorem dX10_arrowOf_19 : decode cX10_arrowOf 19 = .ok (.invokestatic 75, 3) := by decide +kernel
theorem dX10_arrowOf_22 : decode cX10_arrowOf 22 = .ok (.ifCond .eq 7, 3) := by decide +kernel
theorem dX10_arrowOf_25 : decode cX10_arrowOf 25 = .ok (.iconst 0, 1) := by decide +kernel
theorem dX10_arrowOf_26 : decode cX10_arrowOf 26 = .ok (.goto 4, 3) := by decide +kernel
theorem dX10_arrowOf_29 : decode cX10_arrowOf 29 = .ok (.iconst 1, 1) := by decide +kernel
theorem dX10_arrowOf_30 : decode cX10_arrowOf 30 = .ok (.putfield 72, 3) := by decide +kernel
theorem dX10_arrowOf_33 : decode cX10_arrowOf 33 = .ok (.aload_n 0, 1) := by decide +kernel
theorem dX10_arrowOf_34 : decode cX10_arrowOf 34 = .ok (.getfield 72, 3) := by decide +kernel
theorem dX10_arrowOf_37 : decode cX10_arrowOf 37 = .ok (.ifCond .le 7, 3) := by decide +kernel
theorem dX10_arrowOf_40 : decode cX10_arrowOf 40 = .ok (.iconst 0, 1) := by decide +kernel
theorem dX10_arrowOf_41 : decode cX10_arrowOf 41 = .ok (.goto 14, 3) := by decide +kernel
theorem dX10_arrowOf_44 : decode cX10_arrowOf 44 = .ok (.aload_n 0, 1) := by decide +kernel
theorem dX10_arrowOf_45 : decode cX10_arrowOf 45 = .ok (.getfield 47, 3) := by decide +kernel
theorem dX10_arrowOf_48 : decode cX10_arrowOf 48 = .ok (.bipush 7, 2) := by decide +kernel
theorem dX10_arrowOf_50 : decode cX10_arrowOf 50 = .ok (.iload_n 1, 1) := by decide +kernel
theorem dX10_arrowOf_51 : decode cX10_arrowOf 51 = .ok (.imul, 1) := by decide +kernel
theorem dX10_arrowOf_52 : decode cX10_arrowOf 52 = .ok (.iload_n 2, 1) := by decide +kernel
theorem dX10_arrowOf_53 : decode cX10_arrowOf 53 = .ok (.iadd, 1) := by decide +kernel
theorem dX10_arrowOf_54 : decode cX10_arrowOf 54 = .ok (.iaload, 1) := by decide +kernel
theorem dX10_arrowOf_55 : decode cX10_arrowOf 55 = .ok (.ireturn, 1) := by decide +kernel
theorem dX10_counted_0 : decode cX10_counted 0 = .ok (.iconst 0, 1) := by decide +kernel
theorem dX10_counted_1 : decode cX10_counted 1 = .ok (.istore 4, 2) := by decide +kernel
theorem dX10_counted_3 : decode cX10_counted 3 = .ok (.iconst 0, 1) := by decide +kernel
theorem dX10_counted_4 : decode cX10_counted 4 = .ok (.istore 5, 2) := by decide +kernel
theorem dX10_counted_6 : decode cX10_counted 6 = .ok (.iload 5, 2) := by decide +kernel
theorem dX10_counted_8 : decode cX10_counted 8 = .ok (.aload_n 0, 1) := by decide +kernel
theorem dX10_counted_9 : decode cX10_counted 9 = .ok (.getfield 89, 3) := by decide +kernel
theorem dX10_counted_12 : decode cX10_counted 12 = .ok (.if_icmp .ge 57, 3) := by decide +kernel
theorem dX10_counted_15 : decode cX10_counted 15 = .ok (.iload 4, 2) := by decide +kernel
theorem dX10_counted_17 : decode cX10_counted 17 = .ok (.aload_n 0, 1) := by decide +kernel
theorem dX10_counted_18 : decode cX10_counted 18 = .ok (.getfield 38, 3) := by decide +kernel
theorem dX10_counted_21 : decode cX10_counted 21 = .ok (.iload 5, 2) := by decide +kernel
theorem dX10_counted_23 : decode cX10_counted 23 = .ok (.iaload, 1) := by decide +kernel
theorem dX10_counted_24 : decode cX10_counted 24 = .ok (.iload_n 1, 1) := by decide +kernel
theorem dX10_counted_25 : decode cX10_counted 25 = .ok (.if_icmp .ne 34, 3) := by decide +kernel
theorem dX10_counted_28 : decode cX10_counted 28 = .ok (.aload_n 0, 1) := by decide +kernel
theorem dX10_counted_29 : decode cX10_counted 29 = .ok (.getfield 41, 3) := by decide +kernel
theorem dX10_counted_32 : decode cX10_counted 32 = .ok (.iload 5, 2) := by decide +kernel
theorem dX10_counted_34 : decode cX10_counted 34 = .ok (.iaload, 1) := by decide +kernel
theorem dX10_counted_35 : decode cX10_counted 35 = .ok (.iload_n 2, 1) := by decide +kernel
theorem dX10_counted_36 : decode cX10_counted 36 = .ok (.if_icmp .ne 23, 3) := by decide +kernel
theorem dX10_counted_39 : decode cX10_counted 39 = .ok (.iload_n 3, 1) := by decide +kernel
theorem dX10_counted_40 : decode cX10_counted 40 = .ok (.ifCond .eq 15, 3) := by decide +kernel
theorem dX10_counted_43 : decode cX10_counted 43 = .ok (.aload_n 0, 1) := by decide +kernel
theorem dX10_counted_44 : decode cX10_counted 44 = .ok (.getfield 56, 3) := by decide +kernel
theorem dX10_counted_47 : decode cX10_counted 47 = .ok (.iload 5, 2) := by decide +kernel
theorem dX10_counted_49 : decode cX10_counted 49 = .ok (.iaload, 1) := by decide +kernel
theorem dX10_counted_50 : decode cX10_counted 50 = .ok (.iload 5, 2) := by decide +kernel
theorem dX10_counted_52 : decode cX10_counted 52 = .ok (.if_icmp .ne 7, 3) := by decide +kernel
theorem dX10_counted_55 : decode cX10_counted 55 = .ok (.iconst 1, 1) := by decide +kernel
theorem dX10_counted_56 : decode cX10_counted 56 = .ok (.goto 4, 3) := by decide +kernel
theorem dX10_counted_59 : decode cX10_counted 59 = .ok (.iconst 0, 1) := by decide +kernel
theorem dX10_counted_60 : decode cX10_counted 60 = .ok (.iadd, 1) := by decide +kernel
theorem dX10_counted_61 : decode cX10_counted 61 = .ok (.istore 4, 2) := by decide +kernel
theorem dX10_counted_63 : decode cX10_counted 63 = .ok (.iinc 5 1, 3) := by decide +kernel
theorem dX10_counted_66 : decode cX10_counted 66 = .ok (.goto (-60), 3) := by decide +kernel
theorem dX10_counted_69 : decode cX10_counted 69 = .ok (.iload 4, 2) := by decide +kernel
theorem dX10_counted_71 : decode cX10_counted 71 = .ok (.ireturn, 1) := by decide +kernel
theorem dX10_between_0 : decode cX10_between 0 = .ok (.aload_n 0, 1) := by decide +kernel
theorem dX10_between_1 : decode cX10_between 1 = .ok (.aload_n 0, 1) := by decide +kernel
theorem dX10_between_2 : decode cX10_between 2 = .ok (.iload_n 1, 1) := by decide +kernel
theorem dX10_between_3 : decode cX10_between 3 = .ok (.invokevirtual 100, 3) := by decide +kernel
theorem dX10_between_6 : decode cX10_between 6 = .ok (.ifCond .eq 15, 3) := by decide +kernel
theorem dX10_between_9 : decode cX10_between 9 = .ok (.aload_n 0, 1) := by decide +kernel
theorem dX10_between_10 : decode cX10_between 10 = .ok (.iload_n 2, 1) := by decide +kernel
theorem dX10_between_11 : decode cX10_between 11 = .ok (.invokevirtual 100, 3) := by decide +kernel
theorem dX10_between_14 : decode cX10_between 14 = .ok (.ifCond .eq 7, 3) := by decide +kernel
theorem dX10_between_17 : decode cX10_between 17 = .ok (.iconst 0, 1) := by decide +kernel
theorem dX10_between_18 : decode cX10_between 18 = .ok (.goto 4, 3) := by decide +kernel
theorem dX10_between_21 : decode cX10_between 21 = .ok (.iconst 1, 1) := by decide +kernel
theorem dX10_between_22 : decode cX10_between 22 = .ok (.putfield 72, 3) := by decide +kernel
theorem dX10_between_25 : decode cX10_between 25 = .ok (.aload_n 0, 1) := by decide +kernel
theorem dX10_between_26 : decode cX10_between 26 = .ok (.getfield 72, 3) := by decide +kernel
theorem dX10_between_29 : decode cX10_between 29 = .ok (.ifCond .le 5, 3) := by decide +kernel
theorem dX10_between_32 : decode cX10_between 32 = .ok (.iconst 0, 1) := by decide +kernel
theorem dX10_between_33 : decode cX10_between 33 = .ok (.ireturn, 1) := by decide +kernel
theorem dX10_between_34 : decode cX10_between 34 = .ok (.aload_n 0, 1) := by decide +kernel
theorem dX10_between_35 : decode cX10_between 35 = .ok (.aload_n 0, 1) := by decide +kernel
theorem dX10_between_36 : decode cX10_between 36 = .ok (.invokevirtual 192, 3) := by decide +kernel
theorem dX10_between_39 : decode cX10_between 39 = .ok (.invokevirtual 223, 3) := by decide +kernel
theorem dX10_between_42 : decode cX10_between 42 = .ok (.pop, 1) := by decide +kernel
theorem dX10_between_43 : decode cX10_between 43 = .ok (.aload_n 0, 1) := by decide +kernel
theorem dX10_between_44 : decode cX10_between 44 = .ok (.iload_n 1, 1) := by decide +kernel
theorem dX10_between_45 : decode cX10_between 45 = .ok (.iload_n 2, 1) := by decide +kernel
theorem dX10_between_46 : decode cX10_between 46 = .ok (.iload_n 3, 1) := by decide +kernel
theorem dX10_between_47 : decode cX10_between 47 = .ok (.invokevirtual 229, 3) := by decide +kernel
theorem dX10_between_50 : decode cX10_between 50 = .ok (.ireturn, 1) := by decide +kernel
theorem dX10_cellNow_0 : decode cX10_cellNow 0 = .ok (.iload_n 2, 1) := by decide +kernel
theorem dX10_cellNow_1 : decode cX10_cellNow 1 = .ok (.tableswitch 65 0 3 #[31, 31, 38, 56], 31) := by decide +kernel
theorem dX10_cellNow_32 : decode cX10_cellNow 32 = .ok (.aload_n 0, 1) := by decide +kernel
theorem dX10_cellNow_33 : decode cX10_cellNow 33 = .ok (.iload_n 1, 1) := by decide +kernel
theorem dX10_cellNow_34 : decode cX10_cellNow 34 = .ok (.iload_n 2, 1) := by decide +kernel
theorem dX10_cellNow_35 : decode cX10_cellNow 35 = .ok (.invokevirtual 186, 3) := by decide +kernel
theorem dX10_cellNow_38 : decode cX10_cellNow 38 = .ok (.ireturn, 1) := by decide +kernel
theorem dX10_cellNow_39 : decode cX10_cellNow 39 = .ok (.aload_n 0, 1) := by decide +kernel
theorem dX10_cellNow_40 : decode cX10_cellNow 40 = .ok (.iload_n 1, 1) := by decide +kernel
theorem dX10_cellNow_41 : decode cX10_cellNow 41 = .ok (.aload_n 0, 1) := by decide +kernel
theorem dX10_cellNow_42 : decode cX10_cellNow 42 = .ok (.invokevirtual 192, 3) := by decide +kernel
theorem dX10_cellNow_45 : decode cX10_cellNow 45 = .ok (.invokevirtual 195, 3) := by decide +kernel
theorem dX10_cellNow_48 : decode cX10_cellNow 48 = .ok (.ifCond .eq 7, 3) := by decide +kernel
theorem dX10_cellNow_51 : decode cX10_cellNow 51 = .ok (.iconst 1, 1) := by decide +kernel
theorem dX10_cellNow_52 : decode cX10_cellNow 52 = .ok (.goto 4, 3) := by decide +kernel
theorem dX10_cellNow_55 : decode cX10_cellNow 55 = .ok (.iconst 0, 1) := by decide +kernel
theorem dX10_cellNow_56 : decode cX10_cellNow 56 = .ok (.ireturn, 1) := by decide +kernel
theorem dX10_cellNow_57 : decode cX10_cellNow 57 = .ok (.aload_n 0, 1) := by decide +kernel
theorem dX10_cellNow_58 : decode cX10_cellNow 58 = .ok (.invokevirtual 233, 3) := by decide +kernel
theorem dX10_cellNow_61 : decode cX10_cellNow 61 = .ok (.iload_n 1, 1) := by decide +kernel
theorem dX10_cellNow_62 : decode cX10_cellNow 62 = .ok (.ishr, 1) := by decide +kernel
theorem dX10_cellNow_63 : decode cX10_cellNow 63 = .ok (.iconst 1, 1) := by decide +kernel
theorem dX10_cellNow_64 : decode cX10_cellNow 64 = .ok (.iand, 1) := by decide +kernel
theorem dX10_cellNow_65 : decode cX10_cellNow 65 = .ok (.ireturn, 1) := by decide +kernel
theorem dX10_cellNow_66 : decode cX10_cellNow 66 = .ok (.aload_n 0, 1) := by decide +kernel
theorem dX10_cellNow_67 : decode cX10_cellNow 67 = .ok (.iload_n 1, 1) := by decide +kernel
theorem dX10_cellNow_68 : decode cX10_cellNow 68 = .ok (.invokevirtual 236, 3) := by decide +kernel
theorem dX10_cellNow_71 : decode cX10_cellNow 71 = .ok (.ifCond .eq 7, 3) := by decide +kernel
theorem dX10_cellNow_74 : decode cX10_cellNow 74 = .ok (.iconst 1, 1) := by decide +kernel
theorem dX10_cellNow_75 : decode cX10_cellNow 75 = .ok (.goto 4, 3) := by decide +kernel
theorem dX10_cellNow_78 : decode cX10_cellNow 78 = .ok (.iconst 0, 1) := by decide +kernel
theorem dX10_cellNow_79 : decode cX10_cellNow 79 = .ok (.ireturn, 1) := by decide +kernel
theorem dX10_cell_0 : decode cX10_cell 0 = .ok (.aload_n 0, 1) := by decide +kernel
theorem dX10_cell_1 : decode cX10_cell 1 = .ok (.aload_n 0, 1) := by decide +kernel
theorem dX10_cell_2 : decode cX10_cell 2 = .ok (.iload_n 1, 1) := by decide +kernel
theorem dX10_cell_3 : decode cX10_cell 3 = .ok (.invokevirtual 123, 3) := by decide +kernel
theorem dX10_cell_6 : decode cX10_cell 6 = .ok (.ifCond .ne 7, 3) := by decide +kernel
theorem dX10_cell_9 : decode cX10_cell 9 = .ok (.iconst 1, 1) := by decide +kernel
theorem dX10_cell_10 : decode cX10_cell 10 = .ok (.goto 17, 3) := by decide +kernel
theorem dX10_cell_13 : decode cX10_cell 13 = .ok (.iload_n 2, 1) := by decide +kernel
theorem dX10_cell_14 : decode cX10_cell 14 = .ok (.iconst 0, 1) := by decide +kernel
theorem dX10_cell_15 : decode cX10_cell 15 = .ok (.iconst 4, 1) := by decide +kernel
theorem dX10_cell_16 : decode cX10_cell 16 = .ok (.invokestatic 75, 3) := by decide +kernel
theorem dX10_cell_19 : decode cX10_cell 19 = .ok (.ifCond .eq 7, 3) := by decide +kernel
theorem dX10_cell_22 : decode cX10_cell 22 = .ok (.iconst 0, 1) := by decide +kernel
theorem dX10_cell_23 : decode cX10_cell 23 = .ok (.goto 4, 3) := by decide +kernel
theorem dX10_cell_26 : decode cX10_cell 26 = .ok (.iconst 2, 1) := by decide +kernel
theorem dX10_cell_27 : decode cX10_cell 27 = .ok (.putfield 72, 3) := by decide +kernel
theorem dX10_cell_30 : decode cX10_cell 30 = .ok (.aload_n 0, 1) := by decide +kernel
theorem dX10_cell_31 : decode cX10_cell 31 = .ok (.getfield 72, 3) := by decide +kernel
theorem dX10_cell_34 : decode cX10_cell 34 = .ok (.ifCond .le 7, 3) := by decide +kernel
theorem dX10_cell_37 : decode cX10_cell 37 = .ok (.iconst 0, 1) := by decide +kernel
theorem dX10_cell_38 : decode cX10_cell 38 = .ok (.goto 9, 3) := by decide +kernel
theorem dX10_cell_41 : decode cX10_cell 41 = .ok (.aload_n 0, 1) := by decide +kernel
theorem dX10_cell_42 : decode cX10_cell 42 = .ok (.iload_n 1, 1) := by decide +kernel
theorem dX10_cell_43 : decode cX10_cell 43 = .ok (.iload_n 2, 1) := by decide +kernel
theorem dX10_cell_44 : decode cX10_cell 44 = .ok (.invokevirtual 239, 3) := by decide +kernel
theorem dX10_cell_47 : decode cX10_cell 47 = .ok (.ireturn, 1) := by decide +kernel
theorem dX10_pairs_0 : decode cX10_pairs 0 = .ok (.aload_n 0, 1) := by decide +kernel
theorem dX10_pairs_1 : decode cX10_pairs 1 = .ok (.aload_n 0, 1) := by decide +kernel
theorem dX10_pairs_2 : decode cX10_pairs 2 = .ok (.invokevirtual 192, 3) := by decide +kernel
theorem dX10_pairs_5 : decode cX10_pairs 5 = .ok (.invokevirtual 223, 3) := by decide +kernel
theorem dX10_pairs_8 : decode cX10_pairs 8 = .ok (.pop, 1) := by decide +kernel
theorem dX10_pairs_9 : decode cX10_pairs 9 = .ok (.iconst 0, 1) := by decide +kernel
theorem dX10_pairs_10 : decode cX10_pairs 10 = .ok (.istore_n 2, 1) := by decide +kernel
theorem dX10_pairs_11 : decode cX10_pairs 11 = .ok (.iconst 0, 1) := by decide +kernel
theorem dX10_pairs_12 : decode cX10_pairs 12 = .ok (.istore_n 3, 1) := by decide +kernel
theorem dX10_pairs_13 : decode cX10_pairs 13 = .ok (.iload_n 3, 1) := by decide +kernel
theorem dX10_pairs_14 : decode cX10_pairs 14 = .ok (.aload_n 0, 1) := by decide +kernel
theorem dX10_pairs_15 : decode cX10_pairs 15 = .ok (.getfield 7, 3) := by decide +kernel
theorem dX10_pairs_18 : decode cX10_pairs 18 = .ok (.aload_n 0, 1) := by decide +kernel
theorem dX10_pairs_19 : decode cX10_pairs 19 = .ok (.getfield 7, 3) := by decide +kernel
theorem dX10_pairs_22 : decode cX10_pairs 22 = .ok (.imul, 1) := by decide +kernel
theorem dX10_pairs_23 : decode cX10_pairs 23 = .ok (.if_icmp .ge 78, 3) := by decide +kernel
theorem dX10_pairs_26 : decode cX10_pairs 26 = .ok (.iload_n 3, 1) := by decide +kernel
theorem dX10_pairs_27 : decode cX10_pairs 27 = .ok (.aload_n 0, 1) := by decide +kernel
theorem dX10_pairs_28 : decode cX10_pairs 28 = .ok (.getfield 7, 3) := by decide +kernel
theorem dX10_pairs_31 : decode cX10_pairs 31 = .ok (.idiv, 1) := by decide +kernel
theorem dX10_pairs_32 : decode cX10_pairs 32 = .ok (.iload_n 3, 1) := by decide +kernel
theorem dX10_pairs_33 : decode cX10_pairs 33 = .ok (.aload_n 0, 1) := by decide +kernel
theorem dX10_pairs_34 : decode cX10_pairs 34 = .ok (.getfield 7, 3) := by decide +kernel
theorem dX10_pairs_37 : decode cX10_pairs 37 = .ok (.irem, 1) := by decide +kernel
theorem dX10_pairs_38 : decode cX10_pairs 38 = .ok (.if_icmp .ne 7, 3) := by decide +kernel
theorem dX10_pairs_41 : decode cX10_pairs 41 = .ok (.iconst 0, 1) := by decide +kernel
theorem dX10_pairs_42 : decode cX10_pairs 42 = .ok (.goto 20, 3) := by decide +kernel
theorem dX10_pairs_45 : decode cX10_pairs 45 = .ok (.aload_n 0, 1) := by decide +kernel
theorem dX10_pairs_46 : decode cX10_pairs 46 = .ok (.iload_n 3, 1) := by decide +kernel
theorem dX10_pairs_47 : decode cX10_pairs 47 = .ok (.aload_n 0, 1) := by decide +kernel
theorem dX10_pairs_48 : decode cX10_pairs 48 = .ok (.getfield 7, 3) := by decide +kernel
theorem dX10_pairs_51 : decode cX10_pairs 51 = .ok (.idiv, 1) := by decide +kernel
theorem dX10_pairs_52 : decode cX10_pairs 52 = .ok (.iload_n 3, 1) := by decide +kernel
theorem dX10_pairs_53 : decode cX10_pairs 53 = .ok (.aload_n 0, 1) := by decide +kernel
theorem dX10_pairs_54 : decode cX10_pairs 54 = .ok (.getfield 7, 3) := by decide +kernel
theorem dX10_pairs_57 : decode cX10_pairs 57 = .ok (.irem, 1) := by decide +kernel
theorem dX10_pairs_58 : decode cX10_pairs 58 = .ok (.iload_n 1, 1) := by decide +kernel
theorem dX10_pairs_59 : decode cX10_pairs 59 = .ok (.invokevirtual 229, 3) := by decide +kernel
theorem dX10_pairs_62 : decode cX10_pairs 62 = .ok (.istore 4, 2) := by decide +kernel
theorem dX10_pairs_64 : decode cX10_pairs 64 = .ok (.iload_n 2, 1) := by decide +kernel
theorem dX10_pairs_65 : decode cX10_pairs 65 = .ok (.iload_n 1, 1) := by decide +kernel
theorem dX10_pairs_66 : decode cX10_pairs 66 = .ok (.ifCond .eq 17, 3) := by decide +kernel
theorem dX10_pairs_69 : decode cX10_pairs 69 = .ok (.iload 4, 2) := by decide +kernel
theorem dX10_pairs_71 : decode cX10_pairs 71 = .ok (.iconst 1, 1) := by decide +kernel
theorem dX10_pairs_72 : decode cX10_pairs 72 = .ok (.if_icmp .ne 7, 3) := by decide +kernel
theorem dX10_pairs_75 : decode cX10_pairs 75 = .ok (.iconst 1, 1) := by decide +kernel
theorem dX10_pairs_76 : decode cX10_pairs 76 = .ok (.goto 17, 3) := by decide +kernel
theorem dX10_pairs_79 : decode cX10_pairs 79 = .ok (.iconst 0, 1) := by decide +kernel
theorem dX10_pairs_80 : decode cX10_pairs 80 = .ok (.goto 13, 3) := by decide +kernel
theorem dX10_pairs_83 : decode cX10_pairs 83 = .ok (.iload 4, 2) := by decide +kernel
theorem dX10_pairs_85 : decode cX10_pairs 85 = .ok (.ifCond .le 7, 3) := by decide +kernel
theorem dX10_pairs_88 : decode cX10_pairs 88 = .ok (.iconst 1, 1) := by decide +kernel
theorem dX10_pairs_89 : decode cX10_pairs 89 = .ok (.goto 4, 3) := by decide +kernel
theorem dX10_pairs_92 : decode cX10_pairs 92 = .ok (.iconst 0, 1) := by decide +kernel
theorem dX10_pairs_93 : decode cX10_pairs 93 = .ok (.iadd, 1) := by decide +kernel
theorem dX10_pairs_94 : decode cX10_pairs 94 = .ok (.istore_n 2, 1) := by decide +kernel
theorem dX10_pairs_95 : decode cX10_pairs 95 = .ok (.iinc 3 1, 3) := by decide +kernel
theorem dX10_pairs_98 : decode cX10_pairs 98 = .ok (.goto (-85), 3) := by decide +kernel
theorem dX10_pairs_101 : decode cX10_pairs 101 = .ok (.iload_n 2, 1) := by decide +kernel
theorem dX10_pairs_102 : decode cX10_pairs 102 = .ok (.ireturn, 1) := by decide +kernel
theorem dX10_holding_0 : decode cX10_holding 0 = .ok (.iconst 0, 1) := by decide +kernel
theorem dX10_holding_1 : decode cX10_holding 1 = .ok (.istore_n 1, 1) := by decide +kernel
theorem dX10_holding_2 : decode cX10_holding 2 = .ok (.iconst 0, 1) := by decide +kernel
theorem dX10_holding_3 : decode cX10_holding 3 = .ok (.istore_n 2, 1) := by decide +kernel
theorem dX10_holding_4 : decode cX10_holding 4 = .ok (.iload_n 2, 1) := by decide +kernel
theorem dX10_holding_5 : decode cX10_holding 5 = .ok (.aload_n 0, 1) := by decide +kernel
theorem dX10_holding_6 : decode cX10_holding 6 = .ok (.getfield 82, 3) := by decide +kernel
theorem dX10_holding_9 : decode cX10_holding 9 = .ok (.if_icmp .ge 25, 3) := by decide +kernel
theorem dX10_holding_12 : decode cX10_holding 12 = .ok (.iload_n 1, 1) := by decide +kernel
theorem dX10_holding_13 : decode cX10_holding 13 = .ok (.aload_n 0, 1) := by decide +kernel
theorem dX10_holding_14 : decode cX10_holding 14 = .ok (.iload_n 2, 1) := by decide +kernel
theorem dX10_holding_15 : decode cX10_holding 15 = .ok (.invokevirtual 236, 3) := by decide +kernel
theorem dX10_holding_18 : decode cX10_holding 18 = .ok (.ifCond .eq 7, 3) := by decide +kernel
theorem dX10_holding_21 : decode cX10_holding 21 = .ok (.iconst 1, 1) := by decide +kernel
theorem dX10_holding_22 : decode cX10_holding 22 = .ok (.goto 4, 3) := by decide +kernel
theorem dX10_holding_25 : decode cX10_holding 25 = .ok (.iconst 0, 1) := by decide +kernel
theorem dX10_holding_26 : decode cX10_holding 26 = .ok (.iadd, 1) := by decide +kernel
theorem dX10_holding_27 : decode cX10_holding 27 = .ok (.istore_n 1, 1) := by decide +kernel
theorem dX10_holding_28 : decode cX10_holding 28 = .ok (.iinc 2 1, 3) := by decide +kernel
theorem dX10_holding_31 : decode cX10_holding 31 = .ok (.goto (-27), 3) := by decide +kernel
theorem dX10_holding_34 : decode cX10_holding 34 = .ok (.iload_n 1, 1) := by decide +kernel
theorem dX10_holding_35 : decode cX10_holding 35 = .ok (.ireturn, 1) := by decide +kernel
theorem dX10_bits_0 : decode cX10_bits 0 = .ok (.iconst 0, 1) := by decide +kernel
theorem dX10_bits_1 : decode cX10_bits 1 = .ok (.istore_n 1, 1) := by decide +kernel
theorem dX10_bits_2 : decode cX10_bits 2 = .ok (.iconst 0, 1) := by decide +kernel
theorem dX10_bits_3 : decode cX10_bits 3 = .ok (.istore_n 2, 1) := by decide +kernel
theorem dX10_bits_4 : decode cX10_bits 4 = .ok (.iload_n 2, 1) := by decide +kernel
theorem dX10_bits_5 : decode cX10_bits 5 = .ok (.bipush 10, 2) := by decide +kernel
theorem dX10_bits_7 : decode cX10_bits 7 = .ok (.if_icmp .ge 17, 3) := by decide +kernel
theorem dX10_bits_10 : decode cX10_bits 10 = .ok (.iload_n 1, 1) := by decide +kernel
theorem dX10_bits_11 : decode cX10_bits 11 = .ok (.iload_n 0, 1) := by decide +kernel
theorem dX10_bits_12 : decode cX10_bits 12 = .ok (.iload_n 2, 1) := by decide +kernel
theorem dX10_bits_13 : decode cX10_bits 13 = .ok (.ishr, 1) := by decide +kernel
theorem dX10_bits_14 : decode cX10_bits 14 = .ok (.iconst 1, 1) := by decide +kernel
theorem dX10_bits_15 : decode cX10_bits 15 = .ok (.iand, 1) := by decide +kernel
theorem dX10_bits_16 : decode cX10_bits 16 = .ok (.iadd, 1) := by decide +kernel
theorem dX10_bits_17 : decode cX10_bits 17 = .ok (.istore_n 1, 1) := by decide +kernel
theorem dX10_bits_18 : decode cX10_bits 18 = .ok (.iinc 2 1, 3) := by decide +kernel
theorem dX10_bits_21 : decode cX10_bits 21 = .ok (.goto (-17), 3) := by decide +kernel
theorem dX10_bits_24 : decode cX10_bits 24 = .ok (.iload_n 1, 1) := by decide +kernel
theorem dX10_bits_25 : decode cX10_bits 25 = .ok (.ireturn, 1) := by decide +kernel
theorem dX10_number_0 : decode cX10_number 0 = .ok (.iload_n 1, 1) := by decide +kernel
theorem dX10_number_1 : decode cX10_number 1 = .ok (.tableswitch 83 0 6 #[43, 48, 53, 58, 63, 72, 78], 43) := by decide +kernel
theorem dX10_number_44 : decode cX10_number 44 = .ok (.aload_n 0, 1) := by decide +kernel
theorem dX10_number_45 : decode cX10_number 45 = .ok (.getfield 7, 3) := by decide +kernel
theorem dX10_number_48 : decode cX10_number 48 = .ok (.ireturn, 1) := by decide +kernel
theorem dX10_number_49 : decode cX10_number 49 = .ok (.aload_n 0, 1) := by decide +kernel
theorem dX10_number_50 : decode cX10_number 50 = .ok (.getfield 79, 3) := by decide +kernel
theorem dX10_number_53 : decode cX10_number 53 = .ok (.ireturn, 1) := by decide +kernel
theorem dX10_number_54 : decode cX10_number 54 = .ok (.aload_n 0, 1) := by decide +kernel
theorem dX10_number_55 : decode cX10_number 55 = .ok (.getfield 82, 3) := by decide +kernel
theorem dX10_number_58 : decode cX10_number 58 = .ok (.ireturn, 1) := by decide +kernel
theorem dX10_number_59 : decode cX10_number 59 = .ok (.aload_n 0, 1) := by decide +kernel
theorem dX10_number_60 : decode cX10_number 60 = .ok (.getfield 89, 3) := by decide +kernel
theorem dX10_number_63 : decode cX10_number 63 = .ok (.ireturn, 1) := by decide +kernel
theorem dX10_number_64 : decode cX10_number 64 = .ok (.aload_n 0, 1) := by decide +kernel
theorem dX10_number_65 : decode cX10_number 65 = .ok (.aload_n 0, 1) := by decide +kernel
theorem dX10_number_66 : decode cX10_number 66 = .ok (.invokevirtual 192, 3) := by decide +kernel
theorem dX10_number_69 : decode cX10_number 69 = .ok (.invokevirtual 223, 3) := by decide +kernel
theorem dX10_number_72 : decode cX10_number 72 = .ok (.ireturn, 1) := by decide +kernel
theorem dX10_number_73 : decode cX10_number 73 = .ok (.aload_n 0, 1) := by decide +kernel
theorem dX10_number_74 : decode cX10_number 74 = .ok (.iconst 1, 1) := by decide +kernel
theorem dX10_number_75 : decode cX10_number 75 = .ok (.invokevirtual 242, 3) := by decide +kernel
theorem dX10_number_78 : decode cX10_number 78 = .ok (.ireturn, 1) := by decide +kernel
theorem dX10_number_79 : decode cX10_number 79 = .ok (.aload_n 0, 1) := by decide +kernel
theorem dX10_number_80 : decode cX10_number 80 = .ok (.invokevirtual 246, 3) := by decide +kernel
theorem dX10_number_83 : decode cX10_number 83 = .ok (.ireturn, 1) := by decide +kernel
theorem dX10_number_84 : decode cX10_number 84 = .ok (.aload_n 0, 1) := by decide +kernel
theorem dX10_number_85 : decode cX10_number 85 = .ok (.invokevirtual 233, 3) := by decide +kernel
theorem dX10_number_88 : decode cX10_number 88 = .ok (.invokestatic 249, 3) := by decide +kernel
theorem dX10_number_91 : decode cX10_number 91 = .ok (.ireturn, 1) := by decide +kernel
theorem dX10_count_0 : decode cX10_count 0 = .ok (.aload_n 0, 1) := by decide +kernel
theorem dX10_count_1 : decode cX10_count 1 = .ok (.iload_n 1, 1) := by decide +kernel
theorem dX10_count_2 : decode cX10_count 2 = .ok (.iconst 0, 1) := by decide +kernel
theorem dX10_count_3 : decode cX10_count 3 = .ok (.bipush 7, 2) := by decide +kernel
theorem dX10_count_5 : decode cX10_count 5 = .ok (.invokestatic 75, 3) := by decide +kernel
theorem dX10_count_8 : decode cX10_count 8 = .ok (.ifCond .eq 7, 3) := by decide +kernel
theorem dX10_count_11 : decode cX10_count 11 = .ok (.iconst 0, 1) := by decide +kernel
theorem dX10_count_12 : decode cX10_count 12 = .ok (.goto 4, 3) := by decide +kernel
theorem dX10_count_15 : decode cX10_count 15 = .ok (.iconst 1, 1) := by decide +kernel
theorem dX10_count_16 : decode cX10_count 16 = .ok (.putfield 72, 3) := by decide +kernel
theorem dX10_count_19 : decode cX10_count 19 = .ok (.aload_n 0, 1) := by decide +kernel
theorem dX10_count_20 : decode cX10_count 20 = .ok (.getfield 72, 3) := by decide +kernel
theorem dX10_count_23 : decode cX10_count 23 = .ok (.ifCond .le 7, 3) := by decide +kernel
theorem dX10_count_26 : decode cX10_count 26 = .ok (.iconst 0, 1) := by decide +kernel
theorem dX10_count_27 : decode cX10_count 27 = .ok (.goto 8, 3) := by decide +kernel
theorem dX10_count_30 : decode cX10_count 30 = .ok (.aload_n 0, 1) := by decide +kernel
theorem dX10_count_31 : decode cX10_count 31 = .ok (.iload_n 1, 1) := by decide +kernel
theorem dX10_count_32 : decode cX10_count 32 = .ok (.invokevirtual 252, 3) := by decide +kernel
theorem dX10_count_35 : decode cX10_count 35 = .ok (.ireturn, 1) := by decide +kernel
theorem dX10_commutingNow_0 : decode cX10_commutingNow 0 = .ok (.aload_n 0, 1) := by decide +kernel
theorem dX10_commutingNow_1 : decode cX10_commutingNow 1 = .ok (.iconst 0, 1) := by decide +kernel
theorem dX10_commutingNow_2 : decode cX10_commutingNow 2 = .ok (.invokevirtual 242, 3) := by decide +kernel
theorem dX10_commutingNow_5 : decode cX10_commutingNow 5 = .ok (.istore_n 1, 1) := by decide +kernel
theorem dX10_commutingNow_6 : decode cX10_commutingNow 6 = .ok (.iload_n 1, 1) := by decide +kernel
theorem dX10_commutingNow_7 : decode cX10_commutingNow 7 = .ok (.ifCond .ne 7, 3) := by decide +kernel
theorem dX10_commutingNow_10 : decode cX10_commutingNow 10 = .ok (.dconst 1, 1) := by decide +kernel
theorem dX10_commutingNow_11 : decode cX10_commutingNow 11 = .ok (.goto 12, 3) := by decide +kernel
theorem dX10_commutingNow_14 : decode cX10_commutingNow 14 = .ok (.aload_n 0, 1) := by decide +kernel
theorem dX10_commutingNow_15 : decode cX10_commutingNow 15 = .ok (.iconst 1, 1) := by decide +kernel
theorem dX10_commutingNow_16 : decode cX10_commutingNow 16 = .ok (.invokevirtual 242, 3) := by decide +kernel
theorem dX10_commutingNow_19 : decode cX10_commutingNow 19 = .ok (.i2d, 1) := by decide +kernel
theorem dX10_commutingNow_20 : decode cX10_commutingNow 20 = .ok (.iload_n 1, 1) := by decide +kernel
theorem dX10_commutingNow_21 : decode cX10_commutingNow 21 = .ok (.i2d, 1) := by decide +kernel
theorem dX10_commutingNow_22 : decode cX10_commutingNow 22 = .ok (.ddiv, 1) := by decide +kernel
theorem dX10_commutingNow_23 : decode cX10_commutingNow 23 = .ok (.dreturn, 1) := by decide +kernel
theorem dX10_commuting_0 : decode cX10_commuting 0 = .ok (.aload_n 0, 1) := by decide +kernel
theorem dX10_commuting_1 : decode cX10_commuting 1 = .ok (.iconst 0, 1) := by decide +kernel
theorem dX10_commuting_2 : decode cX10_commuting 2 = .ok (.putfield 72, 3) := by decide +kernel
theorem dX10_commuting_5 : decode cX10_commuting 5 = .ok (.aload_n 0, 1) := by decide +kernel
theorem dX10_commuting_6 : decode cX10_commuting 6 = .ok (.invokevirtual 255, 3) := by decide +kernel
theorem dX10_commuting_9 : decode cX10_commuting 9 = .ok (.dreturn, 1) := by decide +kernel
theorem dX10_setSize_0 : decode cX10_setSize 0 = .ok (.aload_n 0, 1) := by decide +kernel
theorem dX10_setSize_1 : decode cX10_setSize 1 = .ok (.aload_n 0, 1) := by decide +kernel
theorem dX10_setSize_2 : decode cX10_setSize 2 = .ok (.iload_n 1, 1) := by decide +kernel
theorem dX10_setSize_3 : decode cX10_setSize 3 = .ok (.invokevirtual 100, 3) := by decide +kernel
theorem dX10_setSize_6 : decode cX10_setSize 6 = .ok (.ifCond .ne 7, 3) := by decide +kernel
theorem dX10_setSize_9 : decode cX10_setSize 9 = .ok (.iconst 1, 1) := by decide +kernel
theorem dX10_setSize_10 : decode cX10_setSize 10 = .ok (.goto 17, 3) := by decide +kernel
theorem dX10_setSize_13 : decode cX10_setSize 13 = .ok (.iload_n 2, 1) := by decide +kernel
theorem dX10_setSize_14 : decode cX10_setSize 14 = .ok (.iconst 1, 1) := by decide +kernel
theorem dX10_setSize_15 : decode cX10_setSize 15 = .ok (.iconst 4, 1) := by decide +kernel
theorem dX10_setSize_16 : decode cX10_setSize 16 = .ok (.invokestatic 75, 3) := by decide +kernel
theorem dX10_setSize_19 : decode cX10_setSize 19 = .ok (.ifCond .eq 7, 3) := by decide +kernel
theorem dX10_setSize_22 : decode cX10_setSize 22 = .ok (.iconst 0, 1) := by decide +kernel
theorem dX10_setSize_23 : decode cX10_setSize 23 = .ok (.goto 4, 3) := by decide +kernel
theorem dX10_setSize_26 : decode cX10_setSize 26 = .ok (.iconst 2, 1) := by decide +kernel
theorem dX10_setSize_27 : decode cX10_setSize 27 = .ok (.putfield 72, 3) := by decide +kernel
theorem dX10_setSize_30 : decode cX10_setSize 30 = .ok (.aload_n 0, 1) := by decide +kernel
theorem dX10_setSize_31 : decode cX10_setSize 31 = .ok (.getfield 72, 3) := by decide +kernel
theorem dX10_setSize_34 : decode cX10_setSize 34 = .ok (.ifCond .le 5, 3) := by decide +kernel
theorem dX10_setSize_37 : decode cX10_setSize 37 = .ok (.iconst 0, 1) := by decide +kernel
theorem dX10_setSize_38 : decode cX10_setSize 38 = .ok (.ireturn, 1) := by decide +kernel
theorem dX10_setSize_39 : decode cX10_setSize 39 = .ok (.aload_n 0, 1) := by decide +kernel
theorem dX10_setSize_40 : decode cX10_setSize 40 = .ok (.getfield 23, 3) := by decide +kernel
theorem dX10_setSize_43 : decode cX10_setSize 43 = .ok (.iload_n 1, 1) := by decide +kernel
theorem dX10_setSize_44 : decode cX10_setSize 44 = .ok (.iaload, 1) := by decide +kernel
theorem dX10_setSize_45 : decode cX10_setSize 45 = .ok (.istore_n 3, 1) := by decide +kernel
theorem dX10_setSize_46 : decode cX10_setSize 46 = .ok (.aload_n 0, 1) := by decide +kernel
theorem dX10_setSize_47 : decode cX10_setSize 47 = .ok (.getfield 23, 3) := by decide +kernel
theorem dX10_setSize_50 : decode cX10_setSize 50 = .ok (.iload_n 1, 1) := by decide +kernel
theorem dX10_setSize_51 : decode cX10_setSize 51 = .ok (.iload_n 2, 1) := by decide +kernel
theorem dX10_setSize_52 : decode cX10_setSize 52 = .ok (.iastore, 1) := by decide +kernel
theorem dX10_setSize_53 : decode cX10_setSize 53 = .ok (.iconst 0, 1) := by decide +kernel
theorem dX10_setSize_54 : decode cX10_setSize 54 = .ok (.istore 4, 2) := by decide +kernel
theorem dX10_setSize_56 : decode cX10_setSize 56 = .ok (.iload 4, 2) := by decide +kernel
theorem dX10_setSize_58 : decode cX10_setSize 58 = .ok (.aload_n 0, 1) := by decide +kernel
theorem dX10_setSize_59 : decode cX10_setSize 59 = .ok (.getfield 79, 3) := by decide +kernel
theorem dX10_setSize_62 : decode cX10_setSize 62 = .ok (.if_icmp .ge 49, 3) := by decide +kernel
theorem dX10_setSize_65 : decode cX10_setSize 65 = .ok (.aload_n 0, 1) := by decide +kernel
theorem dX10_setSize_66 : decode cX10_setSize 66 = .ok (.getfield 20, 3) := by decide +kernel
theorem dX10_setSize_69 : decode cX10_setSize 69 = .ok (.iload 4, 2) := by decide +kernel
theorem dX10_setSize_71 : decode cX10_setSize 71 = .ok (.aload_n 0, 1) := by decide +kernel
theorem dX10_setSize_72 : decode cX10_setSize 72 = .ok (.getfield 13, 3) := by decide +kernel
theorem dX10_setSize_75 : decode cX10_setSize 75 = .ok (.iload 4, 2) := by decide +kernel
theorem dX10_setSize_77 : decode cX10_setSize 77 = .ok (.iaload, 1) := by decide +kernel
theorem dX10_setSize_78 : decode cX10_setSize 78 = .ok (.iload_n 1, 1) := by decide +kernel
theorem dX10_setSize_79 : decode cX10_setSize 79 = .ok (.if_icmp .eq 14, 3) := by decide +kernel
theorem dX10_setSize_82 : decode cX10_setSize 82 = .ok (.aload_n 0, 1) := by decide +kernel
theorem dX10_setSize_83 : decode cX10_setSize 83 = .ok (.getfield 17, 3) := by decide +kernel
theorem dX10_setSize_86 : decode cX10_setSize 86 = .ok (.iload 4, 2) := by decide +kernel
theorem dX10_setSize_88 : decode cX10_setSize 88 = .ok (.iaload, 1) := by decide +kernel
theorem dX10_setSize_89 : decode cX10_setSize 89 = .ok (.iload_n 1, 1) := by decide +kernel
theorem dX10_setSize_90 : decode cX10_setSize 90 = .ok (.if_icmp .ne 7, 3) := by decide +kernel
theorem dX10_setSize_93 : decode cX10_setSize 93 = .ok (.iconst 0, 1) := by decide +kernel
theorem dX10_setSize_94 : decode cX10_setSize 94 = .ok (.goto 10, 3) := by decide +kernel
theorem dX10_setSize_97 : decode cX10_setSize 97 = .ok (.aload_n 0, 1) := by decide +kernel
theorem dX10_setSize_98 : decode cX10_setSize 98 = .ok (.getfield 20, 3) := by decide +kernel
theorem dX10_setSize_101 : decode cX10_setSize 101 = .ok (.iload 4, 2) := by decide +kernel
theorem dX10_setSize_103 : decode cX10_setSize 103 = .ok (.iaload, 1) := by decide +kernel
theorem dX10_setSize_104 : decode cX10_setSize 104 = .ok (.iastore, 1) := by decide +kernel
theorem dX10_setSize_105 : decode cX10_setSize 105 = .ok (.iinc 4 1, 3) := by decide +kernel
theorem dX10_setSize_108 : decode cX10_setSize 108 = .ok (.goto (-52), 3) := by decide +kernel
theorem dX10_setSize_111 : decode cX10_setSize 111 = .ok (.iload_n 3, 1) := by decide +kernel
theorem dX10_setSize_112 : decode cX10_setSize 112 = .ok (.ireturn, 1) := by decide +kernel
theorem dX10_isCode_0 : decode cX10_isCode 0 = .ok (.iload_n 2, 1) := by decide +kernel
theorem dX10_isCode_1 : decode cX10_isCode 1 = .ok (.ifCond .lt 25, 3) := by decide +kernel
theorem dX10_isCode_4 : decode cX10_isCode 4 = .ok (.iload_n 2, 1) := by decide +kernel
theorem dX10_isCode_5 : decode cX10_isCode 5 = .ok (.iconst 2, 1) := by decide +kernel
theorem dX10_isCode_6 : decode cX10_isCode 6 = .ok (.aload_n 0, 1) := by decide +kernel
theorem dX10_isCode_7 : decode cX10_isCode 7 = .ok (.getfield 23, 3) := by decide +kernel
theorem dX10_isCode_10 : decode cX10_isCode 10 = .ok (.aload_n 0, 1) := by decide +kernel
theorem dX10_isCode_11 : decode cX10_isCode 11 = .ok (.getfield 13, 3) := by decide +kernel
theorem dX10_isCode_14 : decode cX10_isCode 14 = .ok (.iload_n 1, 1) := by decide +kernel
theorem dX10_isCode_15 : decode cX10_isCode 15 = .ok (.iaload, 1) := by decide +kernel
theorem dX10_isCode_16 : decode cX10_isCode 16 = .ok (.iaload, 1) := by decide +kernel
theorem dX10_isCode_17 : decode cX10_isCode 17 = .ok (.imul, 1) := by decide +kernel
theorem dX10_isCode_18 : decode cX10_isCode 18 = .ok (.ishr, 1) := by decide +kernel
theorem dX10_isCode_19 : decode cX10_isCode 19 = .ok (.ifCond .ne 7, 3) := by decide +kernel
theorem dX10_isCode_22 : decode cX10_isCode 22 = .ok (.iconst 1, 1) := by decide +kernel
theorem dX10_isCode_23 : decode cX10_isCode 23 = .ok (.goto 4, 3) := by decide +kernel
theorem dX10_isCode_26 : decode cX10_isCode 26 = .ok (.iconst 0, 1) := by decide +kernel
theorem dX10_isCode_27 : decode cX10_isCode 27 = .ok (.istore_n 3, 1) := by decide +kernel
theorem dX10_isCode_28 : decode cX10_isCode 28 = .ok (.iconst 0, 1) := by decide +kernel
theorem dX10_isCode_29 : decode cX10_isCode 29 = .ok (.istore 4, 2) := by decide +kernel
theorem dX10_isCode_31 : decode cX10_isCode 31 = .ok (.iload 4, 2) := by decide +kernel
theorem dX10_isCode_33 : decode cX10_isCode 33 = .ok (.iconst 4, 1) := by decide +kernel
theorem dX10_isCode_34 : decode cX10_isCode 34 = .ok (.if_icmp .ge 41, 3) := by decide +kernel
theorem dX10_isCode_37 : decode cX10_isCode 37 = .ok (.iload_n 3, 1) := by decide +kernel
theorem dX10_isCode_38 : decode cX10_isCode 38 = .ok (.ifCond .eq 37, 3) := by decide +kernel
theorem dX10_isCode_41 : decode cX10_isCode 41 = .ok (.iload_n 2, 1) := by decide +kernel
theorem dX10_isCode_42 : decode cX10_isCode 42 = .ok (.iconst 2, 1) := by decide +kernel
theorem dX10_isCode_43 : decode cX10_isCode 43 = .ok (.iload 4, 2) := by decide +kernel
theorem dX10_isCode_45 : decode cX10_isCode 45 = .ok (.imul, 1) := by decide +kernel
theorem dX10_isCode_46 : decode cX10_isCode 46 = .ok (.ishr, 1) := by decide +kernel
theorem dX10_isCode_47 : decode cX10_isCode 47 = .ok (.iconst 3, 1) := by decide +kernel
theorem dX10_isCode_48 : decode cX10_isCode 48 = .ok (.iand, 1) := by decide +kernel
theorem dX10_isCode_49 : decode cX10_isCode 49 = .ok (.aload_n 0, 1) := by decide +kernel
theorem dX10_isCode_50 : decode cX10_isCode 50 = .ok (.getfield 23, 3) := by decide +kernel
theorem dX10_isCode_53 : decode cX10_isCode 53 = .ok (.aload_n 0, 1) := by decide +kernel
theorem dX10_isCode_54 : decode cX10_isCode 54 = .ok (.getfield 17, 3) := by decide +kernel
theorem dX10_isCode_57 : decode cX10_isCode 57 = .ok (.iload_n 1, 1) := by decide +kernel
theorem dX10_isCode_58 : decode cX10_isCode 58 = .ok (.iaload, 1) := by decide +kernel
theorem dX10_isCode_59 : decode cX10_isCode 59 = .ok (.iaload, 1) := by decide +kernel
theorem dX10_isCode_60 : decode cX10_isCode 60 = .ok (.if_icmp .ge 7, 3) := by decide +kernel
theorem dX10_isCode_63 : decode cX10_isCode 63 = .ok (.iconst 1, 1) := by decide +kernel
theorem dX10_isCode_64 : decode cX10_isCode 64 = .ok (.goto 4, 3) := by decide +kernel
theorem dX10_isCode_67 : decode cX10_isCode 67 = .ok (.iconst 0, 1) := by decide +kernel
theorem dX10_isCode_68 : decode cX10_isCode 68 = .ok (.istore_n 3, 1) := by decide +kernel
theorem dX10_isCode_69 : decode cX10_isCode 69 = .ok (.iinc 4 1, 3) := by decide +kernel
theorem dX10_isCode_72 : decode cX10_isCode 72 = .ok (.goto (-41), 3) := by decide +kernel
theorem dX10_isCode_75 : decode cX10_isCode 75 = .ok (.iload_n 3, 1) := by decide +kernel
theorem dX10_isCode_76 : decode cX10_isCode 76 = .ok (.ireturn, 1) := by decide +kernel
theorem dX10_setFunction_0 : decode cX10_setFunction 0 = .ok (.aload_n 0, 1) := by decide +kernel
theorem dX10_setFunction_1 : decode cX10_setFunction 1 = .ok (.aload_n 0, 1) := by decide +kernel
theorem dX10_setFunction_2 : decode cX10_setFunction 2 = .ok (.iload_n 1, 1) := by decide +kernel
theorem dX10_setFunction_3 : decode cX10_setFunction 3 = .ok (.invokevirtual 169, 3) := by decide +kernel
theorem dX10_setFunction_6 : decode cX10_setFunction 6 = .ok (.ifCond .ne 7, 3) := by decide +kernel
theorem dX10_setFunction_9 : decode cX10_setFunction 9 = .ok (.iconst 1, 1) := by decide +kernel
theorem dX10_setFunction_10 : decode cX10_setFunction 10 = .ok (.goto 17, 3) := by decide +kernel
theorem dX10_setFunction_13 : decode cX10_setFunction 13 = .ok (.aload_n 0, 1) := by decide +kernel
theorem dX10_setFunction_14 : decode cX10_setFunction 14 = .ok (.iload_n 1, 1) := by decide +kernel
theorem dX10_setFunction_15 : decode cX10_setFunction 15 = .ok (.iload_n 2, 1) := by decide +kernel
theorem dX10_setFunction_16 : decode cX10_setFunction 16 = .ok (.invokevirtual 259, 3) := by decide +kernel
theorem dX10_setFunction_19 : decode cX10_setFunction 19 = .ok (.ifCond .eq 7, 3) := by decide +kernel
theorem dX10_setFunction_22 : decode cX10_setFunction 22 = .ok (.iconst 0, 1) := by decide +kernel
theorem dX10_setFunction_23 : decode cX10_setFunction 23 = .ok (.goto 4, 3) := by decide +kernel
theorem dX10_setFunction_26 : decode cX10_setFunction 26 = .ok (.iconst 2, 1) := by decide +kernel
theorem dX10_setFunction_27 : decode cX10_setFunction 27 = .ok (.putfield 72, 3) := by decide +kernel
theorem dX10_setFunction_30 : decode cX10_setFunction 30 = .ok (.aload_n 0, 1) := by decide +kernel
theorem dX10_setFunction_31 : decode cX10_setFunction 31 = .ok (.getfield 72, 3) := by decide +kernel
theorem dX10_setFunction_34 : decode cX10_setFunction 34 = .ok (.ifCond .le 5, 3) := by decide +kernel
theorem dX10_setFunction_37 : decode cX10_setFunction 37 = .ok (.iconst 0, 1) := by decide +kernel
theorem dX10_setFunction_38 : decode cX10_setFunction 38 = .ok (.ireturn, 1) := by decide +kernel
theorem dX10_setFunction_39 : decode cX10_setFunction 39 = .ok (.aload_n 0, 1) := by decide +kernel
theorem dX10_setFunction_40 : decode cX10_setFunction 40 = .ok (.getfield 20, 3) := by decide +kernel
theorem dX10_setFunction_43 : decode cX10_setFunction 43 = .ok (.iload_n 1, 1) := by decide +kernel
theorem dX10_setFunction_44 : decode cX10_setFunction 44 = .ok (.iaload, 1) := by decide +kernel
theorem dX10_setFunction_45 : decode cX10_setFunction 45 = .ok (.istore_n 3, 1) := by decide +kernel
theorem dX10_setFunction_46 : decode cX10_setFunction 46 = .ok (.aload_n 0, 1) := by decide +kernel
theorem dX10_setFunction_47 : decode cX10_setFunction 47 = .ok (.getfield 20, 3) := by decide +kernel
theorem dX10_setFunction_50 : decode cX10_setFunction 50 = .ok (.iload_n 1, 1) := by decide +kernel
theorem dX10_setFunction_51 : decode cX10_setFunction 51 = .ok (.iload_n 2, 1) := by decide +kernel
theorem dX10_setFunction_52 : decode cX10_setFunction 52 = .ok (.iastore, 1) := by decide +kernel
theorem dX10_setFunction_53 : decode cX10_setFunction 53 = .ok (.iload_n 3, 1) := by decide +kernel
theorem dX10_setFunction_54 : decode cX10_setFunction 54 = .ok (.ireturn, 1) := by decide +kernel
theorem dX10_apply_0 : decode cX10_apply 0 = .ok (.aload_n 0, 1) := by decide +kernel
theorem dX10_apply_1 : decode cX10_apply 1 = .ok (.aload_n 0, 1) := by decide +kernel
theorem dX10_apply_2 : decode cX10_apply 2 = .ok (.iload_n 1, 1) := by decide +kernel
theorem dX10_apply_3 : decode cX10_apply 3 = .ok (.invokevirtual 114, 3) := by decide +kernel
theorem dX10_apply_6 : decode cX10_apply 6 = .ok (.ifCond .ne 7, 3) := by decide +kernel
theorem dX10_apply_9 : decode cX10_apply 9 = .ok (.iconst 1, 1) := by decide +kernel
theorem dX10_apply_10 : decode cX10_apply 10 = .ok (.goto 29, 3) := by decide +kernel
theorem dX10_apply_13 : decode cX10_apply 13 = .ok (.iload_n 2, 1) := by decide +kernel
theorem dX10_apply_14 : decode cX10_apply 14 = .ok (.iconst 0, 1) := by decide +kernel
theorem dX10_apply_15 : decode cX10_apply 15 = .ok (.aload_n 0, 1) := by decide +kernel
theorem dX10_apply_16 : decode cX10_apply 16 = .ok (.getfield 23, 3) := by decide +kernel
theorem dX10_apply_19 : decode cX10_apply 19 = .ok (.aload_n 0, 1) := by decide +kernel
theorem dX10_apply_20 : decode cX10_apply 20 = .ok (.getfield 38, 3) := by decide +kernel
theorem dX10_apply_23 : decode cX10_apply 23 = .ok (.iload_n 1, 1) := by decide +kernel
theorem dX10_apply_24 : decode cX10_apply 24 = .ok (.iaload, 1) := by decide +kernel
theorem dX10_apply_25 : decode cX10_apply 25 = .ok (.iaload, 1) := by decide +kernel
theorem dX10_apply_26 : decode cX10_apply 26 = .ok (.iconst 1, 1) := by decide +kernel
theorem dX10_apply_27 : decode cX10_apply 27 = .ok (.isub, 1) := by decide +kernel
theorem dX10_apply_28 : decode cX10_apply 28 = .ok (.invokestatic 75, 3) := by decide +kernel
theorem dX10_apply_31 : decode cX10_apply 31 = .ok (.ifCond .eq 7, 3) := by decide +kernel
theorem dX10_apply_34 : decode cX10_apply 34 = .ok (.iconst 0, 1) := by decide +kernel
theorem dX10_apply_35 : decode cX10_apply 35 = .ok (.goto 4, 3) := by decide +kernel
theorem dX10_apply_38 : decode cX10_apply 38 = .ok (.iconst 2, 1) := by decide +kernel
theorem dX10_apply_39 : decode cX10_apply 39 = .ok (.putfield 72, 3) := by decide +kernel
theorem dX10_apply_42 : decode cX10_apply 42 = .ok (.aload_n 0, 1) := by decide +kernel
theorem dX10_apply_43 : decode cX10_apply 43 = .ok (.getfield 72, 3) := by decide +kernel
theorem dX10_apply_46 : decode cX10_apply 46 = .ok (.ifCond .le 7, 3) := by decide +kernel
theorem dX10_apply_49 : decode cX10_apply 49 = .ok (.iconst 0, 1) := by decide +kernel
theorem dX10_apply_50 : decode cX10_apply 50 = .ok (.goto 9, 3) := by decide +kernel
theorem dX10_apply_53 : decode cX10_apply 53 = .ok (.aload_n 0, 1) := by decide +kernel
theorem dX10_apply_54 : decode cX10_apply 54 = .ok (.iload_n 1, 1) := by decide +kernel
theorem dX10_apply_55 : decode cX10_apply 55 = .ok (.iload_n 2, 1) := by decide +kernel
theorem dX10_apply_56 : decode cX10_apply 56 = .ok (.invokevirtual 211, 3) := by decide +kernel
theorem dX10_apply_59 : decode cX10_apply 59 = .ok (.ireturn, 1) := by decide +kernel
theorem dX10_imageShare_0 : decode cX10_imageShare 0 = .ok (.aload_n 0, 1) := by decide +kernel
theorem dX10_imageShare_1 : decode cX10_imageShare 1 = .ok (.aload_n 0, 1) := by decide +kernel
theorem dX10_imageShare_2 : decode cX10_imageShare 2 = .ok (.iload_n 1, 1) := by decide +kernel
theorem dX10_imageShare_3 : decode cX10_imageShare 3 = .ok (.invokevirtual 114, 3) := by decide +kernel
theorem dX10_imageShare_6 : decode cX10_imageShare 6 = .ok (.ifCond .eq 7, 3) := by decide +kernel
theorem dX10_imageShare_9 : decode cX10_imageShare 9 = .ok (.iconst 0, 1) := by decide +kernel
theorem dX10_imageShare_10 : decode cX10_imageShare 10 = .ok (.goto 4, 3) := by decide +kernel
theorem dX10_imageShare_13 : decode cX10_imageShare 13 = .ok (.iconst 1, 1) := by decide +kernel
theorem dX10_imageShare_14 : decode cX10_imageShare 14 = .ok (.putfield 72, 3) := by decide +kernel
theorem dX10_imageShare_17 : decode cX10_imageShare 17 = .ok (.aload_n 0, 1) := by decide +kernel
theorem dX10_imageShare_18 : decode cX10_imageShare 18 = .ok (.getfield 72, 3) := by decide +kernel
theorem dX10_imageShare_21 : decode cX10_imageShare 21 = .ok (.ifCond .le 7, 3) := by decide +kernel
theorem dX10_imageShare_24 : decode cX10_imageShare 24 = .ok (.iconst 0, 1) := by decide +kernel
theorem dX10_imageShare_25 : decode cX10_imageShare 25 = .ok (.goto 25, 3) := by decide +kernel
theorem dX10_imageShare_28 : decode cX10_imageShare 28 = .ok (.aload_n 0, 1) := by decide +kernel
theorem dX10_imageShare_29 : decode cX10_imageShare 29 = .ok (.iload_n 1, 1) := by decide +kernel
theorem dX10_imageShare_30 : decode cX10_imageShare 30 = .ok (.invokevirtual 220, 3) := by decide +kernel
theorem dX10_imageShare_33 : decode cX10_imageShare 33 = .ok (.i2f, 1) := by decide +kernel
theorem dX10_imageShare_34 : decode cX10_imageShare 34 = .ok (.aload_n 0, 1) := by decide +kernel
theorem dX10_imageShare_35 : decode cX10_imageShare 35 = .ok (.getfield 23, 3) := by decide +kernel
theorem dX10_imageShare_38 : decode cX10_imageShare 38 = .ok (.aload_n 0, 1) := by decide +kernel
theorem dX10_imageShare_39 : decode cX10_imageShare 39 = .ok (.getfield 41, 3) := by decide +kernel
theorem dX10_imageShare_42 : decode cX10_imageShare 42 = .ok (.iload_n 1, 1) := by decide +kernel
theorem dX10_imageShare_43 : decode cX10_imageShare 43 = .ok (.iaload, 1) := by decide +kernel
theorem dX10_imageShare_44 : decode cX10_imageShare 44 = .ok (.iaload, 1) := by decide +kernel
theorem dX10_imageShare_45 : decode cX10_imageShare 45 = .ok (.i2f, 1) := by decide +kernel
theorem dX10_imageShare_46 : decode cX10_imageShare 46 = .ok (.fdiv, 1) := by decide +kernel
theorem dX10_imageShare_47 : decode cX10_imageShare 47 = .ok (.invokestatic 262, 3) := by decide +kernel
theorem dX10_imageShare_50 : decode cX10_imageShare 50 = .ok (.ireturn, 1) := by decide +kernel
theorem dX10_choose_0 : decode cX10_choose 0 = .ok (.iconst 0, 1) := by decide +kernel
theorem dX10_choose_1 : decode cX10_choose 1 = .ok (.istore_n 2, 1) := by decide +kernel
theorem dX10_choose_2 : decode cX10_choose 2 = .ok (.iload_n 2, 1) := by decide +kernel
theorem dX10_choose_3 : decode cX10_choose 3 = .ok (.aload_n 0, 1) := by decide +kernel
theorem dX10_choose_4 : decode cX10_choose 4 = .ok (.getfield 79, 3) := by decide +kernel
theorem dX10_choose_7 : decode cX10_choose 7 = .ok (.if_icmp .ge 39, 3) := by decide +kernel
theorem dX10_choose_10 : decode cX10_choose 10 = .ok (.iload_n 1, 1) := by decide +kernel
theorem dX10_choose_11 : decode cX10_choose 11 = .ok (.iconst 2, 1) := by decide +kernel
theorem dX10_choose_12 : decode cX10_choose 12 = .ok (.aload_n 0, 1) := by decide +kernel
theorem dX10_choose_13 : decode cX10_choose 13 = .ok (.getfield 79, 3) := by decide +kernel
theorem dX10_choose_16 : decode cX10_choose 16 = .ok (.iconst 1, 1) := by decide +kernel
theorem dX10_choose_17 : decode cX10_choose 17 = .ok (.isub, 1) := by decide +kernel
theorem dX10_choose_18 : decode cX10_choose 18 = .ok (.iload_n 2, 1) := by decide +kernel
theorem dX10_choose_19 : decode cX10_choose 19 = .ok (.isub, 1) := by decide +kernel
theorem dX10_choose_20 : decode cX10_choose 20 = .ok (.imul, 1) := by decide +kernel
theorem dX10_choose_21 : decode cX10_choose 21 = .ok (.ishr, 1) := by decide +kernel
theorem dX10_choose_22 : decode cX10_choose 22 = .ok (.iconst 3, 1) := by decide +kernel
theorem dX10_choose_23 : decode cX10_choose 23 = .ok (.iand, 1) := by decide +kernel
theorem dX10_choose_24 : decode cX10_choose 24 = .ok (.istore_n 3, 1) := by decide +kernel
theorem dX10_choose_25 : decode cX10_choose 25 = .ok (.aload_n 0, 1) := by decide +kernel
theorem dX10_choose_26 : decode cX10_choose 26 = .ok (.getfield 20, 3) := by decide +kernel
theorem dX10_choose_29 : decode cX10_choose 29 = .ok (.iload_n 2, 1) := by decide +kernel
theorem dX10_choose_30 : decode cX10_choose 30 = .ok (.iload_n 3, 1) := by decide +kernel
theorem dX10_choose_31 : decode cX10_choose 31 = .ok (.iconst 1, 1) := by decide +kernel
theorem dX10_choose_32 : decode cX10_choose 32 = .ok (.iand, 1) := by decide +kernel
theorem dX10_choose_33 : decode cX10_choose 33 = .ok (.iconst 4, 1) := by decide +kernel
theorem dX10_choose_34 : decode cX10_choose 34 = .ok (.iload_n 3, 1) := by decide +kernel
theorem dX10_choose_35 : decode cX10_choose 35 = .ok (.iconst 1, 1) := by decide +kernel
theorem dX10_choose_36 : decode cX10_choose 36 = .ok (.ishr, 1) := by decide +kernel
theorem dX10_choose_37 : decode cX10_choose 37 = .ok (.imul, 1) := by decide +kernel
theorem dX10_choose_38 : decode cX10_choose 38 = .ok (.iadd, 1) := by decide +kernel
theorem dX10_choose_39 : decode cX10_choose 39 = .ok (.iastore, 1) := by decide +kernel
theorem dX10_choose_40 : decode cX10_choose 40 = .ok (.iinc 2 1, 3) := by decide +kernel
theorem dX10_choose_43 : decode cX10_choose 43 = .ok (.goto (-41), 3) := by decide +kernel
theorem dX10_choose_46 : decode cX10_choose 46 = .ok (.return_, 1) := by decide +kernel
theorem dX10_separateNow_0 : decode cX10_separateNow 0 = .ok (.iconst 0, 1) := by decide +kernel
theorem dX10_separateNow_1 : decode cX10_separateNow 1 = .ok (.istore_n 3, 1) := by decide +kernel
theorem dX10_separateNow_2 : decode cX10_separateNow 2 = .ok (.iload_n 3, 1) := by decide +kernel
theorem dX10_separateNow_3 : decode cX10_separateNow 3 = .ok (.bipush 8, 2) := by decide +kernel
theorem dX10_separateNow_5 : decode cX10_separateNow 5 = .ok (.if_icmp .ge 28, 3) := by decide +kernel
theorem dX10_separateNow_8 : decode cX10_separateNow 8 = .ok (.aload_n 0, 1) := by decide +kernel
theorem dX10_separateNow_9 : decode cX10_separateNow 9 = .ok (.getfield 65, 3) := by decide +kernel
theorem dX10_separateNow_12 : decode cX10_separateNow 12 = .ok (.iload_n 3, 1) := by decide +kernel
theorem dX10_separateNow_13 : decode cX10_separateNow 13 = .ok (.aload_n 0, 1) := by decide +kernel
theorem dX10_separateNow_14 : decode cX10_separateNow 14 = .ok (.getfield 23, 3) := by decide +kernel
theorem dX10_separateNow_17 : decode cX10_separateNow 17 = .ok (.iload_n 3, 1) := by decide +kernel
theorem dX10_separateNow_18 : decode cX10_separateNow 18 = .ok (.iaload, 1) := by decide +kernel
theorem dX10_separateNow_19 : decode cX10_separateNow 19 = .ok (.iastore, 1) := by decide +kernel
theorem dX10_separateNow_20 : decode cX10_separateNow 20 = .ok (.aload_n 0, 1) := by decide +kernel
theorem dX10_separateNow_21 : decode cX10_separateNow 21 = .ok (.getfield 23, 3) := by decide +kernel
theorem dX10_separateNow_24 : decode cX10_separateNow 24 = .ok (.iload_n 3, 1) := by decide +kernel
theorem dX10_separateNow_25 : decode cX10_separateNow 25 = .ok (.iconst 2, 1) := by decide +kernel
theorem dX10_separateNow_26 : decode cX10_separateNow 26 = .ok (.iastore, 1) := by decide +kernel
theorem dX10_separateNow_27 : decode cX10_separateNow 27 = .ok (.iinc 3 1, 3) := by decide +kernel
theorem dX10_separateNow_30 : decode cX10_separateNow 30 = .ok (.goto (-28), 3) := by decide +kernel
theorem dX10_separateNow_33 : decode cX10_separateNow 33 = .ok (.iconst 0, 1) := by decide +kernel
theorem dX10_separateNow_34 : decode cX10_separateNow 34 = .ok (.istore_n 3, 1) := by decide +kernel
theorem dX10_separateNow_35 : decode cX10_separateNow 35 = .ok (.iload_n 3, 1) := by decide +kernel
theorem dX10_separateNow_36 : decode cX10_separateNow 36 = .ok (.aload_n 0, 1) := by decide +kernel
theorem dX10_separateNow_37 : decode cX10_separateNow 37 = .ok (.getfield 79, 3) := by decide +kernel
theorem dX10_separateNow_40 : decode cX10_separateNow 40 = .ok (.if_icmp .ge 21, 3) := by decide +kernel
theorem dX10_separateNow_43 : decode cX10_separateNow 43 = .ok (.aload_n 0, 1) := by decide +kernel
theorem dX10_separateNow_44 : decode cX10_separateNow 44 = .ok (.getfield 62, 3) := by decide +kernel
theorem dX10_separateNow_47 : decode cX10_separateNow 47 = .ok (.iload_n 3, 1) := by decide +kernel
theorem dX10_separateNow_48 : decode cX10_separateNow 48 = .ok (.aload_n 0, 1) := by decide +kernel
theorem dX10_separateNow_49 : decode cX10_separateNow 49 = .ok (.getfield 20, 3) := by decide +kernel
theorem dX10_separateNow_52 : decode cX10_separateNow 52 = .ok (.iload_n 3, 1) := by decide +kernel
theorem dX10_separateNow_53 : decode cX10_separateNow 53 = .ok (.iaload, 1) := by decide +kernel
theorem dX10_separateNow_54 : decode cX10_separateNow 54 = .ok (.iastore, 1) := by decide +kernel
theorem dX10_separateNow_55 : decode cX10_separateNow 55 = .ok (.iinc 3 1, 3) := by decide +kernel
theorem dX10_separateNow_58 : decode cX10_separateNow 58 = .ok (.goto (-23), 3) := by decide +kernel
theorem dX10_separateNow_61 : decode cX10_separateNow 61 = .ok (.iconst 0, 1) := by decide +kernel
theorem dX10_separateNow_62 : decode cX10_separateNow 62 = .ok (.istore_n 3, 1) := by decide +kernel
theorem dX10_separateNow_63 : decode cX10_separateNow 63 = .ok (.iload_n 3, 1) := by decide +kernel
theorem dX10_separateNow_64 : decode cX10_separateNow 64 = .ok (.iconst 1, 1) := by decide +kernel
theorem dX10_separateNow_65 : decode cX10_separateNow 65 = .ok (.iconst 2, 1) := by decide +kernel
theorem dX10_separateNow_66 : decode cX10_separateNow 66 = .ok (.aload_n 0, 1) := by decide +kernel
theorem dX10_separateNow_67 : decode cX10_separateNow 67 = .ok (.getfield 79, 3) := by decide +kernel
theorem dX10_separateNow_70 : decode cX10_separateNow 70 = .ok (.imul, 1) := by decide +kernel
theorem dX10_separateNow_71 : decode cX10_separateNow 71 = .ok (.ishl, 1) := by decide +kernel
theorem dX10_separateNow_72 : decode cX10_separateNow 72 = .ok (.if_icmp .ge 36, 3) := by decide +kernel
theorem dX10_separateNow_75 : decode cX10_separateNow 75 = .ok (.aload_n 0, 1) := by decide +kernel
theorem dX10_separateNow_76 : decode cX10_separateNow 76 = .ok (.iload_n 3, 1) := by decide +kernel
theorem dX10_separateNow_77 : decode cX10_separateNow 77 = .ok (.invokevirtual 268, 3) := by decide +kernel
theorem dX10_separateNow_80 : decode cX10_separateNow 80 = .ok (.aload_n 0, 1) := by decide +kernel
theorem dX10_separateNow_81 : decode cX10_separateNow 81 = .ok (.iload_n 1, 1) := by decide +kernel
theorem dX10_separateNow_82 : decode cX10_separateNow 82 = .ok (.iload_n 2, 1) := by decide +kernel
theorem dX10_separateNow_83 : decode cX10_separateNow 83 = .ok (.invokevirtual 214, 3) := by decide +kernel
theorem dX10_separateNow_86 : decode cX10_separateNow 86 = .ok (.ifCond .ne 16, 3) := by decide +kernel
theorem dX10_separateNow_89 : decode cX10_separateNow 89 = .ok (.aload_n 0, 1) := by decide +kernel
theorem dX10_separateNow_90 : decode cX10_separateNow 90 = .ok (.invokevirtual 246, 3) := by decide +kernel
theorem dX10_separateNow_93 : decode cX10_separateNow 93 = .ok (.aload_n 0, 1) := by decide +kernel
theorem dX10_separateNow_94 : decode cX10_separateNow 94 = .ok (.getfield 82, 3) := by decide +kernel
theorem dX10_separateNow_97 : decode cX10_separateNow 97 = .ok (.if_icmp .ne 5, 3) := by decide +kernel
theorem dX10_separateNow_100 : decode cX10_separateNow 100 = .ok (.iload_n 3, 1) := by decide +kernel
theorem dX10_separateNow_101 : decode cX10_separateNow 101 = .ok (.ireturn, 1) := by decide +kernel
theorem dX10_separateNow_102 : decode cX10_separateNow 102 = .ok (.iinc 3 1, 3) := by decide +kernel
theorem dX10_separateNow_105 : decode cX10_separateNow 105 = .ok (.goto (-42), 3) := by decide +kernel
theorem dX10_separateNow_108 : decode cX10_separateNow 108 = .ok (.iconst 0, 1) := by decide +kernel
theorem dX10_separateNow_109 : decode cX10_separateNow 109 = .ok (.istore_n 3, 1) := by decide +kernel
theorem dX10_separateNow_110 : decode cX10_separateNow 110 = .ok (.iload_n 3, 1) := by decide +kernel
theorem dX10_separateNow_111 : decode cX10_separateNow 111 = .ok (.bipush 8, 2) := by decide +kernel
theorem dX10_separateNow_113 : decode cX10_separateNow 113 = .ok (.if_icmp .ge 21, 3) := by decide +kernel
theorem dX10_separateNow_116 : decode cX10_separateNow 116 = .ok (.aload_n 0, 1) := by decide +kernel
theorem dX10_separateNow_117 : decode cX10_separateNow 117 = .ok (.getfield 23, 3) := by decide +kernel
theorem dX10_separateNow_120 : decode cX10_separateNow 120 = .ok (.iload_n 3, 1) := by decide +kernel
theorem dX10_separateNow_121 : decode cX10_separateNow 121 = .ok (.aload_n 0, 1) := by decide +kernel
theorem dX10_separateNow_122 : decode cX10_separateNow 122 = .ok (.getfield 65, 3) := by decide +kernel
theorem dX10_separateNow_125 : decode cX10_separateNow 125 = .ok (.iload_n 3, 1) := by decide +kernel
theorem dX10_separateNow_126 : decode cX10_separateNow 126 = .ok (.iaload, 1) := by decide +kernel
theorem dX10_separateNow_127 : decode cX10_separateNow 127 = .ok (.iastore, 1) := by decide +kernel
theorem dX10_separateNow_128 : decode cX10_separateNow 128 = .ok (.iinc 3 1, 3) := by decide +kernel
theorem dX10_separateNow_131 : decode cX10_separateNow 131 = .ok (.goto (-21), 3) := by decide +kernel
theorem dX10_separateNow_134 : decode cX10_separateNow 134 = .ok (.iconst 0, 1) := by decide +kernel
theorem dX10_separateNow_135 : decode cX10_separateNow 135 = .ok (.istore_n 3, 1) := by decide +kernel
theorem dX10_separateNow_136 : decode cX10_separateNow 136 = .ok (.iload_n 3, 1) := by decide +kernel
theorem dX10_separateNow_137 : decode cX10_separateNow 137 = .ok (.aload_n 0, 1) := by decide +kernel
theorem dX10_separateNow_138 : decode cX10_separateNow 138 = .ok (.getfield 79, 3) := by decide +kernel
theorem dX10_separateNow_141 : decode cX10_separateNow 141 = .ok (.if_icmp .ge 21, 3) := by decide +kernel
theorem dX10_separateNow_144 : decode cX10_separateNow 144 = .ok (.aload_n 0, 1) := by decide +kernel
theorem dX10_separateNow_145 : decode cX10_separateNow 145 = .ok (.getfield 20, 3) := by decide +kernel
theorem dX10_separateNow_148 : decode cX10_separateNow 148 = .ok (.iload_n 3, 1) := by decide +kernel
theorem dX10_separateNow_149 : decode cX10_separateNow 149 = .ok (.aload_n 0, 1) := by decide +kernel
theorem dX10_separateNow_150 : decode cX10_separateNow 150 = .ok (.getfield 62, 3) := by decide +kernel
theorem dX10_separateNow_153 : decode cX10_separateNow 153 = .ok (.iload_n 3, 1) := by decide +kernel
theorem dX10_separateNow_154 : decode cX10_separateNow 154 = .ok (.iaload, 1) := by decide +kernel
theorem dX10_separateNow_155 : decode cX10_separateNow 155 = .ok (.iastore, 1) := by decide +kernel
theorem dX10_separateNow_156 : decode cX10_separateNow 156 = .ok (.iinc 3 1, 3) := by decide +kernel
theorem dX10_separateNow_159 : decode cX10_separateNow 159 = .ok (.goto (-23), 3) := by decide +kernel
theorem dX10_separateNow_162 : decode cX10_separateNow 162 = .ok (.iconst (-1), 1) := by decide +kernel
theorem dX10_separateNow_163 : decode cX10_separateNow 163 = .ok (.ireturn, 1) := by decide +kernel
theorem dX10_separate_0 : decode cX10_separate 0 = .ok (.aload_n 0, 1) := by decide +kernel
theorem dX10_separate_1 : decode cX10_separate 1 = .ok (.iload_n 1, 1) := by decide +kernel
theorem dX10_separate_2 : decode cX10_separate 2 = .ok (.invokevirtual 114, 3) := by decide +kernel
theorem dX10_separate_5 : decode cX10_separate 5 = .ok (.ifCond .eq 15, 3) := by decide +kernel
theorem dX10_separate_8 : decode cX10_separate 8 = .ok (.aload_n 0, 1) := by decide +kernel
theorem dX10_separate_9 : decode cX10_separate 9 = .ok (.iload_n 2, 1) := by decide +kernel
theorem dX10_separate_10 : decode cX10_separate 10 = .ok (.invokevirtual 114, 3) := by decide +kernel
theorem dX10_separate_13 : decode cX10_separate 13 = .ok (.ifCond .eq 7, 3) := by decide +kernel
theorem dX10_separate_16 : decode cX10_separate 16 = .ok (.iconst 1, 1) := by decide +kernel
theorem dX10_separate_17 : decode cX10_separate 17 = .ok (.goto 4, 3) := by decide +kernel
theorem dX10_separate_20 : decode cX10_separate 20 = .ok (.iconst 0, 1) := by decide +kernel
theorem dX10_separate_21 : decode cX10_separate 21 = .ok (.istore_n 3, 1) := by decide +kernel
theorem dX10_separate_22 : decode cX10_separate 22 = .ok (.aload_n 0, 1) := by decide +kernel
theorem dX10_separate_23 : decode cX10_separate 23 = .ok (.iload_n 3, 1) := by decide +kernel
theorem dX10_separate_24 : decode cX10_separate 24 = .ok (.ifCond .ne 7, 3) := by decide +kernel
theorem dX10_separate_27 : decode cX10_separate 27 = .ok (.iconst 1, 1) := by decide +kernel
theorem dX10_separate_28 : decode cX10_separate 28 = .ok (.goto 30, 3) := by decide +kernel
theorem dX10_separate_31 : decode cX10_separate 31 = .ok (.aload_n 0, 1) := by decide +kernel
theorem dX10_separate_32 : decode cX10_separate 32 = .ok (.iload_n 1, 1) := by decide +kernel
theorem dX10_separate_33 : decode cX10_separate 33 = .ok (.iload_n 2, 1) := by decide +kernel
theorem dX10_separate_34 : decode cX10_separate 34 = .ok (.invokevirtual 117, 3) := by decide +kernel
theorem dX10_separate_37 : decode cX10_separate 37 = .ok (.ifCond .ne 7, 3) := by decide +kernel
theorem dX10_separate_40 : decode cX10_separate 40 = .ok (.iconst 2, 1) := by decide +kernel
theorem dX10_separate_41 : decode cX10_separate 41 = .ok (.goto 17, 3) := by decide +kernel
theorem dX10_separate_44 : decode cX10_separate 44 = .ok (.aload_n 0, 1) := by decide +kernel
theorem dX10_separate_45 : decode cX10_separate 45 = .ok (.getfield 79, 3) := by decide +kernel
theorem dX10_separate_48 : decode cX10_separate 48 = .ok (.bipush 6, 2) := by decide +kernel
theorem dX10_separate_50 : decode cX10_separate 50 = .ok (.if_icmp .le 7, 3) := by decide +kernel
theorem dX10_separate_53 : decode cX10_separate 53 = .ok (.iconst 3, 1) := by decide +kernel
theorem dX10_separate_54 : decode cX10_separate 54 = .ok (.goto 4, 3) := by decide +kernel
theorem dX10_separate_57 : decode cX10_separate 57 = .ok (.iconst 0, 1) := by decide +kernel
theorem dX10_separate_58 : decode cX10_separate 58 = .ok (.putfield 72, 3) := by decide +kernel
theorem dX10_separate_61 : decode cX10_separate 61 = .ok (.aload_n 0, 1) := by decide +kernel
theorem dX10_separate_62 : decode cX10_separate 62 = .ok (.getfield 72, 3) := by decide +kernel
theorem dX10_separate_65 : decode cX10_separate 65 = .ok (.ifCond .le 7, 3) := by decide +kernel
theorem dX10_separate_68 : decode cX10_separate 68 = .ok (.iconst 0, 1) := by decide +kernel
theorem dX10_separate_69 : decode cX10_separate 69 = .ok (.goto 9, 3) := by decide +kernel
theorem dX10_separate_72 : decode cX10_separate 72 = .ok (.aload_n 0, 1) := by decide +kernel
theorem dX10_separate_73 : decode cX10_separate 73 = .ok (.iload_n 1, 1) := by decide +kernel
theorem dX10_separate_74 : decode cX10_separate 74 = .ok (.iload_n 2, 1) := by decide +kernel
theorem dX10_separate_75 : decode cX10_separate 75 = .ok (.invokevirtual 271, 3) := by decide +kernel
theorem dX10_separate_78 : decode cX10_separate 78 = .ok (.ireturn, 1) := by decide +kernel
theorem dX10_hits_0 : decode cX10_hits 0 = .ok (.iconst 0, 1) := by decide +kernel
theorem dX10_hits_1 : decode cX10_hits 1 = .ok (.istore 5, 2) := by decide +kernel
theorem dX10_hits_3 : decode cX10_hits 3 = .ok (.iconst 0, 1) := by decide +kernel
theorem dX10_hits_4 : decode cX10_hits 4 = .ok (.istore 6, 2) := by decide +kernel
theorem dX10_hits_6 : decode cX10_hits 6 = .ok (.iload 6, 2) := by decide +kernel
theorem dX10_hits_8 : decode cX10_hits 8 = .ok (.aload_n 0, 1) := by decide +kernel
theorem dX10_hits_9 : decode cX10_hits 9 = .ok (.getfield 23, 3) := by decide +kernel
theorem dX10_hits_12 : decode cX10_hits 12 = .ok (.aload_n 0, 1) := by decide +kernel
theorem dX10_hits_13 : decode cX10_hits 13 = .ok (.getfield 13, 3) := by decide +kernel
theorem dX10_hits_16 : decode cX10_hits 16 = .ok (.iload_n 1, 1) := by decide +kernel
theorem dX10_hits_17 : decode cX10_hits 17 = .ok (.iaload, 1) := by decide +kernel
theorem dX10_hits_18 : decode cX10_hits 18 = .ok (.iaload, 1) := by decide +kernel
theorem dX10_hits_19 : decode cX10_hits 19 = .ok (.if_icmp .ge 42, 3) := by decide +kernel
theorem dX10_hits_22 : decode cX10_hits 22 = .ok (.iload 5, 2) := by decide +kernel
theorem dX10_hits_24 : decode cX10_hits 24 = .ok (.aload_n 0, 1) := by decide +kernel
theorem dX10_hits_25 : decode cX10_hits 25 = .ok (.iload_n 1, 1) := by decide +kernel
theorem dX10_hits_26 : decode cX10_hits 26 = .ok (.iload 6, 2) := by decide +kernel
theorem dX10_hits_28 : decode cX10_hits 28 = .ok (.invokevirtual 208, 3) := by decide +kernel
theorem dX10_hits_31 : decode cX10_hits 31 = .ok (.iload_n 3, 1) := by decide +kernel
theorem dX10_hits_32 : decode cX10_hits 32 = .ok (.if_icmp .ne 19, 3) := by decide +kernel
theorem dX10_hits_35 : decode cX10_hits 35 = .ok (.aload_n 0, 1) := by decide +kernel
theorem dX10_hits_36 : decode cX10_hits 36 = .ok (.iload_n 2, 1) := by decide +kernel
theorem dX10_hits_37 : decode cX10_hits 37 = .ok (.iload 6, 2) := by decide +kernel
theorem dX10_hits_39 : decode cX10_hits 39 = .ok (.invokevirtual 208, 3) := by decide +kernel
theorem dX10_hits_42 : decode cX10_hits 42 = .ok (.iload 4, 2) := by decide +kernel
theorem dX10_hits_44 : decode cX10_hits 44 = .ok (.if_icmp .ne 7, 3) := by decide +kernel
theorem dX10_hits_47 : decode cX10_hits 47 = .ok (.iconst 1, 1) := by decide +kernel
theorem dX10_hits_48 : decode cX10_hits 48 = .ok (.goto 4, 3) := by decide +kernel
theorem dX10_hits_51 : decode cX10_hits 51 = .ok (.iconst 0, 1) := by decide +kernel
theorem dX10_hits_52 : decode cX10_hits 52 = .ok (.iadd, 1) := by decide +kernel
theorem dX10_hits_53 : decode cX10_hits 53 = .ok (.istore 5, 2) := by decide +kernel
theorem dX10_hits_55 : decode cX10_hits 55 = .ok (.iinc 6 1, 3) := by decide +kernel
theorem dX10_hits_58 : decode cX10_hits 58 = .ok (.goto (-52), 3) := by decide +kernel
theorem dX10_hits_61 : decode cX10_hits 61 = .ok (.iload 5, 2) := by decide +kernel
theorem dX10_hits_63 : decode cX10_hits 63 = .ok (.ireturn, 1) := by decide +kernel
theorem dX10_isProduct_0 : decode cX10_isProduct 0 = .ok (.aload_n 0, 1) := by decide +kernel
theorem dX10_isProduct_1 : decode cX10_isProduct 1 = .ok (.aload_n 0, 1) := by decide +kernel
theorem dX10_isProduct_2 : decode cX10_isProduct 2 = .ok (.iload_n 1, 1) := by decide +kernel
theorem dX10_isProduct_3 : decode cX10_isProduct 3 = .ok (.invokevirtual 169, 3) := by decide +kernel
theorem dX10_isProduct_6 : decode cX10_isProduct 6 = .ok (.ifCond .eq 11, 3) := by decide +kernel
theorem dX10_isProduct_9 : decode cX10_isProduct 9 = .ok (.aload_n 0, 1) := by decide +kernel
theorem dX10_isProduct_10 : decode cX10_isProduct 10 = .ok (.iload_n 2, 1) := by decide +kernel
theorem dX10_isProduct_11 : decode cX10_isProduct 11 = .ok (.invokevirtual 169, 3) := by decide +kernel
theorem dX10_isProduct_14 : decode cX10_isProduct 14 = .ok (.ifCond .ne 7, 3) := by decide +kernel
theorem dX10_isProduct_17 : decode cX10_isProduct 17 = .ok (.iconst 1, 1) := by decide +kernel
theorem dX10_isProduct_18 : decode cX10_isProduct 18 = .ok (.goto 28, 3) := by decide +kernel
theorem dX10_isProduct_21 : decode cX10_isProduct 21 = .ok (.iload_n 1, 1) := by decide +kernel
theorem dX10_isProduct_22 : decode cX10_isProduct 22 = .ok (.iload_n 2, 1) := by decide +kernel
theorem dX10_isProduct_23 : decode cX10_isProduct 23 = .ok (.if_icmp .eq 18, 3) := by decide +kernel
theorem dX10_isProduct_26 : decode cX10_isProduct 26 = .ok (.aload_n 0, 1) := by decide +kernel
theorem dX10_isProduct_27 : decode cX10_isProduct 27 = .ok (.getfield 13, 3) := by decide +kernel
theorem dX10_isProduct_30 : decode cX10_isProduct 30 = .ok (.iload_n 1, 1) := by decide +kernel
theorem dX10_isProduct_31 : decode cX10_isProduct 31 = .ok (.iaload, 1) := by decide +kernel
theorem dX10_isProduct_32 : decode cX10_isProduct 32 = .ok (.aload_n 0, 1) := by decide +kernel
theorem dX10_isProduct_33 : decode cX10_isProduct 33 = .ok (.getfield 13, 3) := by decide +kernel
theorem dX10_isProduct_36 : decode cX10_isProduct 36 = .ok (.iload_n 2, 1) := by decide +kernel
theorem dX10_isProduct_37 : decode cX10_isProduct 37 = .ok (.iaload, 1) := by decide +kernel
theorem dX10_isProduct_38 : decode cX10_isProduct 38 = .ok (.if_icmp .eq 7, 3) := by decide +kernel
theorem dX10_isProduct_41 : decode cX10_isProduct 41 = .ok (.iconst 2, 1) := by decide +kernel
theorem dX10_isProduct_42 : decode cX10_isProduct 42 = .ok (.goto 4, 3) := by decide +kernel
theorem dX10_isProduct_45 : decode cX10_isProduct 45 = .ok (.iconst 0, 1) := by decide +kernel
theorem dX10_isProduct_46 : decode cX10_isProduct 46 = .ok (.putfield 72, 3) := by decide +kernel
theorem dX10_isProduct_49 : decode cX10_isProduct 49 = .ok (.aload_n 0, 1) := by decide +kernel
theorem dX10_isProduct_50 : decode cX10_isProduct 50 = .ok (.getfield 72, 3) := by decide +kernel
theorem dX10_isProduct_53 : decode cX10_isProduct 53 = .ok (.ifCond .ne 7, 3) := by decide +kernel
theorem dX10_isProduct_56 : decode cX10_isProduct 56 = .ok (.iconst 1, 1) := by decide +kernel
theorem dX10_isProduct_57 : decode cX10_isProduct 57 = .ok (.goto 4, 3) := by decide +kernel
theorem dX10_isProduct_60 : decode cX10_isProduct 60 = .ok (.iconst 0, 1) := by decide +kernel
theorem dX10_isProduct_61 : decode cX10_isProduct 61 = .ok (.istore_n 3, 1) := by decide +kernel
theorem dX10_isProduct_62 : decode cX10_isProduct 62 = .ok (.iconst 0, 1) := by decide +kernel
theorem dX10_isProduct_63 : decode cX10_isProduct 63 = .ok (.istore 4, 2) := by decide +kernel
theorem dX10_isProduct_65 : decode cX10_isProduct 65 = .ok (.iload_n 3, 1) := by decide +kernel
theorem dX10_isProduct_66 : decode cX10_isProduct 66 = .ok (.ifCond .eq 81, 3) := by decide +kernel
theorem dX10_isProduct_69 : decode cX10_isProduct 69 = .ok (.iload 4, 2) := by decide +kernel
theorem dX10_isProduct_71 : decode cX10_isProduct 71 = .ok (.aload_n 0, 1) := by decide +kernel
theorem dX10_isProduct_72 : decode cX10_isProduct 72 = .ok (.getfield 23, 3) := by decide +kernel
theorem dX10_isProduct_75 : decode cX10_isProduct 75 = .ok (.aload_n 0, 1) := by decide +kernel
theorem dX10_isProduct_76 : decode cX10_isProduct 76 = .ok (.getfield 17, 3) := by decide +kernel
theorem dX10_isProduct_79 : decode cX10_isProduct 79 = .ok (.iload_n 1, 1) := by decide +kernel
theorem dX10_isProduct_80 : decode cX10_isProduct 80 = .ok (.iaload, 1) := by decide +kernel
theorem dX10_isProduct_81 : decode cX10_isProduct 81 = .ok (.iaload, 1) := by decide +kernel
theorem dX10_isProduct_82 : decode cX10_isProduct 82 = .ok (.aload_n 0, 1) := by decide +kernel
theorem dX10_isProduct_83 : decode cX10_isProduct 83 = .ok (.getfield 23, 3) := by decide +kernel
theorem dX10_isProduct_86 : decode cX10_isProduct 86 = .ok (.aload_n 0, 1) := by decide +kernel
theorem dX10_isProduct_87 : decode cX10_isProduct 87 = .ok (.getfield 17, 3) := by decide +kernel
theorem dX10_isProduct_90 : decode cX10_isProduct 90 = .ok (.iload_n 2, 1) := by decide +kernel
theorem dX10_isProduct_91 : decode cX10_isProduct 91 = .ok (.iaload, 1) := by decide +kernel
theorem dX10_isProduct_92 : decode cX10_isProduct 92 = .ok (.iaload, 1) := by decide +kernel
theorem dX10_isProduct_93 : decode cX10_isProduct 93 = .ok (.imul, 1) := by decide +kernel
theorem dX10_isProduct_94 : decode cX10_isProduct 94 = .ok (.if_icmp .ge 53, 3) := by decide +kernel
theorem dX10_isProduct_97 : decode cX10_isProduct 97 = .ok (.aload_n 0, 1) := by decide +kernel
theorem dX10_isProduct_98 : decode cX10_isProduct 98 = .ok (.iload_n 1, 1) := by decide +kernel
theorem dX10_isProduct_99 : decode cX10_isProduct 99 = .ok (.iload_n 2, 1) := by decide +kernel
theorem dX10_isProduct_100 : decode cX10_isProduct 100 = .ok (.iload 4, 2) := by decide +kernel
theorem dX10_isProduct_102 : decode cX10_isProduct 102 = .ok (.aload_n 0, 1) := by decide +kernel
theorem dX10_isProduct_103 : decode cX10_isProduct 103 = .ok (.getfield 23, 3) := by decide +kernel
theorem dX10_isProduct_106 : decode cX10_isProduct 106 = .ok (.aload_n 0, 1) := by decide +kernel
theorem dX10_isProduct_107 : decode cX10_isProduct 107 = .ok (.getfield 17, 3) := by decide +kernel
theorem dX10_isProduct_110 : decode cX10_isProduct 110 = .ok (.iload_n 2, 1) := by decide +kernel
theorem dX10_isProduct_111 : decode cX10_isProduct 111 = .ok (.iaload, 1) := by decide +kernel
theorem dX10_isProduct_112 : decode cX10_isProduct 112 = .ok (.iaload, 1) := by decide +kernel
theorem dX10_isProduct_113 : decode cX10_isProduct 113 = .ok (.idiv, 1) := by decide +kernel
theorem dX10_isProduct_114 : decode cX10_isProduct 114 = .ok (.iload 4, 2) := by decide +kernel
theorem dX10_isProduct_116 : decode cX10_isProduct 116 = .ok (.aload_n 0, 1) := by decide +kernel
theorem dX10_isProduct_117 : decode cX10_isProduct 117 = .ok (.getfield 23, 3) := by decide +kernel
theorem dX10_isProduct_120 : decode cX10_isProduct 120 = .ok (.aload_n 0, 1) := by decide +kernel
theorem dX10_isProduct_121 : decode cX10_isProduct 121 = .ok (.getfield 17, 3) := by decide +kernel
theorem dX10_isProduct_124 : decode cX10_isProduct 124 = .ok (.iload_n 2, 1) := by decide +kernel
theorem dX10_isProduct_125 : decode cX10_isProduct 125 = .ok (.iaload, 1) := by decide +kernel
theorem dX10_isProduct_126 : decode cX10_isProduct 126 = .ok (.iaload, 1) := by decide +kernel
theorem dX10_isProduct_127 : decode cX10_isProduct 127 = .ok (.irem, 1) := by decide +kernel
theorem dX10_isProduct_128 : decode cX10_isProduct 128 = .ok (.invokevirtual 274, 3) := by decide +kernel
theorem dX10_isProduct_131 : decode cX10_isProduct 131 = .ok (.iconst 1, 1) := by decide +kernel
theorem dX10_isProduct_132 : decode cX10_isProduct 132 = .ok (.if_icmp .ne 7, 3) := by decide +kernel
theorem dX10_isProduct_135 : decode cX10_isProduct 135 = .ok (.iconst 1, 1) := by decide +kernel
theorem dX10_isProduct_136 : decode cX10_isProduct 136 = .ok (.goto 4, 3) := by decide +kernel
theorem dX10_isProduct_139 : decode cX10_isProduct 139 = .ok (.iconst 0, 1) := by decide +kernel
theorem dX10_isProduct_140 : decode cX10_isProduct 140 = .ok (.istore_n 3, 1) := by decide +kernel
theorem dX10_isProduct_141 : decode cX10_isProduct 141 = .ok (.iinc 4 1, 3) := by decide +kernel
theorem dX10_isProduct_144 : decode cX10_isProduct 144 = .ok (.goto (-79), 3) := by decide +kernel
theorem dX10_isProduct_147 : decode cX10_isProduct 147 = .ok (.iload_n 3, 1) := by decide +kernel
theorem dX10_isProduct_148 : decode cX10_isProduct 148 = .ok (.ireturn, 1) := by decide +kernel
theorem dX10_isPullback_0 : decode cX10_isPullback 0 = .ok (.aload_n 0, 1) := by decide +kernel
theorem dX10_isPullback_1 : decode cX10_isPullback 1 = .ok (.iload_n 1, 1) := by decide +kernel
theorem dX10_isPullback_2 : decode cX10_isPullback 2 = .ok (.invokevirtual 169, 3) := by decide +kernel
theorem dX10_isPullback_5 : decode cX10_isPullback 5 = .ok (.ifCond .eq 32, 3) := by decide +kernel
theorem dX10_isPullback_8 : decode cX10_isPullback 8 = .ok (.aload_n 0, 1) := by decide +kernel
theorem dX10_isPullback_9 : decode cX10_isPullback 9 = .ok (.iload_n 2, 1) := by decide +kernel
theorem dX10_isPullback_10 : decode cX10_isPullback 10 = .ok (.invokevirtual 169, 3) := by decide +kernel
theorem dX10_isPullback_13 : decode cX10_isPullback 13 = .ok (.ifCond .eq 24, 3) := by decide +kernel
theorem dX10_isPullback_16 : decode cX10_isPullback 16 = .ok (.aload_n 0, 1) := by decide +kernel
theorem dX10_isPullback_17 : decode cX10_isPullback 17 = .ok (.iload_n 3, 1) := by decide +kernel
theorem dX10_isPullback_18 : decode cX10_isPullback 18 = .ok (.invokevirtual 169, 3) := by decide +kernel
theorem dX10_isPullback_21 : decode cX10_isPullback 21 = .ok (.ifCond .eq 16, 3) := by decide +kernel
theorem dX10_isPullback_24 : decode cX10_isPullback 24 = .ok (.aload_n 0, 1) := by decide +kernel
theorem dX10_isPullback_25 : decode cX10_isPullback 25 = .ok (.iload 4, 2) := by decide +kernel
theorem dX10_isPullback_27 : decode cX10_isPullback 27 = .ok (.invokevirtual 169, 3) := by decide +kernel
theorem dX10_isPullback_30 : decode cX10_isPullback 30 = .ok (.ifCond .eq 7, 3) := by decide +kernel
theorem dX10_isPullback_33 : decode cX10_isPullback 33 = .ok (.iconst 1, 1) := by decide +kernel
theorem dX10_isPullback_34 : decode cX10_isPullback 34 = .ok (.goto 4, 3) := by decide +kernel
theorem dX10_isPullback_37 : decode cX10_isPullback 37 = .ok (.iconst 0, 1) := by decide +kernel
theorem dX10_isPullback_38 : decode cX10_isPullback 38 = .ok (.istore 5, 2) := by decide +kernel
theorem dX10_isPullback_40 : decode cX10_isPullback 40 = .ok (.iload 5, 2) := by decide +kernel
theorem dX10_isPullback_42 : decode cX10_isPullback 42 = .ok (.ifCond .eq 69, 3) := by decide +kernel
theorem dX10_isPullback_45 : decode cX10_isPullback 45 = .ok (.aload_n 0, 1) := by decide +kernel
theorem dX10_isPullback_46 : decode cX10_isPullback 46 = .ok (.getfield 13, 3) := by decide +kernel
theorem dX10_isPullback_49 : decode cX10_isPullback 49 = .ok (.iload_n 2, 1) := by decide +kernel
theorem dX10_isPullback_50 : decode cX10_isPullback 50 = .ok (.iaload, 1) := by decide +kernel
theorem dX10_isPullback_51 : decode cX10_isPullback 51 = .ok (.aload_n 0, 1) := by decide +kernel
theorem dX10_isPullback_52 : decode cX10_isPullback 52 = .ok (.getfield 17, 3) := by decide +kernel
theorem dX10_isPullback_55 : decode cX10_isPullback 55 = .ok (.iload_n 1, 1) := by decide +kernel
theorem dX10_isPullback_56 : decode cX10_isPullback 56 = .ok (.iaload, 1) := by decide +kernel
theorem dX10_isPullback_57 : decode cX10_isPullback 57 = .ok (.if_icmp .ne 54, 3) := by decide +kernel
theorem dX10_isPullback_60 : decode cX10_isPullback 60 = .ok (.aload_n 0, 1) := by decide +kernel
theorem dX10_isPullback_61 : decode cX10_isPullback 61 = .ok (.getfield 13, 3) := by decide +kernel
theorem dX10_isPullback_64 : decode cX10_isPullback 64 = .ok (.iload_n 3, 1) := by decide +kernel
theorem dX10_isPullback_65 : decode cX10_isPullback 65 = .ok (.iaload, 1) := by decide +kernel
theorem dX10_isPullback_66 : decode cX10_isPullback 66 = .ok (.aload_n 0, 1) := by decide +kernel
theorem dX10_isPullback_67 : decode cX10_isPullback 67 = .ok (.getfield 13, 3) := by decide +kernel
theorem dX10_isPullback_70 : decode cX10_isPullback 70 = .ok (.iload_n 1, 1) := by decide +kernel
theorem dX10_isPullback_71 : decode cX10_isPullback 71 = .ok (.iaload, 1) := by decide +kernel
theorem dX10_isPullback_72 : decode cX10_isPullback 72 = .ok (.if_icmp .ne 39, 3) := by decide +kernel
theorem dX10_isPullback_75 : decode cX10_isPullback 75 = .ok (.aload_n 0, 1) := by decide +kernel
theorem dX10_isPullback_76 : decode cX10_isPullback 76 = .ok (.getfield 13, 3) := by decide +kernel
theorem dX10_isPullback_79 : decode cX10_isPullback 79 = .ok (.iload 4, 2) := by decide +kernel
theorem dX10_isPullback_81 : decode cX10_isPullback 81 = .ok (.iaload, 1) := by decide +kernel
theorem dX10_isPullback_82 : decode cX10_isPullback 82 = .ok (.aload_n 0, 1) := by decide +kernel
theorem dX10_isPullback_83 : decode cX10_isPullback 83 = .ok (.getfield 17, 3) := by decide +kernel
theorem dX10_isPullback_86 : decode cX10_isPullback 86 = .ok (.iload_n 3, 1) := by decide +kernel
theorem dX10_isPullback_87 : decode cX10_isPullback 87 = .ok (.iaload, 1) := by decide +kernel
theorem dX10_isPullback_88 : decode cX10_isPullback 88 = .ok (.if_icmp .ne 23, 3) := by decide +kernel
theorem dX10_isPullback_91 : decode cX10_isPullback 91 = .ok (.aload_n 0, 1) := by decide +kernel
theorem dX10_isPullback_92 : decode cX10_isPullback 92 = .ok (.getfield 17, 3) := by decide +kernel
theorem dX10_isPullback_95 : decode cX10_isPullback 95 = .ok (.iload 4, 2) := by decide +kernel
theorem dX10_isPullback_97 : decode cX10_isPullback 97 = .ok (.iaload, 1) := by decide +kernel
theorem dX10_isPullback_98 : decode cX10_isPullback 98 = .ok (.aload_n 0, 1) := by decide +kernel
theorem dX10_isPullback_99 : decode cX10_isPullback 99 = .ok (.getfield 17, 3) := by decide +kernel
theorem dX10_isPullback_102 : decode cX10_isPullback 102 = .ok (.iload_n 2, 1) := by decide +kernel
theorem dX10_isPullback_103 : decode cX10_isPullback 103 = .ok (.iaload, 1) := by decide +kernel
theorem dX10_isPullback_104 : decode cX10_isPullback 104 = .ok (.if_icmp .ne 7, 3) := by decide +kernel
theorem dX10_isPullback_107 : decode cX10_isPullback 107 = .ok (.iconst 1, 1) := by decide +kernel
theorem dX10_isPullback_108 : decode cX10_isPullback 108 = .ok (.goto 4, 3) := by decide +kernel
theorem dX10_isPullback_111 : decode cX10_isPullback 111 = .ok (.iconst 0, 1) := by decide +kernel
theorem dX10_isPullback_112 : decode cX10_isPullback 112 = .ok (.istore 6, 2) := by decide +kernel
theorem dX10_isPullback_114 : decode cX10_isPullback 114 = .ok (.aload_n 0, 1) := by decide +kernel
theorem dX10_isPullback_115 : decode cX10_isPullback 115 = .ok (.iload 5, 2) := by decide +kernel
theorem dX10_isPullback_117 : decode cX10_isPullback 117 = .ok (.ifCond .ne 7, 3) := by decide +kernel
theorem dX10_isPullback_120 : decode cX10_isPullback 120 = .ok (.iconst 1, 1) := by decide +kernel
theorem dX10_isPullback_121 : decode cX10_isPullback 121 = .ok (.goto 13, 3) := by decide +kernel
theorem dX10_isPullback_124 : decode cX10_isPullback 124 = .ok (.iload 6, 2) := by decide +kernel
theorem dX10_isPullback_126 : decode cX10_isPullback 126 = .ok (.ifCond .eq 7, 3) := by decide +kernel
theorem dX10_isPullback_129 : decode cX10_isPullback 129 = .ok (.iconst 0, 1) := by decide +kernel
theorem dX10_isPullback_130 : decode cX10_isPullback 130 = .ok (.goto 4, 3) := by decide +kernel
theorem dX10_isPullback_133 : decode cX10_isPullback 133 = .ok (.iconst 2, 1) := by decide +kernel
theorem dX10_isPullback_134 : decode cX10_isPullback 134 = .ok (.putfield 72, 3) := by decide +kernel
theorem dX10_isPullback_137 : decode cX10_isPullback 137 = .ok (.aload_n 0, 1) := by decide +kernel
theorem dX10_isPullback_138 : decode cX10_isPullback 138 = .ok (.getfield 72, 3) := by decide +kernel
theorem dX10_isPullback_141 : decode cX10_isPullback 141 = .ok (.ifCond .ne 7, 3) := by decide +kernel
theorem dX10_isPullback_144 : decode cX10_isPullback 144 = .ok (.iconst 1, 1) := by decide +kernel
theorem dX10_isPullback_145 : decode cX10_isPullback 145 = .ok (.goto 4, 3) := by decide +kernel
theorem dX10_isPullback_148 : decode cX10_isPullback 148 = .ok (.iconst 0, 1) := by decide +kernel
theorem dX10_isPullback_149 : decode cX10_isPullback 149 = .ok (.istore 7, 2) := by decide +kernel
theorem dX10_isPullback_151 : decode cX10_isPullback 151 = .ok (.iconst 0, 1) := by decide +kernel
theorem dX10_isPullback_152 : decode cX10_isPullback 152 = .ok (.istore 8, 2) := by decide +kernel
theorem dX10_isPullback_154 : decode cX10_isPullback 154 = .ok (.iload 7, 2) := by decide +kernel
theorem dX10_isPullback_156 : decode cX10_isPullback 156 = .ok (.ifCond .eq 60, 3) := by decide +kernel
theorem dX10_isPullback_159 : decode cX10_isPullback 159 = .ok (.iload 8, 2) := by decide +kernel
theorem dX10_isPullback_161 : decode cX10_isPullback 161 = .ok (.aload_n 0, 1) := by decide +kernel
theorem dX10_isPullback_162 : decode cX10_isPullback 162 = .ok (.getfield 23, 3) := by decide +kernel
theorem dX10_isPullback_165 : decode cX10_isPullback 165 = .ok (.aload_n 0, 1) := by decide +kernel
theorem dX10_isPullback_166 : decode cX10_isPullback 166 = .ok (.getfield 13, 3) := by decide +kernel
theorem dX10_isPullback_169 : decode cX10_isPullback 169 = .ok (.iload_n 1, 1) := by decide +kernel
theorem dX10_isPullback_170 : decode cX10_isPullback 170 = .ok (.iaload, 1) := by decide +kernel
theorem dX10_isPullback_171 : decode cX10_isPullback 171 = .ok (.iaload, 1) := by decide +kernel
theorem dX10_isPullback_172 : decode cX10_isPullback 172 = .ok (.if_icmp .ge 44, 3) := by decide +kernel
theorem dX10_isPullback_175 : decode cX10_isPullback 175 = .ok (.aload_n 0, 1) := by decide +kernel
theorem dX10_isPullback_176 : decode cX10_isPullback 176 = .ok (.iload_n 2, 1) := by decide +kernel
theorem dX10_isPullback_177 : decode cX10_isPullback 177 = .ok (.aload_n 0, 1) := by decide +kernel
theorem dX10_isPullback_178 : decode cX10_isPullback 178 = .ok (.iload_n 1, 1) := by decide +kernel
theorem dX10_isPullback_179 : decode cX10_isPullback 179 = .ok (.iload 8, 2) := by decide +kernel
theorem dX10_isPullback_181 : decode cX10_isPullback 181 = .ok (.invokevirtual 208, 3) := by decide +kernel
theorem dX10_isPullback_184 : decode cX10_isPullback 184 = .ok (.invokevirtual 208, 3) := by decide +kernel
theorem dX10_isPullback_187 : decode cX10_isPullback 187 = .ok (.aload_n 0, 1) := by decide +kernel
theorem dX10_isPullback_188 : decode cX10_isPullback 188 = .ok (.iload 4, 2) := by decide +kernel
theorem dX10_isPullback_190 : decode cX10_isPullback 190 = .ok (.aload_n 0, 1) := by decide +kernel
theorem dX10_isPullback_191 : decode cX10_isPullback 191 = .ok (.iload_n 3, 1) := by decide +kernel
theorem dX10_isPullback_192 : decode cX10_isPullback 192 = .ok (.iload 8, 2) := by decide +kernel
theorem dX10_isPullback_194 : decode cX10_isPullback 194 = .ok (.invokevirtual 208, 3) := by decide +kernel
theorem dX10_isPullback_197 : decode cX10_isPullback 197 = .ok (.invokevirtual 208, 3) := by decide +kernel
theorem dX10_isPullback_200 : decode cX10_isPullback 200 = .ok (.if_icmp .ne 7, 3) := by decide +kernel
theorem dX10_isPullback_203 : decode cX10_isPullback 203 = .ok (.iconst 1, 1) := by decide +kernel
theorem dX10_isPullback_204 : decode cX10_isPullback 204 = .ok (.goto 4, 3) := by decide +kernel
theorem dX10_isPullback_207 : decode cX10_isPullback 207 = .ok (.iconst 0, 1) := by decide +kernel
theorem dX10_isPullback_208 : decode cX10_isPullback 208 = .ok (.istore 7, 2) := by decide +kernel
theorem dX10_isPullback_210 : decode cX10_isPullback 210 = .ok (.iinc 8 1, 3) := by decide +kernel
theorem dX10_isPullback_213 : decode cX10_isPullback 213 = .ok (.goto (-59), 3) := by decide +kernel
theorem dX10_isPullback_216 : decode cX10_isPullback 216 = .ok (.iconst 0, 1) := by decide +kernel
theorem dX10_isPullback_217 : decode cX10_isPullback 217 = .ok (.istore 8, 2) := by decide +kernel
theorem dX10_isPullback_219 : decode cX10_isPullback 219 = .ok (.iload 7, 2) := by decide +kernel
theorem dX10_isPullback_221 : decode cX10_isPullback 221 = .ok (.ifCond .eq 108, 3) := by decide +kernel
theorem dX10_isPullback_224 : decode cX10_isPullback 224 = .ok (.iload 8, 2) := by decide +kernel
theorem dX10_isPullback_226 : decode cX10_isPullback 226 = .ok (.aload_n 0, 1) := by decide +kernel
theorem dX10_isPullback_227 : decode cX10_isPullback 227 = .ok (.getfield 23, 3) := by decide +kernel
theorem dX10_isPullback_230 : decode cX10_isPullback 230 = .ok (.aload_n 0, 1) := by decide +kernel
theorem dX10_isPullback_231 : decode cX10_isPullback 231 = .ok (.getfield 17, 3) := by decide +kernel
theorem dX10_isPullback_234 : decode cX10_isPullback 234 = .ok (.iload_n 1, 1) := by decide +kernel
theorem dX10_isPullback_235 : decode cX10_isPullback 235 = .ok (.iaload, 1) := by decide +kernel
theorem dX10_isPullback_236 : decode cX10_isPullback 236 = .ok (.iaload, 1) := by decide +kernel
theorem dX10_isPullback_237 : decode cX10_isPullback 237 = .ok (.aload_n 0, 1) := by decide +kernel
theorem dX10_isPullback_238 : decode cX10_isPullback 238 = .ok (.getfield 23, 3) := by decide +kernel
theorem dX10_isPullback_241 : decode cX10_isPullback 241 = .ok (.aload_n 0, 1) := by decide +kernel
theorem dX10_isPullback_242 : decode cX10_isPullback 242 = .ok (.getfield 17, 3) := by decide +kernel
theorem dX10_isPullback_245 : decode cX10_isPullback 245 = .ok (.iload_n 3, 1) := by decide +kernel
theorem dX10_isPullback_246 : decode cX10_isPullback 246 = .ok (.iaload, 1) := by decide +kernel
theorem dX10_isPullback_247 : decode cX10_isPullback 247 = .ok (.iaload, 1) := by decide +kernel
theorem dX10_isPullback_248 : decode cX10_isPullback 248 = .ok (.imul, 1) := by decide +kernel
theorem dX10_isPullback_249 : decode cX10_isPullback 249 = .ok (.if_icmp .ge 80, 3) := by decide +kernel
theorem dX10_isPullback_252 : decode cX10_isPullback 252 = .ok (.iload 8, 2) := by decide +kernel
theorem dX10_isPullback_254 : decode cX10_isPullback 254 = .ok (.aload_n 0, 1) := by decide +kernel
theorem dX10_isPullback_255 : decode cX10_isPullback 255 = .ok (.getfield 23, 3) := by decide +kernel
theorem dX10_isPullback_258 : decode cX10_isPullback 258 = .ok (.aload_n 0, 1) := by decide +kernel
theorem dX10_isPullback_259 : decode cX10_isPullback 259 = .ok (.getfield 17, 3) := by decide +kernel
theorem dX10_isPullback_262 : decode cX10_isPullback 262 = .ok (.iload_n 3, 1) := by decide +kernel
theorem dX10_isPullback_263 : decode cX10_isPullback 263 = .ok (.iaload, 1) := by decide +kernel
theorem dX10_isPullback_264 : decode cX10_isPullback 264 = .ok (.iaload, 1) := by decide +kernel
theorem dX10_isPullback_265 : decode cX10_isPullback 265 = .ok (.idiv, 1) := by decide +kernel
theorem dX10_isPullback_266 : decode cX10_isPullback 266 = .ok (.istore 9, 2) := by decide +kernel
theorem dX10_isPullback_268 : decode cX10_isPullback 268 = .ok (.iload 8, 2) := by decide +kernel
theorem dX10_isPullback_270 : decode cX10_isPullback 270 = .ok (.aload_n 0, 1) := by decide +kernel
theorem dX10_isPullback_271 : decode cX10_isPullback 271 = .ok (.getfield 23, 3) := by decide +kernel
theorem dX10_isPullback_274 : decode cX10_isPullback 274 = .ok (.aload_n 0, 1) := by decide +kernel
theorem dX10_isPullback_275 : decode cX10_isPullback 275 = .ok (.getfield 17, 3) := by decide +kernel
theorem dX10_isPullback_278 : decode cX10_isPullback 278 = .ok (.iload_n 3, 1) := by decide +kernel
theorem dX10_isPullback_279 : decode cX10_isPullback 279 = .ok (.iaload, 1) := by decide +kernel
theorem dX10_isPullback_280 : decode cX10_isPullback 280 = .ok (.iaload, 1) := by decide +kernel
theorem dX10_isPullback_281 : decode cX10_isPullback 281 = .ok (.irem, 1) := by decide +kernel
theorem dX10_isPullback_282 : decode cX10_isPullback 282 = .ok (.istore 10, 2) := by decide +kernel
theorem dX10_isPullback_284 : decode cX10_isPullback 284 = .ok (.aload_n 0, 1) := by decide +kernel
theorem dX10_isPullback_285 : decode cX10_isPullback 285 = .ok (.iload_n 2, 1) := by decide +kernel
theorem dX10_isPullback_286 : decode cX10_isPullback 286 = .ok (.iload 9, 2) := by decide +kernel
theorem dX10_isPullback_288 : decode cX10_isPullback 288 = .ok (.invokevirtual 208, 3) := by decide +kernel
theorem dX10_isPullback_291 : decode cX10_isPullback 291 = .ok (.aload_n 0, 1) := by decide +kernel
theorem dX10_isPullback_292 : decode cX10_isPullback 292 = .ok (.iload 4, 2) := by decide +kernel
theorem dX10_isPullback_294 : decode cX10_isPullback 294 = .ok (.iload 10, 2) := by decide +kernel
theorem dX10_isPullback_296 : decode cX10_isPullback 296 = .ok (.invokevirtual 208, 3) := by decide +kernel
theorem dX10_isPullback_299 : decode cX10_isPullback 299 = .ok (.if_icmp .ne 17, 3) := by decide +kernel
theorem dX10_isPullback_302 : decode cX10_isPullback 302 = .ok (.aload_n 0, 1) := by decide +kernel
theorem dX10_isPullback_303 : decode cX10_isPullback 303 = .ok (.iload_n 1, 1) := by decide +kernel
theorem dX10_isPullback_304 : decode cX10_isPullback 304 = .ok (.iload_n 3, 1) := by decide +kernel
theorem dX10_isPullback_305 : decode cX10_isPullback 305 = .ok (.iload 9, 2) := by decide +kernel
theorem dX10_isPullback_307 : decode cX10_isPullback 307 = .ok (.iload 10, 2) := by decide +kernel
theorem dX10_isPullback_309 : decode cX10_isPullback 309 = .ok (.invokevirtual 274, 3) := by decide +kernel
theorem dX10_isPullback_312 : decode cX10_isPullback 312 = .ok (.iconst 1, 1) := by decide +kernel
theorem dX10_isPullback_313 : decode cX10_isPullback 313 = .ok (.if_icmp .ne 7, 3) := by decide +kernel
theorem dX10_isPullback_316 : decode cX10_isPullback 316 = .ok (.iconst 1, 1) := by decide +kernel
theorem dX10_isPullback_317 : decode cX10_isPullback 317 = .ok (.goto 4, 3) := by decide +kernel
theorem dX10_isPullback_320 : decode cX10_isPullback 320 = .ok (.iconst 0, 1) := by decide +kernel
theorem dX10_isPullback_321 : decode cX10_isPullback 321 = .ok (.istore 7, 2) := by decide +kernel
theorem dX10_isPullback_323 : decode cX10_isPullback 323 = .ok (.iinc 8 1, 3) := by decide +kernel
theorem dX10_isPullback_326 : decode cX10_isPullback 326 = .ok (.goto (-107), 3) := by decide +kernel
theorem dX10_isPullback_329 : decode cX10_isPullback 329 = .ok (.iload 7, 2) := by decide +kernel
theorem dX10_isPullback_331 : decode cX10_isPullback 331 = .ok (.ireturn, 1) := by decide +kernel
theorem dX10_isEqualizer_0 : decode cX10_isEqualizer 0 = .ok (.aload_n 0, 1) := by decide +kernel
theorem dX10_isEqualizer_1 : decode cX10_isEqualizer 1 = .ok (.iload_n 1, 1) := by decide +kernel
theorem dX10_isEqualizer_2 : decode cX10_isEqualizer 2 = .ok (.invokevirtual 169, 3) := by decide +kernel
theorem dX10_isEqualizer_5 : decode cX10_isEqualizer 5 = .ok (.ifCond .eq 23, 3) := by decide +kernel
theorem dX10_isEqualizer_8 : decode cX10_isEqualizer 8 = .ok (.aload_n 0, 1) := by decide +kernel
theorem dX10_isEqualizer_9 : decode cX10_isEqualizer 9 = .ok (.iload_n 2, 1) := by decide +kernel
theorem dX10_isEqualizer_10 : decode cX10_isEqualizer 10 = .ok (.invokevirtual 169, 3) := by decide +kernel
theorem dX10_isEqualizer_13 : decode cX10_isEqualizer 13 = .ok (.ifCond .eq 15, 3) := by decide +kernel
theorem dX10_isEqualizer_16 : decode cX10_isEqualizer 16 = .ok (.aload_n 0, 1) := by decide +kernel
theorem dX10_isEqualizer_17 : decode cX10_isEqualizer 17 = .ok (.iload_n 3, 1) := by decide +kernel
theorem dX10_isEqualizer_18 : decode cX10_isEqualizer 18 = .ok (.invokevirtual 169, 3) := by decide +kernel
theorem dX10_isEqualizer_21 : decode cX10_isEqualizer 21 = .ok (.ifCond .eq 7, 3) := by decide +kernel
theorem dX10_isEqualizer_24 : decode cX10_isEqualizer 24 = .ok (.iconst 1, 1) := by decide +kernel
theorem dX10_isEqualizer_25 : decode cX10_isEqualizer 25 = .ok (.goto 4, 3) := by decide +kernel
theorem dX10_isEqualizer_28 : decode cX10_isEqualizer 28 = .ok (.iconst 0, 1) := by decide +kernel
theorem dX10_isEqualizer_29 : decode cX10_isEqualizer 29 = .ok (.istore 4, 2) := by decide +kernel
theorem dX10_isEqualizer_31 : decode cX10_isEqualizer 31 = .ok (.iload 4, 2) := by decide +kernel
theorem dX10_isEqualizer_33 : decode cX10_isEqualizer 33 = .ok (.ifCond .eq 52, 3) := by decide +kernel
theorem dX10_isEqualizer_36 : decode cX10_isEqualizer 36 = .ok (.aload_n 0, 1) := by decide +kernel
theorem dX10_isEqualizer_37 : decode cX10_isEqualizer 37 = .ok (.getfield 13, 3) := by decide +kernel
theorem dX10_isEqualizer_40 : decode cX10_isEqualizer 40 = .ok (.iload_n 2, 1) := by decide +kernel
theorem dX10_isEqualizer_41 : decode cX10_isEqualizer 41 = .ok (.iaload, 1) := by decide +kernel
theorem dX10_isEqualizer_42 : decode cX10_isEqualizer 42 = .ok (.aload_n 0, 1) := by decide +kernel
theorem dX10_isEqualizer_43 : decode cX10_isEqualizer 43 = .ok (.getfield 17, 3) := by decide +kernel
theorem dX10_isEqualizer_46 : decode cX10_isEqualizer 46 = .ok (.iload_n 1, 1) := by decide +kernel
theorem dX10_isEqualizer_47 : decode cX10_isEqualizer 47 = .ok (.iaload, 1) := by decide +kernel
theorem dX10_isEqualizer_48 : decode cX10_isEqualizer 48 = .ok (.if_icmp .ne 37, 3) := by decide +kernel
theorem dX10_isEqualizer_51 : decode cX10_isEqualizer 51 = .ok (.aload_n 0, 1) := by decide +kernel
theorem dX10_isEqualizer_52 : decode cX10_isEqualizer 52 = .ok (.getfield 13, 3) := by decide +kernel
theorem dX10_isEqualizer_55 : decode cX10_isEqualizer 55 = .ok (.iload_n 3, 1) := by decide +kernel
theorem dX10_isEqualizer_56 : decode cX10_isEqualizer 56 = .ok (.iaload, 1) := by decide +kernel
theorem dX10_isEqualizer_57 : decode cX10_isEqualizer 57 = .ok (.aload_n 0, 1) := by decide +kernel
theorem dX10_isEqualizer_58 : decode cX10_isEqualizer 58 = .ok (.getfield 13, 3) := by decide +kernel
theorem dX10_isEqualizer_61 : decode cX10_isEqualizer 61 = .ok (.iload_n 2, 1) := by decide +kernel
theorem dX10_isEqualizer_62 : decode cX10_isEqualizer 62 = .ok (.iaload, 1) := by decide +kernel
theorem dX10_isEqualizer_63 : decode cX10_isEqualizer 63 = .ok (.if_icmp .ne 22, 3) := by decide +kernel
theorem dX10_isEqualizer_66 : decode cX10_isEqualizer 66 = .ok (.aload_n 0, 1) := by decide +kernel
theorem dX10_isEqualizer_67 : decode cX10_isEqualizer 67 = .ok (.getfield 17, 3) := by decide +kernel
theorem dX10_isEqualizer_70 : decode cX10_isEqualizer 70 = .ok (.iload_n 3, 1) := by decide +kernel
theorem dX10_isEqualizer_71 : decode cX10_isEqualizer 71 = .ok (.iaload, 1) := by decide +kernel
theorem dX10_isEqualizer_72 : decode cX10_isEqualizer 72 = .ok (.aload_n 0, 1) := by decide +kernel
theorem dX10_isEqualizer_73 : decode cX10_isEqualizer 73 = .ok (.getfield 17, 3) := by decide +kernel
theorem dX10_isEqualizer_76 : decode cX10_isEqualizer 76 = .ok (.iload_n 2, 1) := by decide +kernel
theorem dX10_isEqualizer_77 : decode cX10_isEqualizer 77 = .ok (.iaload, 1) := by decide +kernel
theorem dX10_isEqualizer_78 : decode cX10_isEqualizer 78 = .ok (.if_icmp .ne 7, 3) := by decide +kernel
theorem dX10_isEqualizer_81 : decode cX10_isEqualizer 81 = .ok (.iconst 1, 1) := by decide +kernel
theorem dX10_isEqualizer_82 : decode cX10_isEqualizer 82 = .ok (.goto 4, 3) := by decide +kernel
theorem dX10_isEqualizer_85 : decode cX10_isEqualizer 85 = .ok (.iconst 0, 1) := by decide +kernel
theorem dX10_isEqualizer_86 : decode cX10_isEqualizer 86 = .ok (.istore 5, 2) := by decide +kernel
theorem dX10_isEqualizer_88 : decode cX10_isEqualizer 88 = .ok (.aload_n 0, 1) := by decide +kernel
theorem dX10_isEqualizer_89 : decode cX10_isEqualizer 89 = .ok (.iload 4, 2) := by decide +kernel
theorem dX10_isEqualizer_91 : decode cX10_isEqualizer 91 = .ok (.ifCond .ne 7, 3) := by decide +kernel
theorem dX10_isEqualizer_94 : decode cX10_isEqualizer 94 = .ok (.iconst 1, 1) := by decide +kernel
theorem dX10_isEqualizer_95 : decode cX10_isEqualizer 95 = .ok (.goto 13, 3) := by decide +kernel
theorem dX10_isEqualizer_98 : decode cX10_isEqualizer 98 = .ok (.iload 5, 2) := by decide +kernel
theorem dX10_isEqualizer_100 : decode cX10_isEqualizer 100 = .ok (.ifCond .eq 7, 3) := by decide +kernel
theorem dX10_isEqualizer_103 : decode cX10_isEqualizer 103 = .ok (.iconst 0, 1) := by decide +kernel
theorem dX10_isEqualizer_104 : decode cX10_isEqualizer 104 = .ok (.goto 4, 3) := by decide +kernel
theorem dX10_isEqualizer_107 : decode cX10_isEqualizer 107 = .ok (.iconst 2, 1) := by decide +kernel
theorem dX10_isEqualizer_108 : decode cX10_isEqualizer 108 = .ok (.putfield 72, 3) := by decide +kernel
theorem dX10_isEqualizer_111 : decode cX10_isEqualizer 111 = .ok (.aload_n 0, 1) := by decide +kernel
theorem dX10_isEqualizer_112 : decode cX10_isEqualizer 112 = .ok (.getfield 72, 3) := by decide +kernel
theorem dX10_isEqualizer_115 : decode cX10_isEqualizer 115 = .ok (.ifCond .ne 7, 3) := by decide +kernel
theorem dX10_isEqualizer_118 : decode cX10_isEqualizer 118 = .ok (.iconst 1, 1) := by decide +kernel
theorem dX10_isEqualizer_119 : decode cX10_isEqualizer 119 = .ok (.goto 4, 3) := by decide +kernel
theorem dX10_isEqualizer_122 : decode cX10_isEqualizer 122 = .ok (.iconst 0, 1) := by decide +kernel
theorem dX10_isEqualizer_123 : decode cX10_isEqualizer 123 = .ok (.istore 6, 2) := by decide +kernel
theorem dX10_isEqualizer_125 : decode cX10_isEqualizer 125 = .ok (.iconst 0, 1) := by decide +kernel
theorem dX10_isEqualizer_126 : decode cX10_isEqualizer 126 = .ok (.istore 7, 2) := by decide +kernel
theorem dX10_isEqualizer_128 : decode cX10_isEqualizer 128 = .ok (.iload 6, 2) := by decide +kernel
theorem dX10_isEqualizer_130 : decode cX10_isEqualizer 130 = .ok (.ifCond .eq 59, 3) := by decide +kernel
theorem dX10_isEqualizer_133 : decode cX10_isEqualizer 133 = .ok (.iload 7, 2) := by decide +kernel
theorem dX10_isEqualizer_135 : decode cX10_isEqualizer 135 = .ok (.aload_n 0, 1) := by decide +kernel
theorem dX10_isEqualizer_136 : decode cX10_isEqualizer 136 = .ok (.getfield 23, 3) := by decide +kernel
theorem dX10_isEqualizer_139 : decode cX10_isEqualizer 139 = .ok (.aload_n 0, 1) := by decide +kernel
theorem dX10_isEqualizer_140 : decode cX10_isEqualizer 140 = .ok (.getfield 13, 3) := by decide +kernel
theorem dX10_isEqualizer_143 : decode cX10_isEqualizer 143 = .ok (.iload_n 1, 1) := by decide +kernel
theorem dX10_isEqualizer_144 : decode cX10_isEqualizer 144 = .ok (.iaload, 1) := by decide +kernel
theorem dX10_isEqualizer_145 : decode cX10_isEqualizer 145 = .ok (.iaload, 1) := by decide +kernel
theorem dX10_isEqualizer_146 : decode cX10_isEqualizer 146 = .ok (.if_icmp .ge 43, 3) := by decide +kernel
theorem dX10_isEqualizer_149 : decode cX10_isEqualizer 149 = .ok (.aload_n 0, 1) := by decide +kernel
theorem dX10_isEqualizer_150 : decode cX10_isEqualizer 150 = .ok (.iload_n 2, 1) := by decide +kernel
theorem dX10_isEqualizer_151 : decode cX10_isEqualizer 151 = .ok (.aload_n 0, 1) := by decide +kernel
theorem dX10_isEqualizer_152 : decode cX10_isEqualizer 152 = .ok (.iload_n 1, 1) := by decide +kernel
theorem dX10_isEqualizer_153 : decode cX10_isEqualizer 153 = .ok (.iload 7, 2) := by decide +kernel
theorem dX10_isEqualizer_155 : decode cX10_isEqualizer 155 = .ok (.invokevirtual 208, 3) := by decide +kernel
theorem dX10_isEqualizer_158 : decode cX10_isEqualizer 158 = .ok (.invokevirtual 208, 3) := by decide +kernel
theorem dX10_isEqualizer_161 : decode cX10_isEqualizer 161 = .ok (.aload_n 0, 1) := by decide +kernel
theorem dX10_isEqualizer_162 : decode cX10_isEqualizer 162 = .ok (.iload_n 3, 1) := by decide +kernel
theorem dX10_isEqualizer_163 : decode cX10_isEqualizer 163 = .ok (.aload_n 0, 1) := by decide +kernel
theorem dX10_isEqualizer_164 : decode cX10_isEqualizer 164 = .ok (.iload_n 1, 1) := by decide +kernel
theorem dX10_isEqualizer_165 : decode cX10_isEqualizer 165 = .ok (.iload 7, 2) := by decide +kernel
theorem dX10_isEqualizer_167 : decode cX10_isEqualizer 167 = .ok (.invokevirtual 208, 3) := by decide +kernel
theorem dX10_isEqualizer_170 : decode cX10_isEqualizer 170 = .ok (.invokevirtual 208, 3) := by decide +kernel
theorem dX10_isEqualizer_173 : decode cX10_isEqualizer 173 = .ok (.if_icmp .ne 7, 3) := by decide +kernel
theorem dX10_isEqualizer_176 : decode cX10_isEqualizer 176 = .ok (.iconst 1, 1) := by decide +kernel
theorem dX10_isEqualizer_177 : decode cX10_isEqualizer 177 = .ok (.goto 4, 3) := by decide +kernel
theorem dX10_isEqualizer_180 : decode cX10_isEqualizer 180 = .ok (.iconst 0, 1) := by decide +kernel
theorem dX10_isEqualizer_181 : decode cX10_isEqualizer 181 = .ok (.istore 6, 2) := by decide +kernel
theorem dX10_isEqualizer_183 : decode cX10_isEqualizer 183 = .ok (.iinc 7 1, 3) := by decide +kernel
theorem dX10_isEqualizer_186 : decode cX10_isEqualizer 186 = .ok (.goto (-58), 3) := by decide +kernel
theorem dX10_isEqualizer_189 : decode cX10_isEqualizer 189 = .ok (.iconst 0, 1) := by decide +kernel
theorem dX10_isEqualizer_190 : decode cX10_isEqualizer 190 = .ok (.istore 7, 2) := by decide +kernel
theorem dX10_isEqualizer_192 : decode cX10_isEqualizer 192 = .ok (.iload 6, 2) := by decide +kernel
theorem dX10_isEqualizer_194 : decode cX10_isEqualizer 194 = .ok (.ifCond .eq 63, 3) := by decide +kernel
theorem dX10_isEqualizer_197 : decode cX10_isEqualizer 197 = .ok (.iload 7, 2) := by decide +kernel
theorem dX10_isEqualizer_199 : decode cX10_isEqualizer 199 = .ok (.aload_n 0, 1) := by decide +kernel
theorem dX10_isEqualizer_200 : decode cX10_isEqualizer 200 = .ok (.getfield 23, 3) := by decide +kernel
theorem dX10_isEqualizer_203 : decode cX10_isEqualizer 203 = .ok (.aload_n 0, 1) := by decide +kernel
theorem dX10_isEqualizer_204 : decode cX10_isEqualizer 204 = .ok (.getfield 17, 3) := by decide +kernel
theorem dX10_isEqualizer_207 : decode cX10_isEqualizer 207 = .ok (.iload_n 1, 1) := by decide +kernel
theorem dX10_isEqualizer_208 : decode cX10_isEqualizer 208 = .ok (.iaload, 1) := by decide +kernel
theorem dX10_isEqualizer_209 : decode cX10_isEqualizer 209 = .ok (.iaload, 1) := by decide +kernel
theorem dX10_isEqualizer_210 : decode cX10_isEqualizer 210 = .ok (.if_icmp .ge 47, 3) := by decide +kernel
theorem dX10_isEqualizer_213 : decode cX10_isEqualizer 213 = .ok (.aload_n 0, 1) := by decide +kernel
theorem dX10_isEqualizer_214 : decode cX10_isEqualizer 214 = .ok (.iload_n 2, 1) := by decide +kernel
theorem dX10_isEqualizer_215 : decode cX10_isEqualizer 215 = .ok (.iload 7, 2) := by decide +kernel
theorem dX10_isEqualizer_217 : decode cX10_isEqualizer 217 = .ok (.invokevirtual 208, 3) := by decide +kernel
theorem dX10_isEqualizer_220 : decode cX10_isEqualizer 220 = .ok (.aload_n 0, 1) := by decide +kernel
theorem dX10_isEqualizer_221 : decode cX10_isEqualizer 221 = .ok (.iload_n 3, 1) := by decide +kernel
theorem dX10_isEqualizer_222 : decode cX10_isEqualizer 222 = .ok (.iload 7, 2) := by decide +kernel
theorem dX10_isEqualizer_224 : decode cX10_isEqualizer 224 = .ok (.invokevirtual 208, 3) := by decide +kernel
theorem dX10_isEqualizer_227 : decode cX10_isEqualizer 227 = .ok (.if_icmp .ne 17, 3) := by decide +kernel
theorem dX10_isEqualizer_230 : decode cX10_isEqualizer 230 = .ok (.aload_n 0, 1) := by decide +kernel
theorem dX10_isEqualizer_231 : decode cX10_isEqualizer 231 = .ok (.iload_n 1, 1) := by decide +kernel
theorem dX10_isEqualizer_232 : decode cX10_isEqualizer 232 = .ok (.iload_n 1, 1) := by decide +kernel
theorem dX10_isEqualizer_233 : decode cX10_isEqualizer 233 = .ok (.iload 7, 2) := by decide +kernel
theorem dX10_isEqualizer_235 : decode cX10_isEqualizer 235 = .ok (.iload 7, 2) := by decide +kernel
theorem dX10_isEqualizer_237 : decode cX10_isEqualizer 237 = .ok (.invokevirtual 274, 3) := by decide +kernel
theorem dX10_isEqualizer_240 : decode cX10_isEqualizer 240 = .ok (.iconst 1, 1) := by decide +kernel
theorem dX10_isEqualizer_241 : decode cX10_isEqualizer 241 = .ok (.if_icmp .ne 7, 3) := by decide +kernel
theorem dX10_isEqualizer_244 : decode cX10_isEqualizer 244 = .ok (.iconst 1, 1) := by decide +kernel
theorem dX10_isEqualizer_245 : decode cX10_isEqualizer 245 = .ok (.goto 4, 3) := by decide +kernel
theorem dX10_isEqualizer_248 : decode cX10_isEqualizer 248 = .ok (.iconst 0, 1) := by decide +kernel
theorem dX10_isEqualizer_249 : decode cX10_isEqualizer 249 = .ok (.istore 6, 2) := by decide +kernel
theorem dX10_isEqualizer_251 : decode cX10_isEqualizer 251 = .ok (.iinc 7 1, 3) := by decide +kernel
theorem dX10_isEqualizer_254 : decode cX10_isEqualizer 254 = .ok (.goto (-62), 3) := by decide +kernel
theorem dX10_isEqualizer_257 : decode cX10_isEqualizer 257 = .ok (.iload 6, 2) := by decide +kernel
theorem dX10_isEqualizer_259 : decode cX10_isEqualizer 259 = .ok (.ireturn, 1) := by decide +kernel
theorem dX10_mix_0 : decode cX10_mix 0 = .ok (.aload_n 0, 1) := by decide +kernel
theorem dX10_mix_1 : decode cX10_mix 1 = .ok (.ldc2_w 278, 3) := by decide +kernel
theorem dX10_mix_4 : decode cX10_mix 4 = .ok (.aload_n 0, 1) := by decide +kernel
theorem dX10_mix_5 : decode cX10_mix 5 = .ok (.getfield 280, 3) := by decide +kernel
theorem dX10_mix_8 : decode cX10_mix 8 = .ok (.lmul, 1) := by decide +kernel
theorem dX10_mix_9 : decode cX10_mix 9 = .ok (.lload_n 1, 1) := by decide +kernel
theorem dX10_mix_10 : decode cX10_mix 10 = .ok (.ladd, 1) := by decide +kernel
theorem dX10_mix_11 : decode cX10_mix 11 = .ok (.putfield 280, 3) := by decide +kernel
theorem dX10_mix_14 : decode cX10_mix 14 = .ok (.return_, 1) := by decide +kernel
theorem dX10_mixCells_0 : decode cX10_mixCells 0 = .ok (.aload_n 0, 1) := by decide +kernel
theorem dX10_mixCells_1 : decode cX10_mixCells 1 = .ok (.invokevirtual 233, 3) := by decide +kernel
theorem dX10_mixCells_4 : decode cX10_mixCells 4 = .ok (.istore_n 1, 1) := by decide +kernel
theorem dX10_mixCells_5 : decode cX10_mixCells 5 = .ok (.iconst 0, 1) := by decide +kernel
theorem dX10_mixCells_6 : decode cX10_mixCells 6 = .ok (.istore_n 2, 1) := by decide +kernel
theorem dX10_mixCells_7 : decode cX10_mixCells 7 = .ok (.iload_n 2, 1) := by decide +kernel
theorem dX10_mixCells_8 : decode cX10_mixCells 8 = .ok (.aload_n 0, 1) := by decide +kernel
theorem dX10_mixCells_9 : decode cX10_mixCells 9 = .ok (.getfield 82, 3) := by decide +kernel
theorem dX10_mixCells_12 : decode cX10_mixCells 12 = .ok (.if_icmp .ge 47, 3) := by decide +kernel
theorem dX10_mixCells_15 : decode cX10_mixCells 15 = .ok (.iconst 0, 1) := by decide +kernel
theorem dX10_mixCells_16 : decode cX10_mixCells 16 = .ok (.istore_n 3, 1) := by decide +kernel
theorem dX10_mixCells_17 : decode cX10_mixCells 17 = .ok (.iload_n 3, 1) := by decide +kernel
theorem dX10_mixCells_18 : decode cX10_mixCells 18 = .ok (.iconst 5, 1) := by decide +kernel
theorem dX10_mixCells_19 : decode cX10_mixCells 19 = .ok (.if_icmp .ge 34, 3) := by decide +kernel
theorem dX10_mixCells_22 : decode cX10_mixCells 22 = .ok (.aload_n 0, 1) := by decide +kernel
theorem dX10_mixCells_23 : decode cX10_mixCells 23 = .ok (.iload_n 3, 1) := by decide +kernel
theorem dX10_mixCells_24 : decode cX10_mixCells 24 = .ok (.iconst 3, 1) := by decide +kernel
theorem dX10_mixCells_25 : decode cX10_mixCells 25 = .ok (.if_icmp .ne 12, 3) := by decide +kernel
theorem dX10_mixCells_28 : decode cX10_mixCells 28 = .ok (.iload_n 1, 1) := by decide +kernel
theorem dX10_mixCells_29 : decode cX10_mixCells 29 = .ok (.iload_n 2, 1) := by decide +kernel
theorem dX10_mixCells_30 : decode cX10_mixCells 30 = .ok (.ishr, 1) := by decide +kernel
theorem dX10_mixCells_31 : decode cX10_mixCells 31 = .ok (.iconst 1, 1) := by decide +kernel
theorem dX10_mixCells_32 : decode cX10_mixCells 32 = .ok (.iand, 1) := by decide +kernel
theorem dX10_mixCells_33 : decode cX10_mixCells 33 = .ok (.i2l, 1) := by decide +kernel
theorem dX10_mixCells_34 : decode cX10_mixCells 34 = .ok (.goto 10, 3) := by decide +kernel
theorem dX10_mixCells_37 : decode cX10_mixCells 37 = .ok (.aload_n 0, 1) := by decide +kernel
theorem dX10_mixCells_38 : decode cX10_mixCells 38 = .ok (.iload_n 2, 1) := by decide +kernel
theorem dX10_mixCells_39 : decode cX10_mixCells 39 = .ok (.iload_n 3, 1) := by decide +kernel
theorem dX10_mixCells_40 : decode cX10_mixCells 40 = .ok (.invokevirtual 239, 3) := by decide +kernel
theorem dX10_mixCells_43 : decode cX10_mixCells 43 = .ok (.i2l, 1) := by decide +kernel
theorem dX10_mixCells_44 : decode cX10_mixCells 44 = .ok (.invokevirtual 284, 3) := by decide +kernel
theorem dX10_mixCells_47 : decode cX10_mixCells 47 = .ok (.iinc 3 1, 3) := by decide +kernel
theorem dX10_mixCells_50 : decode cX10_mixCells 50 = .ok (.goto (-33), 3) := by decide +kernel
theorem dX10_mixCells_53 : decode cX10_mixCells 53 = .ok (.iinc 2 1, 3) := by decide +kernel
theorem dX10_mixCells_56 : decode cX10_mixCells 56 = .ok (.goto (-49), 3) := by decide +kernel
theorem dX10_mixCells_59 : decode cX10_mixCells 59 = .ok (.return_, 1) := by decide +kernel
theorem dX10_mixPaths_0 : decode cX10_mixPaths 0 = .ok (.aload_n 0, 1) := by decide +kernel
theorem dX10_mixPaths_1 : decode cX10_mixPaths 1 = .ok (.aload_n 0, 1) := by decide +kernel
theorem dX10_mixPaths_2 : decode cX10_mixPaths 2 = .ok (.invokevirtual 192, 3) := by decide +kernel
theorem dX10_mixPaths_5 : decode cX10_mixPaths 5 = .ok (.invokevirtual 223, 3) := by decide +kernel
theorem dX10_mixPaths_8 : decode cX10_mixPaths 8 = .ok (.pop, 1) := by decide +kernel
theorem dX10_mixPaths_9 : decode cX10_mixPaths 9 = .ok (.iconst 0, 1) := by decide +kernel
theorem dX10_mixPaths_10 : decode cX10_mixPaths 10 = .ok (.istore_n 1, 1) := by decide +kernel
theorem dX10_mixPaths_11 : decode cX10_mixPaths 11 = .ok (.iload_n 1, 1) := by decide +kernel
theorem dX10_mixPaths_12 : decode cX10_mixPaths 12 = .ok (.aload_n 0, 1) := by decide +kernel
theorem dX10_mixPaths_13 : decode cX10_mixPaths 13 = .ok (.getfield 89, 3) := by decide +kernel
theorem dX10_mixPaths_16 : decode cX10_mixPaths 16 = .ok (.if_icmp .ge 53, 3) := by decide +kernel
theorem dX10_mixPaths_19 : decode cX10_mixPaths 19 = .ok (.aload_n 0, 1) := by decide +kernel
theorem dX10_mixPaths_20 : decode cX10_mixPaths 20 = .ok (.aload_n 0, 1) := by decide +kernel
theorem dX10_mixPaths_21 : decode cX10_mixPaths 21 = .ok (.iload_n 1, 1) := by decide +kernel
theorem dX10_mixPaths_22 : decode cX10_mixPaths 22 = .ok (.iconst 0, 1) := by decide +kernel
theorem dX10_mixPaths_23 : decode cX10_mixPaths 23 = .ok (.invokevirtual 226, 3) := by decide +kernel
theorem dX10_mixPaths_26 : decode cX10_mixPaths 26 = .ok (.i2l, 1) := by decide +kernel
theorem dX10_mixPaths_27 : decode cX10_mixPaths 27 = .ok (.invokevirtual 284, 3) := by decide +kernel
theorem dX10_mixPaths_30 : decode cX10_mixPaths 30 = .ok (.aload_n 0, 1) := by decide +kernel
theorem dX10_mixPaths_31 : decode cX10_mixPaths 31 = .ok (.aload_n 0, 1) := by decide +kernel
theorem dX10_mixPaths_32 : decode cX10_mixPaths 32 = .ok (.iload_n 1, 1) := by decide +kernel
theorem dX10_mixPaths_33 : decode cX10_mixPaths 33 = .ok (.iconst 1, 1) := by decide +kernel
theorem dX10_mixPaths_34 : decode cX10_mixPaths 34 = .ok (.invokevirtual 226, 3) := by decide +kernel
theorem dX10_mixPaths_37 : decode cX10_mixPaths 37 = .ok (.i2l, 1) := by decide +kernel
theorem dX10_mixPaths_38 : decode cX10_mixPaths 38 = .ok (.invokevirtual 284, 3) := by decide +kernel
theorem dX10_mixPaths_41 : decode cX10_mixPaths 41 = .ok (.aload_n 0, 1) := by decide +kernel
theorem dX10_mixPaths_42 : decode cX10_mixPaths 42 = .ok (.aload_n 0, 1) := by decide +kernel
theorem dX10_mixPaths_43 : decode cX10_mixPaths 43 = .ok (.iload_n 1, 1) := by decide +kernel
theorem dX10_mixPaths_44 : decode cX10_mixPaths 44 = .ok (.iconst 3, 1) := by decide +kernel
theorem dX10_mixPaths_45 : decode cX10_mixPaths 45 = .ok (.invokevirtual 226, 3) := by decide +kernel
theorem dX10_mixPaths_48 : decode cX10_mixPaths 48 = .ok (.i2l, 1) := by decide +kernel
theorem dX10_mixPaths_49 : decode cX10_mixPaths 49 = .ok (.invokevirtual 284, 3) := by decide +kernel
theorem dX10_mixPaths_52 : decode cX10_mixPaths 52 = .ok (.aload_n 0, 1) := by decide +kernel
theorem dX10_mixPaths_53 : decode cX10_mixPaths 53 = .ok (.aload_n 0, 1) := by decide +kernel
theorem dX10_mixPaths_54 : decode cX10_mixPaths 54 = .ok (.iload_n 1, 1) := by decide +kernel
theorem dX10_mixPaths_55 : decode cX10_mixPaths 55 = .ok (.iconst 5, 1) := by decide +kernel
theorem dX10_mixPaths_56 : decode cX10_mixPaths 56 = .ok (.invokevirtual 226, 3) := by decide +kernel
theorem dX10_mixPaths_59 : decode cX10_mixPaths 59 = .ok (.i2l, 1) := by decide +kernel
theorem dX10_mixPaths_60 : decode cX10_mixPaths 60 = .ok (.invokevirtual 284, 3) := by decide +kernel
theorem dX10_mixPaths_63 : decode cX10_mixPaths 63 = .ok (.iinc 1 1, 3) := by decide +kernel
theorem dX10_mixPaths_66 : decode cX10_mixPaths 66 = .ok (.goto (-55), 3) := by decide +kernel
theorem dX10_mixPaths_69 : decode cX10_mixPaths 69 = .ok (.return_, 1) := by decide +kernel
theorem dX10_digest_0 : decode cX10_digest 0 = .ok (.aload_n 0, 1) := by decide +kernel
theorem dX10_digest_1 : decode cX10_digest 1 = .ok (.iconst 0, 1) := by decide +kernel
theorem dX10_digest_2 : decode cX10_digest 2 = .ok (.putfield 72, 3) := by decide +kernel
theorem dX10_digest_5 : decode cX10_digest 5 = .ok (.aload_n 0, 1) := by decide +kernel
theorem dX10_digest_6 : decode cX10_digest 6 = .ok (.ldc2_w 288, 3) := by decide +kernel
theorem dX10_digest_9 : decode cX10_digest 9 = .ok (.putfield 280, 3) := by decide +kernel
theorem dX10_digest_12 : decode cX10_digest 12 = .ok (.iconst 0, 1) := by decide +kernel
theorem dX10_digest_13 : decode cX10_digest 13 = .ok (.istore_n 1, 1) := by decide +kernel
theorem dX10_digest_14 : decode cX10_digest 14 = .ok (.iload_n 1, 1) := by decide +kernel
theorem dX10_digest_15 : decode cX10_digest 15 = .ok (.bipush 8, 2) := by decide +kernel
theorem dX10_digest_17 : decode cX10_digest 17 = .ok (.if_icmp .ge 19, 3) := by decide +kernel
theorem dX10_digest_20 : decode cX10_digest 20 = .ok (.aload_n 0, 1) := by decide +kernel
theorem dX10_digest_21 : decode cX10_digest 21 = .ok (.aload_n 0, 1) := by decide +kernel
theorem dX10_digest_22 : decode cX10_digest 22 = .ok (.iload_n 1, 1) := by decide +kernel
theorem dX10_digest_23 : decode cX10_digest 23 = .ok (.invokevirtual 252, 3) := by decide +kernel
theorem dX10_digest_26 : decode cX10_digest 26 = .ok (.i2l, 1) := by decide +kernel
theorem dX10_digest_27 : decode cX10_digest 27 = .ok (.invokevirtual 284, 3) := by decide +kernel
theorem dX10_digest_30 : decode cX10_digest 30 = .ok (.iinc 1 1, 3) := by decide +kernel
theorem dX10_digest_33 : decode cX10_digest 33 = .ok (.goto (-19), 3) := by decide +kernel
theorem dX10_digest_36 : decode cX10_digest 36 = .ok (.iconst 0, 1) := by decide +kernel
theorem dX10_digest_37 : decode cX10_digest 37 = .ok (.istore_n 1, 1) := by decide +kernel
theorem dX10_digest_38 : decode cX10_digest 38 = .ok (.iload_n 1, 1) := by decide +kernel
theorem dX10_digest_39 : decode cX10_digest 39 = .ok (.aload_n 0, 1) := by decide +kernel
theorem dX10_digest_40 : decode cX10_digest 40 = .ok (.getfield 7, 3) := by decide +kernel
theorem dX10_digest_43 : decode cX10_digest 43 = .ok (.if_icmp .ge 20, 3) := by decide +kernel
theorem dX10_digest_46 : decode cX10_digest 46 = .ok (.aload_n 0, 1) := by decide +kernel
theorem dX10_digest_47 : decode cX10_digest 47 = .ok (.aload_n 0, 1) := by decide +kernel
theorem dX10_digest_48 : decode cX10_digest 48 = .ok (.getfield 23, 3) := by decide +kernel
theorem dX10_digest_51 : decode cX10_digest 51 = .ok (.iload_n 1, 1) := by decide +kernel
theorem dX10_digest_52 : decode cX10_digest 52 = .ok (.iaload, 1) := by decide +kernel
theorem dX10_digest_53 : decode cX10_digest 53 = .ok (.i2l, 1) := by decide +kernel
theorem dX10_digest_54 : decode cX10_digest 54 = .ok (.invokevirtual 284, 3) := by decide +kernel
theorem dX10_digest_57 : decode cX10_digest 57 = .ok (.iinc 1 1, 3) := by decide +kernel
theorem dX10_digest_60 : decode cX10_digest 60 = .ok (.goto (-22), 3) := by decide +kernel
theorem dX10_digest_63 : decode cX10_digest 63 = .ok (.iconst 0, 1) := by decide +kernel
theorem dX10_digest_64 : decode cX10_digest 64 = .ok (.istore_n 1, 1) := by decide +kernel
theorem dX10_digest_65 : decode cX10_digest 65 = .ok (.iload_n 1, 1) := by decide +kernel
theorem dX10_digest_66 : decode cX10_digest 66 = .ok (.aload_n 0, 1) := by decide +kernel
theorem dX10_digest_67 : decode cX10_digest 67 = .ok (.getfield 79, 3) := by decide +kernel
theorem dX10_digest_70 : decode cX10_digest 70 = .ok (.if_icmp .ge 42, 3) := by decide +kernel
theorem dX10_digest_73 : decode cX10_digest 73 = .ok (.aload_n 0, 1) := by decide +kernel
theorem dX10_digest_74 : decode cX10_digest 74 = .ok (.aload_n 0, 1) := by decide +kernel
theorem dX10_digest_75 : decode cX10_digest 75 = .ok (.getfield 13, 3) := by decide +kernel
theorem dX10_digest_78 : decode cX10_digest 78 = .ok (.iload_n 1, 1) := by decide +kernel
theorem dX10_digest_79 : decode cX10_digest 79 = .ok (.iaload, 1) := by decide +kernel
theorem dX10_digest_80 : decode cX10_digest 80 = .ok (.i2l, 1) := by decide +kernel
theorem dX10_digest_81 : decode cX10_digest 81 = .ok (.invokevirtual 284, 3) := by decide +kernel
theorem dX10_digest_84 : decode cX10_digest 84 = .ok (.aload_n 0, 1) := by decide +kernel
theorem dX10_digest_85 : decode cX10_digest 85 = .ok (.aload_n 0, 1) := by decide +kernel
theorem dX10_digest_86 : decode cX10_digest 86 = .ok (.getfield 17, 3) := by decide +kernel
theorem dX10_digest_89 : decode cX10_digest 89 = .ok (.iload_n 1, 1) := by decide +kernel
theorem dX10_digest_90 : decode cX10_digest 90 = .ok (.iaload, 1) := by decide +kernel
theorem dX10_digest_91 : decode cX10_digest 91 = .ok (.i2l, 1) := by decide +kernel
theorem dX10_digest_92 : decode cX10_digest 92 = .ok (.invokevirtual 284, 3) := by decide +kernel
theorem dX10_digest_95 : decode cX10_digest 95 = .ok (.aload_n 0, 1) := by decide +kernel
theorem dX10_digest_96 : decode cX10_digest 96 = .ok (.aload_n 0, 1) := by decide +kernel
theorem dX10_digest_97 : decode cX10_digest 97 = .ok (.getfield 20, 3) := by decide +kernel
theorem dX10_digest_100 : decode cX10_digest 100 = .ok (.iload_n 1, 1) := by decide +kernel
theorem dX10_digest_101 : decode cX10_digest 101 = .ok (.iaload, 1) := by decide +kernel
theorem dX10_digest_102 : decode cX10_digest 102 = .ok (.i2l, 1) := by decide +kernel
theorem dX10_digest_103 : decode cX10_digest 103 = .ok (.invokevirtual 284, 3) := by decide +kernel
theorem dX10_digest_106 : decode cX10_digest 106 = .ok (.iinc 1 1, 3) := by decide +kernel
theorem dX10_digest_109 : decode cX10_digest 109 = .ok (.goto (-44), 3) := by decide +kernel
theorem dX10_digest_112 : decode cX10_digest 112 = .ok (.aload_n 0, 1) := by decide +kernel
theorem dX10_digest_113 : decode cX10_digest 113 = .ok (.invokevirtual 290, 3) := by decide +kernel
theorem dX10_digest_116 : decode cX10_digest 116 = .ok (.aload_n 0, 1) := by decide +kernel
theorem dX10_digest_117 : decode cX10_digest 117 = .ok (.invokevirtual 293, 3) := by decide +kernel
theorem dX10_digest_120 : decode cX10_digest 120 = .ok (.aload_n 0, 1) := by decide +kernel
theorem dX10_digest_121 : decode cX10_digest 121 = .ok (.aload_n 0, 1) := by decide +kernel
theorem dX10_digest_122 : decode cX10_digest 122 = .ok (.invokevirtual 255, 3) := by decide +kernel
theorem dX10_digest_125 : decode cX10_digest 125 = .ok (.invokestatic 296, 3) := by decide +kernel
theorem dX10_digest_128 : decode cX10_digest 128 = .ok (.invokevirtual 284, 3) := by decide +kernel
theorem dX10_digest_131 : decode cX10_digest 131 = .ok (.aload_n 0, 1) := by decide +kernel
theorem dX10_digest_132 : decode cX10_digest 132 = .ok (.aload_n 0, 1) := by decide +kernel
theorem dX10_digest_133 : decode cX10_digest 133 = .ok (.getfield 126, 3) := by decide +kernel
theorem dX10_digest_136 : decode cX10_digest 136 = .ok (.i2l, 1) := by decide +kernel
theorem dX10_digest_137 : decode cX10_digest 137 = .ok (.invokevirtual 284, 3) := by decide +kernel
theorem dX10_digest_140 : decode cX10_digest 140 = .ok (.iconst 0, 1) := by decide +kernel
theorem dX10_digest_141 : decode cX10_digest 141 = .ok (.istore_n 1, 1) := by decide +kernel
theorem dX10_digest_142 : decode cX10_digest 142 = .ok (.iload_n 1, 1) := by decide +kernel
theorem dX10_digest_143 : decode cX10_digest 143 = .ok (.aload_n 0, 1) := by decide +kernel
theorem dX10_digest_144 : decode cX10_digest 144 = .ok (.getfield 126, 3) := by decide +kernel
theorem dX10_digest_147 : decode cX10_digest 147 = .ok (.if_icmp .ge 20, 3) := by decide +kernel
theorem dX10_digest_150 : decode cX10_digest 150 = .ok (.aload_n 0, 1) := by decide +kernel
theorem dX10_digest_151 : decode cX10_digest 151 = .ok (.aload_n 0, 1) := by decide +kernel
theorem dX10_digest_152 : decode cX10_digest 152 = .ok (.getfield 35, 3) := by decide +kernel
theorem dX10_digest_155 : decode cX10_digest 155 = .ok (.iload_n 1, 1) := by decide +kernel
theorem dX10_digest_156 : decode cX10_digest 156 = .ok (.iaload, 1) := by decide +kernel
theorem dX10_digest_157 : decode cX10_digest 157 = .ok (.i2l, 1) := by decide +kernel
theorem dX10_digest_158 : decode cX10_digest 158 = .ok (.invokevirtual 284, 3) := by decide +kernel
theorem dX10_digest_161 : decode cX10_digest 161 = .ok (.iinc 1 1, 3) := by decide +kernel
theorem dX10_digest_164 : decode cX10_digest 164 = .ok (.goto (-22), 3) := by decide +kernel
theorem dX10_digest_167 : decode cX10_digest 167 = .ok (.aload_n 0, 1) := by decide +kernel
theorem dX10_digest_168 : decode cX10_digest 168 = .ok (.getfield 280, 3) := by decide +kernel
theorem dX10_digest_171 : decode cX10_digest 171 = .ok (.lreturn, 1) := by decide +kernel

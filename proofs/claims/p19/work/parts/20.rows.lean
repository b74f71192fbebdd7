/-! p19: the claim is false as printed (its room): made by wip/refute/port.py out of whole's rows -/
theorem dX0_init_0 : decode cX0_init 0 = .ok (.aload_n 0, 1) := by decide +kernel
theorem dX0_init_1 : decode cX0_init 1 = .ok (.invokespecial 3, 3) := by decide +kernel
theorem dX0_init_4 : decode cX0_init 4 = .ok (.aload_n 0, 1) := by decide +kernel
theorem dX0_init_5 : decode cX0_init 5 = .ok (.iconst 0, 1) := by decide +kernel
theorem dX0_init_6 : decode cX0_init 6 = .ok (.putfield 9, 3) := by decide +kernel
theorem dX0_init_9 : decode cX0_init 9 = .ok (.aload_n 0, 1) := by decide +kernel
theorem dX0_init_10 : decode cX0_init 10 = .ok (.new 15, 3) := by decide +kernel
theorem dX0_init_13 : decode cX0_init 13 = .ok (.dup, 1) := by decide +kernel
theorem dX0_init_14 : decode cX0_init 14 = .ok (.bipush 10, 2) := by decide +kernel
theorem dX0_init_16 : decode cX0_init 16 = .ok (.invokespecial 17, 3) := by decide +kernel
theorem dX0_init_19 : decode cX0_init 19 = .ok (.putfield 20, 3) := by decide +kernel
theorem dX0_init_22 : decode cX0_init 22 = .ok (.aload_n 0, 1) := by decide +kernel
theorem dX0_init_23 : decode cX0_init 23 = .ok (.new 15, 3) := by decide +kernel
theorem dX0_init_26 : decode cX0_init 26 = .ok (.dup, 1) := by decide +kernel
theorem dX0_init_27 : decode cX0_init 27 = .ok (.bipush 20, 2) := by decide +kernel
theorem dX0_init_29 : decode cX0_init 29 = .ok (.invokespecial 17, 3) := by decide +kernel
theorem dX0_init_32 : decode cX0_init 32 = .ok (.putfield 24, 3) := by decide +kernel
theorem dX0_init_35 : decode cX0_init 35 = .ok (.aload_n 0, 1) := by decide +kernel
theorem dX0_init_36 : decode cX0_init 36 = .ok (.new 27, 3) := by decide +kernel
theorem dX0_init_39 : decode cX0_init 39 = .ok (.dup, 1) := by decide +kernel
theorem dX0_init_40 : decode cX0_init 40 = .ok (.bipush 20, 2) := by decide +kernel
theorem dX0_init_42 : decode cX0_init 42 = .ok (.bipush 7, 2) := by decide +kernel
theorem dX0_init_44 : decode cX0_init 44 = .ok (.invokespecial 29, 3) := by decide +kernel
theorem dX0_init_47 : decode cX0_init 47 = .ok (.putfield 32, 3) := by decide +kernel
theorem dX0_init_50 : decode cX0_init 50 = .ok (.aload_n 0, 1) := by decide +kernel
theorem dX0_init_51 : decode cX0_init 51 = .ok (.new 15, 3) := by decide +kernel
theorem dX0_init_54 : decode cX0_init 54 = .ok (.dup, 1) := by decide +kernel
theorem dX0_init_55 : decode cX0_init 55 = .ok (.bipush 20, 2) := by decide +kernel
theorem dX0_init_57 : decode cX0_init 57 = .ok (.invokespecial 17, 3) := by decide +kernel
theorem dX0_init_60 : decode cX0_init 60 = .ok (.putfield 36, 3) := by decide +kernel
theorem dX0_init_63 : decode cX0_init 63 = .ok (.return_, 1) := by decide +kernel
theorem dX0_renumber_0 : decode cX0_renumber 0 = .ok (.iconst 0, 1) := by decide +kernel
theorem dX0_renumber_1 : decode cX0_renumber 1 = .ok (.istore_n 2, 1) := by decide +kernel
theorem dX0_renumber_2 : decode cX0_renumber 2 = .ok (.iload_n 2, 1) := by decide +kernel
theorem dX0_renumber_3 : decode cX0_renumber 3 = .ok (.iconst 2, 1) := by decide +kernel
theorem dX0_renumber_4 : decode cX0_renumber 4 = .ok (.aload_n 0, 1) := by decide +kernel
theorem dX0_renumber_5 : decode cX0_renumber 5 = .ok (.getfield 9, 3) := by decide +kernel
theorem dX0_renumber_8 : decode cX0_renumber 8 = .ok (.imul, 1) := by decide +kernel
theorem dX0_renumber_9 : decode cX0_renumber 9 = .ok (.if_icmp .ge 70, 3) := by decide +kernel
theorem dX0_renumber_12 : decode cX0_renumber 12 = .ok (.aload_n 0, 1) := by decide +kernel
theorem dX0_renumber_13 : decode cX0_renumber 13 = .ok (.getfield 20, 3) := by decide +kernel
theorem dX0_renumber_16 : decode cX0_renumber 16 = .ok (.iload_n 2, 1) := by decide +kernel
theorem dX0_renumber_17 : decode cX0_renumber 17 = .ok (.iconst 2, 1) := by decide +kernel
theorem dX0_renumber_18 : decode cX0_renumber 18 = .ok (.idiv, 1) := by decide +kernel
theorem dX0_renumber_19 : decode cX0_renumber 19 = .ok (.invokevirtual 49, 3) := by decide +kernel
theorem dX0_renumber_22 : decode cX0_renumber 22 = .ok (.istore_n 3, 1) := by decide +kernel
theorem dX0_renumber_23 : decode cX0_renumber 23 = .ok (.iconst 0, 1) := by decide +kernel
theorem dX0_renumber_24 : decode cX0_renumber 24 = .ok (.istore 4, 2) := by decide +kernel
theorem dX0_renumber_26 : decode cX0_renumber 26 = .ok (.iload 4, 2) := by decide +kernel
theorem dX0_renumber_28 : decode cX0_renumber 28 = .ok (.aload_n 0, 1) := by decide +kernel
theorem dX0_renumber_29 : decode cX0_renumber 29 = .ok (.getfield 24, 3) := by decide +kernel
theorem dX0_renumber_32 : decode cX0_renumber 32 = .ok (.iload_n 2, 1) := by decide +kernel
theorem dX0_renumber_33 : decode cX0_renumber 33 = .ok (.invokevirtual 49, 3) := by decide +kernel
theorem dX0_renumber_36 : decode cX0_renumber 36 = .ok (.if_icmp .ge 28, 3) := by decide +kernel
theorem dX0_renumber_39 : decode cX0_renumber 39 = .ok (.aload_n 1, 1) := by decide +kernel
theorem dX0_renumber_40 : decode cX0_renumber 40 = .ok (.getfield 63, 3) := by decide +kernel
theorem dX0_renumber_43 : decode cX0_renumber 43 = .ok (.iload_n 3, 1) := by decide +kernel
theorem dX0_renumber_44 : decode cX0_renumber 44 = .ok (.aload_n 0, 1) := by decide +kernel
theorem dX0_renumber_45 : decode cX0_renumber 45 = .ok (.getfield 32, 3) := by decide +kernel
theorem dX0_renumber_48 : decode cX0_renumber 48 = .ok (.iload_n 2, 1) := by decide +kernel
theorem dX0_renumber_49 : decode cX0_renumber 49 = .ok (.iload 4, 2) := by decide +kernel
theorem dX0_renumber_51 : decode cX0_renumber 51 = .ok (.invokevirtual 68, 3) := by decide +kernel
theorem dX0_renumber_54 : decode cX0_renumber 54 = .ok (.invokevirtual 68, 3) := by decide +kernel
theorem dX0_renumber_57 : decode cX0_renumber 57 = .ok (.istore_n 3, 1) := by decide +kernel
theorem dX0_renumber_58 : decode cX0_renumber 58 = .ok (.iinc 4 1, 3) := by decide +kernel
theorem dX0_renumber_61 : decode cX0_renumber 61 = .ok (.goto (-35), 3) := by decide +kernel
theorem dX0_renumber_64 : decode cX0_renumber 64 = .ok (.aload_n 0, 1) := by decide +kernel
theorem dX0_renumber_65 : decode cX0_renumber 65 = .ok (.getfield 36, 3) := by decide +kernel
theorem dX0_renumber_68 : decode cX0_renumber 68 = .ok (.iload_n 2, 1) := by decide +kernel
theorem dX0_renumber_69 : decode cX0_renumber 69 = .ok (.iload_n 3, 1) := by decide +kernel
theorem dX0_renumber_70 : decode cX0_renumber 70 = .ok (.invokevirtual 46, 3) := by decide +kernel
theorem dX0_renumber_73 : decode cX0_renumber 73 = .ok (.iinc 2 1, 3) := by decide +kernel
theorem dX0_renumber_76 : decode cX0_renumber 76 = .ok (.goto (-74), 3) := by decide +kernel
theorem dX0_renumber_79 : decode cX0_renumber 79 = .ok (.return_, 1) := by decide +kernel
theorem dX1_init_0 : decode cX1_init 0 = .ok (.aload_n 0, 1) := by decide +kernel
theorem dX1_init_1 : decode cX1_init 1 = .ok (.invokespecial 3, 3) := by decide +kernel
theorem dX1_init_4 : decode cX1_init 4 = .ok (.aload_n 0, 1) := by decide +kernel
theorem dX1_init_5 : decode cX1_init 5 = .ok (.new 9, 3) := by decide +kernel
theorem dX1_init_8 : decode cX1_init 8 = .ok (.dup, 1) := by decide +kernel
theorem dX1_init_9 : decode cX1_init 9 = .ok (.bipush 8, 2) := by decide +kernel
theorem dX1_init_11 : decode cX1_init 11 = .ok (.invokespecial 11, 3) := by decide +kernel
theorem dX1_init_14 : decode cX1_init 14 = .ok (.putfield 14, 3) := by decide +kernel
theorem dX1_init_17 : decode cX1_init 17 = .ok (.aload_n 0, 1) := by decide +kernel
theorem dX1_init_18 : decode cX1_init 18 = .ok (.new 9, 3) := by decide +kernel
theorem dX1_init_21 : decode cX1_init 21 = .ok (.dup, 1) := by decide +kernel
theorem dX1_init_22 : decode cX1_init 22 = .ok (.bipush 14, 2) := by decide +kernel
theorem dX1_init_24 : decode cX1_init 24 = .ok (.invokespecial 11, 3) := by decide +kernel
theorem dX1_init_27 : decode cX1_init 27 = .ok (.putfield 20, 3) := by decide +kernel
theorem dX1_init_30 : decode cX1_init 30 = .ok (.return_, 1) := by decide +kernel
theorem dX1_clear_0 : decode cX1_clear 0 = .ok (.aload_n 0, 1) := by decide +kernel
theorem dX1_clear_1 : decode cX1_clear 1 = .ok (.getfield 14, 3) := by decide +kernel
theorem dX1_clear_4 : decode cX1_clear 4 = .ok (.iconst 2, 1) := by decide +kernel
theorem dX1_clear_5 : decode cX1_clear 5 = .ok (.invokevirtual 23, 3) := by decide +kernel
theorem dX1_clear_8 : decode cX1_clear 8 = .ok (.return_, 1) := by decide +kernel
theorem dX2_init_0 : decode cX2_init 0 = .ok (.aload_n 0, 1) := by decide +kernel
theorem dX2_init_1 : decode cX2_init 1 = .ok (.invokespecial 3, 3) := by decide +kernel
theorem dX2_init_4 : decode cX2_init 4 = .ok (.aload_n 0, 1) := by decide +kernel
theorem dX2_init_5 : decode cX2_init 5 = .ok (.iconst 0, 1) := by decide +kernel
theorem dX2_init_6 : decode cX2_init 6 = .ok (.putfield 9, 3) := by decide +kernel
theorem dX2_init_9 : decode cX2_init 9 = .ok (.aload_n 0, 1) := by decide +kernel
theorem dX2_init_10 : decode cX2_init 10 = .ok (.iconst 0, 1) := by decide +kernel
theorem dX2_init_11 : decode cX2_init 11 = .ok (.putfield 15, 3) := by decide +kernel
theorem dX2_init_14 : decode cX2_init 14 = .ok (.aload_n 0, 1) := by decide +kernel
theorem dX2_init_15 : decode cX2_init 15 = .ok (.new 18, 3) := by decide +kernel
theorem dX2_init_18 : decode cX2_init 18 = .ok (.dup, 1) := by decide +kernel
theorem dX2_init_19 : decode cX2_init 19 = .ok (.bipush 14, 2) := by decide +kernel
theorem dX2_init_21 : decode cX2_init 21 = .ok (.invokespecial 20, 3) := by decide +kernel
theorem dX2_init_24 : decode cX2_init 24 = .ok (.putfield 23, 3) := by decide +kernel
theorem dX2_init_27 : decode cX2_init 27 = .ok (.aload_n 0, 1) := by decide +kernel
theorem dX2_init_28 : decode cX2_init 28 = .ok (.new 18, 3) := by decide +kernel
theorem dX2_init_31 : decode cX2_init 31 = .ok (.dup, 1) := by decide +kernel
theorem dX2_init_32 : decode cX2_init 32 = .ok (.bipush 14, 2) := by decide +kernel
theorem dX2_init_34 : decode cX2_init 34 = .ok (.invokespecial 20, 3) := by decide +kernel
theorem dX2_init_37 : decode cX2_init 37 = .ok (.putfield 27, 3) := by decide +kernel
theorem dX2_init_40 : decode cX2_init 40 = .ok (.aload_n 0, 1) := by decide +kernel
theorem dX2_init_41 : decode cX2_init 41 = .ok (.new 18, 3) := by decide +kernel
theorem dX2_init_44 : decode cX2_init 44 = .ok (.dup, 1) := by decide +kernel
theorem dX2_init_45 : decode cX2_init 45 = .ok (.bipush 8, 2) := by decide +kernel
theorem dX2_init_47 : decode cX2_init 47 = .ok (.invokespecial 20, 3) := by decide +kernel
theorem dX2_init_50 : decode cX2_init 50 = .ok (.putfield 30, 3) := by decide +kernel
theorem dX2_init_53 : decode cX2_init 53 = .ok (.return_, 1) := by decide +kernel
theorem dX2_clear_0 : decode cX2_clear 0 = .ok (.aload_n 0, 1) := by decide +kernel
theorem dX2_clear_1 : decode cX2_clear 1 = .ok (.iload_n 1, 1) := by decide +kernel
theorem dX2_clear_2 : decode cX2_clear 2 = .ok (.putfield 9, 3) := by decide +kernel
theorem dX2_clear_5 : decode cX2_clear 5 = .ok (.aload_n 0, 1) := by decide +kernel
theorem dX2_clear_6 : decode cX2_clear 6 = .ok (.iconst 0, 1) := by decide +kernel
theorem dX2_clear_7 : decode cX2_clear 7 = .ok (.putfield 15, 3) := by decide +kernel
theorem dX2_clear_10 : decode cX2_clear 10 = .ok (.return_, 1) := by decide +kernel
theorem dX2_objectTotal_0 : decode cX2_objectTotal 0 = .ok (.aload_n 0, 1) := by decide +kernel
theorem dX2_objectTotal_1 : decode cX2_objectTotal 1 = .ok (.getfield 9, 3) := by decide +kernel
theorem dX2_objectTotal_4 : decode cX2_objectTotal 4 = .ok (.ireturn, 1) := by decide +kernel
theorem dX2_arrowTotal_0 : decode cX2_arrowTotal 0 = .ok (.aload_n 0, 1) := by decide +kernel
theorem dX2_arrowTotal_1 : decode cX2_arrowTotal 1 = .ok (.getfield 15, 3) := by decide +kernel
theorem dX2_arrowTotal_4 : decode cX2_arrowTotal 4 = .ok (.ireturn, 1) := by decide +kernel
theorem dX2_hasArrow_0 : decode cX2_hasArrow 0 = .ok (.iload_n 1, 1) := by decide +kernel
theorem dX2_hasArrow_1 : decode cX2_hasArrow 1 = .ok (.ifCond .lt 15, 3) := by decide +kernel
theorem dX2_hasArrow_4 : decode cX2_hasArrow 4 = .ok (.iload_n 1, 1) := by decide +kernel
theorem dX2_hasArrow_5 : decode cX2_hasArrow 5 = .ok (.aload_n 0, 1) := by decide +kernel
theorem dX2_hasArrow_6 : decode cX2_hasArrow 6 = .ok (.getfield 15, 3) := by decide +kernel
theorem dX2_hasArrow_9 : decode cX2_hasArrow 9 = .ok (.if_icmp .ge 7, 3) := by decide +kernel
theorem dX2_hasArrow_12 : decode cX2_hasArrow 12 = .ok (.iconst 1, 1) := by decide +kernel
theorem dX2_hasArrow_13 : decode cX2_hasArrow 13 = .ok (.goto 4, 3) := by decide +kernel
theorem dX2_hasArrow_16 : decode cX2_hasArrow 16 = .ok (.iconst 0, 1) := by decide +kernel
theorem dX2_hasArrow_17 : decode cX2_hasArrow 17 = .ok (.ireturn, 1) := by decide +kernel
theorem dX2_from_0 : decode cX2_from 0 = .ok (.aload_n 0, 1) := by decide +kernel
theorem dX2_from_1 : decode cX2_from 1 = .ok (.iload_n 1, 1) := by decide +kernel
theorem dX2_from_2 : decode cX2_from 2 = .ok (.invokevirtual 37, 3) := by decide +kernel
theorem dX2_from_5 : decode cX2_from 5 = .ok (.ifCond .eq 14, 3) := by decide +kernel
theorem dX2_from_8 : decode cX2_from 8 = .ok (.aload_n 0, 1) := by decide +kernel
theorem dX2_from_9 : decode cX2_from 9 = .ok (.getfield 23, 3) := by decide +kernel
theorem dX2_from_12 : decode cX2_from 12 = .ok (.iload_n 1, 1) := by decide +kernel
theorem dX2_from_13 : decode cX2_from 13 = .ok (.invokevirtual 41, 3) := by decide +kernel
theorem dX2_from_16 : decode cX2_from 16 = .ok (.goto 4, 3) := by decide +kernel
theorem dX2_from_19 : decode cX2_from 19 = .ok (.iconst (-1), 1) := by decide +kernel
theorem dX2_from_20 : decode cX2_from 20 = .ok (.ireturn, 1) := by decide +kernel
theorem dX2_to_0 : decode cX2_to 0 = .ok (.aload_n 0, 1) := by decide +kernel
theorem dX2_to_1 : decode cX2_to 1 = .ok (.iload_n 1, 1) := by decide +kernel
theorem dX2_to_2 : decode cX2_to 2 = .ok (.invokevirtual 37, 3) := by decide +kernel
theorem dX2_to_5 : decode cX2_to 5 = .ok (.ifCond .eq 14, 3) := by decide +kernel
theorem dX2_to_8 : decode cX2_to 8 = .ok (.aload_n 0, 1) := by decide +kernel
theorem dX2_to_9 : decode cX2_to 9 = .ok (.getfield 27, 3) := by decide +kernel
theorem dX2_to_12 : decode cX2_to 12 = .ok (.iload_n 1, 1) := by decide +kernel
theorem dX2_to_13 : decode cX2_to 13 = .ok (.invokevirtual 41, 3) := by decide +kernel
theorem dX2_to_16 : decode cX2_to 16 = .ok (.goto 4, 3) := by decide +kernel
theorem dX2_to_19 : decode cX2_to 19 = .ok (.iconst (-1), 1) := by decide +kernel
theorem dX2_to_20 : decode cX2_to 20 = .ok (.ireturn, 1) := by decide +kernel
theorem dX3_init_0 : decode cX3_init 0 = .ok (.aload_n 0, 1) := by decide +kernel
theorem dX3_init_1 : decode cX3_init 1 = .ok (.invokespecial 3, 3) := by decide +kernel
theorem dX3_init_4 : decode cX3_init 4 = .ok (.aload_n 0, 1) := by decide +kernel
theorem dX3_init_5 : decode cX3_init 5 = .ok (.iload_n 1, 1) := by decide +kernel
theorem dX3_init_6 : decode cX3_init 6 = .ok (.ifCond .le 7, 3) := by decide +kernel
theorem dX3_init_9 : decode cX3_init 9 = .ok (.iload_n 1, 1) := by decide +kernel
theorem dX3_init_10 : decode cX3_init 10 = .ok (.goto 4, 3) := by decide +kernel
theorem dX3_init_14 : decode cX3_init 14 = .ok (.putfield 9, 3) := by decide +kernel
theorem dX3_init_17 : decode cX3_init 17 = .ok (.aload_n 0, 1) := by decide +kernel
theorem dX3_init_18 : decode cX3_init 18 = .ok (.iload_n 2, 1) := by decide +kernel
theorem dX3_init_19 : decode cX3_init 19 = .ok (.ifCond .le 7, 3) := by decide +kernel
theorem dX3_init_22 : decode cX3_init 22 = .ok (.iload_n 2, 1) := by decide +kernel
theorem dX3_init_23 : decode cX3_init 23 = .ok (.goto 4, 3) := by decide +kernel
theorem dX3_init_27 : decode cX3_init 27 = .ok (.putfield 15, 3) := by decide +kernel
theorem dX3_init_30 : decode cX3_init 30 = .ok (.aload_n 0, 1) := by decide +kernel
theorem dX3_init_31 : decode cX3_init 31 = .ok (.getfield 9, 3) := by decide +kernel
theorem dX3_init_34 : decode cX3_init 34 = .ok (.aload_n 0, 1) := by decide +kernel
theorem dX3_init_35 : decode cX3_init 35 = .ok (.getfield 15, 3) := by decide +kernel
theorem dX3_init_38 : decode cX3_init 38 = .ok (.imul, 1) := by decide +kernel
theorem dX3_init_39 : decode cX3_init 39 = .ok (.istore_n 3, 1) := by decide +kernel
theorem dX3_init_40 : decode cX3_init 40 = .ok (.aload_n 0, 1) := by decide +kernel
theorem dX3_init_41 : decode cX3_init 41 = .ok (.iload_n 3, 1) := by decide +kernel
theorem dX3_init_42 : decode cX3_init 42 = .ok (.ifCond .le 7, 3) := by decide +kernel
theorem dX3_init_45 : decode cX3_init 45 = .ok (.iload_n 3, 1) := by decide +kernel
theorem dX3_init_46 : decode cX3_init 46 = .ok (.goto 4, 3) := by decide +kernel
theorem dX3_init_50 : decode cX3_init 50 = .ok (.newarray .int, 2) := by decide +kernel
theorem dX3_init_52 : decode cX3_init 52 = .ok (.putfield 18, 3) := by decide +kernel
theorem dX3_init_55 : decode cX3_init 55 = .ok (.return_, 1) := by decide +kernel
theorem dX3_get_0 : decode cX3_get 0 = .ok (.iload_n 1, 1) := by decide +kernel
theorem dX3_get_1 : decode cX3_get 1 = .ok (.ifCond .lt 23, 3) := by decide +kernel
theorem dX3_get_4 : decode cX3_get 4 = .ok (.iload_n 1, 1) := by decide +kernel
theorem dX3_get_5 : decode cX3_get 5 = .ok (.aload_n 0, 1) := by decide +kernel
theorem dX3_get_6 : decode cX3_get 6 = .ok (.getfield 9, 3) := by decide +kernel
theorem dX3_get_9 : decode cX3_get 9 = .ok (.if_icmp .ge 15, 3) := by decide +kernel
theorem dX3_get_12 : decode cX3_get 12 = .ok (.iload_n 2, 1) := by decide +kernel
theorem dX3_get_13 : decode cX3_get 13 = .ok (.ifCond .lt 11, 3) := by decide +kernel
theorem dX3_get_16 : decode cX3_get 16 = .ok (.iload_n 2, 1) := by decide +kernel
theorem dX3_get_17 : decode cX3_get 17 = .ok (.aload_n 0, 1) := by decide +kernel
theorem dX3_get_18 : decode cX3_get 18 = .ok (.getfield 15, 3) := by decide +kernel
theorem dX3_get_21 : decode cX3_get 21 = .ok (.if_icmp .lt 5, 3) := by decide +kernel
theorem dX3_get_24 : decode cX3_get 24 = .ok (.iconst (-1), 1) := by decide +kernel
theorem dX3_get_25 : decode cX3_get 25 = .ok (.ireturn, 1) := by decide +kernel
theorem dX3_get_26 : decode cX3_get 26 = .ok (.iload_n 1, 1) := by decide +kernel
theorem dX3_get_27 : decode cX3_get 27 = .ok (.aload_n 0, 1) := by decide +kernel
theorem dX3_get_28 : decode cX3_get 28 = .ok (.getfield 15, 3) := by decide +kernel
theorem dX3_get_31 : decode cX3_get 31 = .ok (.imul, 1) := by decide +kernel
theorem dX3_get_32 : decode cX3_get 32 = .ok (.iload_n 2, 1) := by decide +kernel
theorem dX3_get_33 : decode cX3_get 33 = .ok (.iadd, 1) := by decide +kernel
theorem dX3_get_34 : decode cX3_get 34 = .ok (.istore_n 3, 1) := by decide +kernel
theorem dX3_get_35 : decode cX3_get 35 = .ok (.iload_n 3, 1) := by decide +kernel
theorem dX3_get_36 : decode cX3_get 36 = .ok (.ifCond .lt 21, 3) := by decide +kernel
theorem dX3_get_39 : decode cX3_get 39 = .ok (.iload_n 3, 1) := by decide +kernel
theorem dX3_get_40 : decode cX3_get 40 = .ok (.aload_n 0, 1) := by decide +kernel
theorem dX3_get_41 : decode cX3_get 41 = .ok (.getfield 18, 3) := by decide +kernel
theorem dX3_get_44 : decode cX3_get 44 = .ok (.arraylength, 1) := by decide +kernel
theorem dX3_get_45 : decode cX3_get 45 = .ok (.if_icmp .ge 12, 3) := by decide +kernel
theorem dX3_get_48 : decode cX3_get 48 = .ok (.aload_n 0, 1) := by decide +kernel
theorem dX3_get_49 : decode cX3_get 49 = .ok (.getfield 18, 3) := by decide +kernel
theorem dX3_get_52 : decode cX3_get 52 = .ok (.iload_n 3, 1) := by decide +kernel
theorem dX3_get_53 : decode cX3_get 53 = .ok (.iaload, 1) := by decide +kernel
theorem dX3_get_54 : decode cX3_get 54 = .ok (.goto 4, 3) := by decide +kernel
theorem dX3_get_57 : decode cX3_get 57 = .ok (.iconst (-1), 1) := by decide +kernel
theorem dX3_get_58 : decode cX3_get 58 = .ok (.ireturn, 1) := by decide +kernel
theorem dX3_set_0 : decode cX3_set 0 = .ok (.iload_n 1, 1) := by decide +kernel
theorem dX3_set_1 : decode cX3_set 1 = .ok (.ifCond .lt 23, 3) := by decide +kernel
theorem dX3_set_4 : decode cX3_set 4 = .ok (.iload_n 1, 1) := by decide +kernel
theorem dX3_set_5 : decode cX3_set 5 = .ok (.aload_n 0, 1) := by decide +kernel
theorem dX3_set_6 : decode cX3_set 6 = .ok (.getfield 9, 3) := by decide +kernel
theorem dX3_set_9 : decode cX3_set 9 = .ok (.if_icmp .ge 15, 3) := by decide +kernel
theorem dX3_set_12 : decode cX3_set 12 = .ok (.iload_n 2, 1) := by decide +kernel
theorem dX3_set_13 : decode cX3_set 13 = .ok (.ifCond .lt 11, 3) := by decide +kernel
theorem dX3_set_16 : decode cX3_set 16 = .ok (.iload_n 2, 1) := by decide +kernel
theorem dX3_set_17 : decode cX3_set 17 = .ok (.aload_n 0, 1) := by decide +kernel
theorem dX3_set_18 : decode cX3_set 18 = .ok (.getfield 15, 3) := by decide +kernel
theorem dX3_set_21 : decode cX3_set 21 = .ok (.if_icmp .lt 4, 3) := by decide +kernel
theorem dX3_set_24 : decode cX3_set 24 = .ok (.return_, 1) := by decide +kernel
theorem dX3_set_25 : decode cX3_set 25 = .ok (.iload_n 1, 1) := by decide +kernel
theorem dX3_set_26 : decode cX3_set 26 = .ok (.aload_n 0, 1) := by decide +kernel
theorem dX3_set_27 : decode cX3_set 27 = .ok (.getfield 15, 3) := by decide +kernel
theorem dX3_set_30 : decode cX3_set 30 = .ok (.imul, 1) := by decide +kernel
theorem dX3_set_31 : decode cX3_set 31 = .ok (.iload_n 2, 1) := by decide +kernel
theorem dX3_set_32 : decode cX3_set 32 = .ok (.iadd, 1) := by decide +kernel
theorem dX3_set_33 : decode cX3_set 33 = .ok (.istore 4, 2) := by decide +kernel
theorem dX3_set_35 : decode cX3_set 35 = .ok (.iload 4, 2) := by decide +kernel
theorem dX3_set_37 : decode cX3_set 37 = .ok (.ifCond .lt 21, 3) := by decide +kernel
theorem dX3_set_40 : decode cX3_set 40 = .ok (.iload 4, 2) := by decide +kernel
theorem dX3_set_42 : decode cX3_set 42 = .ok (.aload_n 0, 1) := by decide +kernel
theorem dX3_set_43 : decode cX3_set 43 = .ok (.getfield 18, 3) := by decide +kernel
theorem dX3_set_46 : decode cX3_set 46 = .ok (.arraylength, 1) := by decide +kernel
theorem dX3_set_47 : decode cX3_set 47 = .ok (.if_icmp .ge 11, 3) := by decide +kernel
theorem dX3_set_50 : decode cX3_set 50 = .ok (.aload_n 0, 1) := by decide +kernel
theorem dX3_set_51 : decode cX3_set 51 = .ok (.getfield 18, 3) := by decide +kernel
theorem dX3_set_54 : decode cX3_set 54 = .ok (.iload 4, 2) := by decide +kernel
theorem dX3_set_56 : decode cX3_set 56 = .ok (.iload_n 3, 1) := by decide +kernel
theorem dX3_set_57 : decode cX3_set 57 = .ok (.iastore, 1) := by decide +kernel
theorem dX3_set_58 : decode cX3_set 58 = .ok (.return_, 1) := by decide +kernel
theorem dX4_init_0 : decode cX4_init 0 = .ok (.aload_n 0, 1) := by decide +kernel
theorem dX4_init_1 : decode cX4_init 1 = .ok (.invokespecial 3, 3) := by decide +kernel
theorem dX4_init_4 : decode cX4_init 4 = .ok (.aload_n 0, 1) := by decide +kernel
theorem dX4_init_5 : decode cX4_init 5 = .ok (.iconst 0, 1) := by decide +kernel
theorem dX4_init_6 : decode cX4_init 6 = .ok (.putfield 9, 3) := by decide +kernel
theorem dX4_init_9 : decode cX4_init 9 = .ok (.aload_n 0, 1) := by decide +kernel
theorem dX4_init_10 : decode cX4_init 10 = .ok (.new 15, 3) := by decide +kernel
theorem dX4_init_13 : decode cX4_init 13 = .ok (.dup, 1) := by decide +kernel
theorem dX4_init_14 : decode cX4_init 14 = .ok (.bipush 60, 2) := by decide +kernel
theorem dX4_init_16 : decode cX4_init 16 = .ok (.invokespecial 17, 3) := by decide +kernel
theorem dX4_init_19 : decode cX4_init 19 = .ok (.putfield 20, 3) := by decide +kernel
theorem dX4_init_22 : decode cX4_init 22 = .ok (.return_, 1) := by decide +kernel
theorem dX5_init_0 : decode cX5_init 0 = .ok (.aload_n 0, 1) := by decide +kernel
theorem dX5_init_1 : decode cX5_init 1 = .ok (.invokespecial 3, 3) := by decide +kernel
theorem dX5_init_4 : decode cX5_init 4 = .ok (.aload_n 0, 1) := by decide +kernel
theorem dX5_init_5 : decode cX5_init 5 = .ok (.iconst 0, 1) := by decide +kernel
theorem dX5_init_6 : decode cX5_init 6 = .ok (.putfield 9, 3) := by decide +kernel
theorem dX5_init_9 : decode cX5_init 9 = .ok (.aload_n 0, 1) := by decide +kernel
theorem dX5_init_10 : decode cX5_init 10 = .ok (.iconst 0, 1) := by decide +kernel
theorem dX5_init_11 : decode cX5_init 11 = .ok (.putfield 15, 3) := by decide +kernel
theorem dX5_init_14 : decode cX5_init 14 = .ok (.aload_n 0, 1) := by decide +kernel
theorem dX5_init_15 : decode cX5_init 15 = .ok (.iconst 0, 1) := by decide +kernel
theorem dX5_init_16 : decode cX5_init 16 = .ok (.putfield 18, 3) := by decide +kernel
theorem dX5_init_19 : decode cX5_init 19 = .ok (.aload_n 0, 1) := by decide +kernel
theorem dX5_init_20 : decode cX5_init 20 = .ok (.iconst 0, 1) := by decide +kernel
theorem dX5_init_21 : decode cX5_init 21 = .ok (.putfield 22, 3) := by decide +kernel
theorem dX5_init_24 : decode cX5_init 24 = .ok (.aload_n 0, 1) := by decide +kernel
theorem dX5_init_25 : decode cX5_init 25 = .ok (.iconst 0, 1) := by decide +kernel
theorem dX5_init_26 : decode cX5_init 26 = .ok (.putfield 25, 3) := by decide +kernel
theorem dX5_init_29 : decode cX5_init 29 = .ok (.aload_n 0, 1) := by decide +kernel
theorem dX5_init_30 : decode cX5_init 30 = .ok (.iconst 0, 1) := by decide +kernel
theorem dX5_init_31 : decode cX5_init 31 = .ok (.putfield 28, 3) := by decide +kernel
theorem dX5_init_34 : decode cX5_init 34 = .ok (.aload_n 0, 1) := by decide +kernel
theorem dX5_init_35 : decode cX5_init 35 = .ok (.new 31, 3) := by decide +kernel
theorem dX5_init_38 : decode cX5_init 38 = .ok (.dup, 1) := by decide +kernel
theorem dX5_init_39 : decode cX5_init 39 = .ok (.sipush 300, 3) := by decide +kernel
theorem dX5_init_42 : decode cX5_init 42 = .ok (.bipush 20, 2) := by decide +kernel
theorem dX5_init_44 : decode cX5_init 44 = .ok (.invokespecial 33, 3) := by decide +kernel
theorem dX5_init_47 : decode cX5_init 47 = .ok (.putfield 36, 3) := by decide +kernel
theorem dX5_init_50 : decode cX5_init 50 = .ok (.aload_n 0, 1) := by decide +kernel
theorem dX5_init_51 : decode cX5_init 51 = .ok (.new 40, 3) := by decide +kernel
theorem dX5_init_54 : decode cX5_init 54 = .ok (.dup, 1) := by decide +kernel
theorem dX5_init_55 : decode cX5_init 55 = .ok (.sipush 300, 3) := by decide +kernel
theorem dX5_init_58 : decode cX5_init 58 = .ok (.invokespecial 42, 3) := by decide +kernel
theorem dX5_init_61 : decode cX5_init 61 = .ok (.putfield 45, 3) := by decide +kernel
theorem dX5_init_64 : decode cX5_init 64 = .ok (.aload_n 0, 1) := by decide +kernel
theorem dX5_init_65 : decode cX5_init 65 = .ok (.new 40, 3) := by decide +kernel
theorem dX5_init_68 : decode cX5_init 68 = .ok (.dup, 1) := by decide +kernel
theorem dX5_init_69 : decode cX5_init 69 = .ok (.sipush 300, 3) := by decide +kernel
theorem dX5_init_72 : decode cX5_init 72 = .ok (.invokespecial 42, 3) := by decide +kernel
theorem dX5_init_75 : decode cX5_init 75 = .ok (.putfield 49, 3) := by decide +kernel
theorem dX5_init_78 : decode cX5_init 78 = .ok (.aload_n 0, 1) := by decide +kernel
theorem dX5_init_79 : decode cX5_init 79 = .ok (.new 40, 3) := by decide +kernel
theorem dX5_init_82 : decode cX5_init 82 = .ok (.dup, 1) := by decide +kernel
theorem dX5_init_83 : decode cX5_init 83 = .ok (.sipush 300, 3) := by decide +kernel
theorem dX5_init_86 : decode cX5_init 86 = .ok (.invokespecial 42, 3) := by decide +kernel
theorem dX5_init_89 : decode cX5_init 89 = .ok (.putfield 52, 3) := by decide +kernel
theorem dX5_init_92 : decode cX5_init 92 = .ok (.aload_n 0, 1) := by decide +kernel
theorem dX5_init_93 : decode cX5_init 93 = .ok (.new 40, 3) := by decide +kernel
theorem dX5_init_96 : decode cX5_init 96 = .ok (.dup, 1) := by decide +kernel
theorem dX5_init_97 : decode cX5_init 97 = .ok (.sipush 300, 3) := by decide +kernel
theorem dX5_init_100 : decode cX5_init 100 = .ok (.invokespecial 42, 3) := by decide +kernel
theorem dX5_init_103 : decode cX5_init 103 = .ok (.putfield 55, 3) := by decide +kernel
theorem dX5_init_106 : decode cX5_init 106 = .ok (.aload_n 0, 1) := by decide +kernel
theorem dX5_init_107 : decode cX5_init 107 = .ok (.new 31, 3) := by decide +kernel
theorem dX5_init_110 : decode cX5_init 110 = .ok (.dup, 1) := by decide +kernel
theorem dX5_init_111 : decode cX5_init 111 = .ok (.bipush 8, 2) := by decide +kernel
theorem dX5_init_113 : decode cX5_init 113 = .ok (.bipush 8, 2) := by decide +kernel
theorem dX5_init_115 : decode cX5_init 115 = .ok (.invokespecial 33, 3) := by decide +kernel
theorem dX5_init_118 : decode cX5_init 118 = .ok (.putfield 58, 3) := by decide +kernel
theorem dX5_init_121 : decode cX5_init 121 = .ok (.aload_n 0, 1) := by decide +kernel
theorem dX5_init_122 : decode cX5_init 122 = .ok (.getfield 52, 3) := by decide +kernel
theorem dX5_init_125 : decode cX5_init 125 = .ok (.iconst (-1), 1) := by decide +kernel
theorem dX5_init_126 : decode cX5_init 126 = .ok (.invokevirtual 61, 3) := by decide +kernel
theorem dX5_init_129 : decode cX5_init 129 = .ok (.return_, 1) := by decide +kernel
theorem dX5_forget_0 : decode cX5_forget 0 = .ok (.aload_n 0, 1) := by decide +kernel
theorem dX5_forget_1 : decode cX5_forget 1 = .ok (.iconst 0, 1) := by decide +kernel
theorem dX5_forget_2 : decode cX5_forget 2 = .ok (.putfield 9, 3) := by decide +kernel
theorem dX5_forget_5 : decode cX5_forget 5 = .ok (.aload_n 0, 1) := by decide +kernel
theorem dX5_forget_6 : decode cX5_forget 6 = .ok (.iconst 0, 1) := by decide +kernel
theorem dX5_forget_7 : decode cX5_forget 7 = .ok (.putfield 15, 3) := by decide +kernel
theorem dX5_forget_10 : decode cX5_forget 10 = .ok (.return_, 1) := by decide +kernel
theorem dX6_init_0 : decode cX6_init 0 = .ok (.aload_n 0, 1) := by decide +kernel
theorem dX6_init_1 : decode cX6_init 1 = .ok (.invokespecial 3, 3) := by decide +kernel
theorem dX6_init_4 : decode cX6_init 4 = .ok (.aload_n 0, 1) := by decide +kernel
theorem dX6_init_5 : decode cX6_init 5 = .ok (.iconst 0, 1) := by decide +kernel
theorem dX6_init_6 : decode cX6_init 6 = .ok (.putfield 9, 3) := by decide +kernel
theorem dX6_init_9 : decode cX6_init 9 = .ok (.aload_n 0, 1) := by decide +kernel
theorem dX6_init_10 : decode cX6_init 10 = .ok (.new 15, 3) := by decide +kernel
theorem dX6_init_13 : decode cX6_init 13 = .ok (.dup, 1) := by decide +kernel
theorem dX6_init_14 : decode cX6_init 14 = .ok (.sipush 300, 3) := by decide +kernel
theorem dX6_init_17 : decode cX6_init 17 = .ok (.invokespecial 17, 3) := by decide +kernel
theorem dX6_init_20 : decode cX6_init 20 = .ok (.putfield 20, 3) := by decide +kernel
theorem dX6_init_23 : decode cX6_init 23 = .ok (.aload_n 0, 1) := by decide +kernel
theorem dX6_init_24 : decode cX6_init 24 = .ok (.new 15, 3) := by decide +kernel
theorem dX6_init_27 : decode cX6_init 27 = .ok (.dup, 1) := by decide +kernel
theorem dX6_init_28 : decode cX6_init 28 = .ok (.sipush 300, 3) := by decide +kernel
theorem dX6_init_31 : decode cX6_init 31 = .ok (.invokespecial 17, 3) := by decide +kernel
theorem dX6_init_34 : decode cX6_init 34 = .ok (.putfield 24, 3) := by decide +kernel
theorem dX6_init_37 : decode cX6_init 37 = .ok (.aload_n 0, 1) := by decide +kernel
theorem dX6_init_38 : decode cX6_init 38 = .ok (.new 15, 3) := by decide +kernel
theorem dX6_init_41 : decode cX6_init 41 = .ok (.dup, 1) := by decide +kernel
theorem dX6_init_42 : decode cX6_init 42 = .ok (.sipush 300, 3) := by decide +kernel
theorem dX6_init_45 : decode cX6_init 45 = .ok (.invokespecial 17, 3) := by decide +kernel
theorem dX6_init_48 : decode cX6_init 48 = .ok (.putfield 27, 3) := by decide +kernel
theorem dX6_init_51 : decode cX6_init 51 = .ok (.aload_n 0, 1) := by decide +kernel
theorem dX6_init_52 : decode cX6_init 52 = .ok (.new 30, 3) := by decide +kernel
theorem dX6_init_55 : decode cX6_init 55 = .ok (.dup, 1) := by decide +kernel
theorem dX6_init_56 : decode cX6_init 56 = .ok (.sipush 300, 3) := by decide +kernel
theorem dX6_init_59 : decode cX6_init 59 = .ok (.bipush 7, 2) := by decide +kernel
theorem dX6_init_61 : decode cX6_init 61 = .ok (.invokespecial 32, 3) := by decide +kernel
theorem dX6_init_64 : decode cX6_init 64 = .ok (.putfield 35, 3) := by decide +kernel
theorem dX6_init_67 : decode cX6_init 67 = .ok (.aload_n 0, 1) := by decide +kernel
theorem dX6_init_68 : decode cX6_init 68 = .ok (.new 15, 3) := by decide +kernel
theorem dX6_init_71 : decode cX6_init 71 = .ok (.dup, 1) := by decide +kernel
theorem dX6_init_72 : decode cX6_init 72 = .ok (.sipush 300, 3) := by decide +kernel
theorem dX6_init_75 : decode cX6_init 75 = .ok (.invokespecial 17, 3) := by decide +kernel
theorem dX6_init_78 : decode cX6_init 78 = .ok (.putfield 39, 3) := by decide +kernel
theorem dX6_init_81 : decode cX6_init 81 = .ok (.aload_n 0, 1) := by decide +kernel
theorem dX6_init_82 : decode cX6_init 82 = .ok (.new 30, 3) := by decide +kernel
theorem dX6_init_85 : decode cX6_init 85 = .ok (.dup, 1) := by decide +kernel
theorem dX6_init_86 : decode cX6_init 86 = .ok (.sipush 300, 3) := by decide +kernel
theorem dX6_init_89 : decode cX6_init 89 = .ok (.bipush 14, 2) := by decide +kernel
theorem dX6_init_91 : decode cX6_init 91 = .ok (.invokespecial 32, 3) := by decide +kernel
theorem dX6_init_94 : decode cX6_init 94 = .ok (.putfield 42, 3) := by decide +kernel
theorem dX6_init_97 : decode cX6_init 97 = .ok (.return_, 1) := by decide +kernel
theorem dX6_rebuild_0 : decode cX6_rebuild 0 = .ok (.aload_n 0, 1) := by decide +kernel
theorem dX6_rebuild_1 : decode cX6_rebuild 1 = .ok (.iconst 0, 1) := by decide +kernel
theorem dX6_rebuild_2 : decode cX6_rebuild 2 = .ok (.putfield 9, 3) := by decide +kernel
theorem dX6_rebuild_5 : decode cX6_rebuild 5 = .ok (.iconst 0, 1) := by decide +kernel
theorem dX6_rebuild_6 : decode cX6_rebuild 6 = .ok (.istore_n 2, 1) := by decide +kernel
theorem dX6_rebuild_7 : decode cX6_rebuild 7 = .ok (.iload_n 2, 1) := by decide +kernel
theorem dX6_rebuild_8 : decode cX6_rebuild 8 = .ok (.aload_n 1, 1) := by decide +kernel
theorem dX6_rebuild_9 : decode cX6_rebuild 9 = .ok (.invokevirtual 45, 3) := by decide +kernel
theorem dX6_rebuild_12 : decode cX6_rebuild 12 = .ok (.if_icmp .ge 17, 3) := by decide +kernel
theorem dX6_rebuild_15 : decode cX6_rebuild 15 = .ok (.aload_n 0, 1) := by decide +kernel
theorem dX6_rebuild_16 : decode cX6_rebuild 16 = .ok (.iload_n 2, 1) := by decide +kernel
theorem dX6_rebuild_17 : decode cX6_rebuild 17 = .ok (.iload_n 2, 1) := by decide +kernel
theorem dX6_rebuild_18 : decode cX6_rebuild 18 = .ok (.iconst 0, 1) := by decide +kernel
theorem dX6_rebuild_19 : decode cX6_rebuild 19 = .ok (.iconst (-1), 1) := by decide +kernel
theorem dX6_rebuild_20 : decode cX6_rebuild 20 = .ok (.invokevirtual 51, 3) := by decide +kernel
theorem dX6_rebuild_23 : decode cX6_rebuild 23 = .ok (.iinc 2 1, 3) := by decide +kernel
theorem dX6_rebuild_26 : decode cX6_rebuild 26 = .ok (.goto (-19), 3) := by decide +kernel
theorem dX6_rebuild_29 : decode cX6_rebuild 29 = .ok (.iconst 0, 1) := by decide +kernel
theorem dX6_rebuild_30 : decode cX6_rebuild 30 = .ok (.istore_n 2, 1) := by decide +kernel
theorem dX6_rebuild_31 : decode cX6_rebuild 31 = .ok (.iload_n 2, 1) := by decide +kernel
theorem dX6_rebuild_32 : decode cX6_rebuild 32 = .ok (.aload_n 1, 1) := by decide +kernel
theorem dX6_rebuild_33 : decode cX6_rebuild 33 = .ok (.invokevirtual 55, 3) := by decide +kernel
theorem dX6_rebuild_36 : decode cX6_rebuild 36 = .ok (.if_icmp .ge 24, 3) := by decide +kernel
theorem dX6_rebuild_39 : decode cX6_rebuild 39 = .ok (.aload_n 0, 1) := by decide +kernel
theorem dX6_rebuild_40 : decode cX6_rebuild 40 = .ok (.aload_n 1, 1) := by decide +kernel
theorem dX6_rebuild_41 : decode cX6_rebuild 41 = .ok (.iload_n 2, 1) := by decide +kernel
theorem dX6_rebuild_42 : decode cX6_rebuild 42 = .ok (.invokevirtual 58, 3) := by decide +kernel
theorem dX6_rebuild_45 : decode cX6_rebuild 45 = .ok (.iload_n 2, 1) := by decide +kernel
theorem dX6_rebuild_46 : decode cX6_rebuild 46 = .ok (.aload_n 1, 1) := by decide +kernel
theorem dX6_rebuild_47 : decode cX6_rebuild 47 = .ok (.iload_n 2, 1) := by decide +kernel
theorem dX6_rebuild_48 : decode cX6_rebuild 48 = .ok (.invokevirtual 62, 3) := by decide +kernel
theorem dX6_rebuild_51 : decode cX6_rebuild 51 = .ok (.invokevirtual 65, 3) := by decide +kernel
theorem dX6_rebuild_54 : decode cX6_rebuild 54 = .ok (.iinc 2 1, 3) := by decide +kernel
theorem dX6_rebuild_57 : decode cX6_rebuild 57 = .ok (.goto (-26), 3) := by decide +kernel
theorem dX6_rebuild_60 : decode cX6_rebuild 60 = .ok (.aload_n 1, 1) := by decide +kernel
theorem dX6_rebuild_61 : decode cX6_rebuild 61 = .ok (.invokevirtual 45, 3) := by decide +kernel
theorem dX6_rebuild_64 : decode cX6_rebuild 64 = .ok (.istore_n 2, 1) := by decide +kernel
theorem dX6_rebuild_65 : decode cX6_rebuild 65 = .ok (.iload_n 2, 1) := by decide +kernel
theorem dX6_rebuild_66 : decode cX6_rebuild 66 = .ok (.aload_n 0, 1) := by decide +kernel
theorem dX6_rebuild_67 : decode cX6_rebuild 67 = .ok (.getfield 9, 3) := by decide +kernel
theorem dX6_rebuild_70 : decode cX6_rebuild 70 = .ok (.if_icmp .ge 59, 3) := by decide +kernel
theorem dX6_rebuild_73 : decode cX6_rebuild 73 = .ok (.iload_n 2, 1) := by decide +kernel
theorem dX6_rebuild_74 : decode cX6_rebuild 74 = .ok (.sipush 300, 3) := by decide +kernel
theorem dX6_rebuild_77 : decode cX6_rebuild 77 = .ok (.if_icmp .ge 52, 3) := by decide +kernel
theorem dX6_rebuild_80 : decode cX6_rebuild 80 = .ok (.iconst 0, 1) := by decide +kernel
theorem dX6_rebuild_81 : decode cX6_rebuild 81 = .ok (.istore_n 3, 1) := by decide +kernel
theorem dX6_rebuild_82 : decode cX6_rebuild 82 = .ok (.iload_n 3, 1) := by decide +kernel
theorem dX6_rebuild_83 : decode cX6_rebuild 83 = .ok (.aload_n 1, 1) := by decide +kernel
theorem dX6_rebuild_84 : decode cX6_rebuild 84 = .ok (.invokevirtual 55, 3) := by decide +kernel
theorem dX6_rebuild_87 : decode cX6_rebuild 87 = .ok (.if_icmp .ge 36, 3) := by decide +kernel
theorem dX6_rebuild_90 : decode cX6_rebuild 90 = .ok (.aload_n 1, 1) := by decide +kernel
theorem dX6_rebuild_91 : decode cX6_rebuild 91 = .ok (.iload_n 3, 1) := by decide +kernel
theorem dX6_rebuild_92 : decode cX6_rebuild 92 = .ok (.invokevirtual 58, 3) := by decide +kernel
theorem dX6_rebuild_95 : decode cX6_rebuild 95 = .ok (.aload_n 0, 1) := by decide +kernel
theorem dX6_rebuild_96 : decode cX6_rebuild 96 = .ok (.getfield 24, 3) := by decide +kernel
theorem dX6_rebuild_99 : decode cX6_rebuild 99 = .ok (.iload_n 2, 1) := by decide +kernel
theorem dX6_rebuild_100 : decode cX6_rebuild 100 = .ok (.invokevirtual 69, 3) := by decide +kernel
theorem dX6_rebuild_103 : decode cX6_rebuild 103 = .ok (.if_icmp .ne 14, 3) := by decide +kernel
theorem dX6_rebuild_106 : decode cX6_rebuild 106 = .ok (.aload_n 0, 1) := by decide +kernel
theorem dX6_rebuild_107 : decode cX6_rebuild 107 = .ok (.iload_n 2, 1) := by decide +kernel
theorem dX6_rebuild_108 : decode cX6_rebuild 108 = .ok (.iload_n 3, 1) := by decide +kernel
theorem dX6_rebuild_109 : decode cX6_rebuild 109 = .ok (.aload_n 1, 1) := by decide +kernel
theorem dX6_rebuild_110 : decode cX6_rebuild 110 = .ok (.iload_n 3, 1) := by decide +kernel
theorem dX6_rebuild_111 : decode cX6_rebuild 111 = .ok (.invokevirtual 62, 3) := by decide +kernel
theorem dX6_rebuild_114 : decode cX6_rebuild 114 = .ok (.invokevirtual 65, 3) := by decide +kernel
theorem dX6_rebuild_117 : decode cX6_rebuild 117 = .ok (.iinc 3 1, 3) := by decide +kernel
theorem dX6_rebuild_120 : decode cX6_rebuild 120 = .ok (.goto (-38), 3) := by decide +kernel
theorem dX6_rebuild_123 : decode cX6_rebuild 123 = .ok (.iinc 2 1, 3) := by decide +kernel
theorem dX6_rebuild_126 : decode cX6_rebuild 126 = .ok (.goto (-61), 3) := by decide +kernel
theorem dX6_rebuild_129 : decode cX6_rebuild 129 = .ok (.return_, 1) := by decide +kernel
theorem dX6_enter_0 : decode cX6_enter 0 = .ok (.aload_n 0, 1) := by decide +kernel
theorem dX6_enter_1 : decode cX6_enter 1 = .ok (.getfield 20, 3) := by decide +kernel
theorem dX6_enter_4 : decode cX6_enter 4 = .ok (.aload_n 0, 1) := by decide +kernel
theorem dX6_enter_5 : decode cX6_enter 5 = .ok (.getfield 9, 3) := by decide +kernel
theorem dX6_enter_8 : decode cX6_enter 8 = .ok (.iload_n 1, 1) := by decide +kernel
theorem dX6_enter_9 : decode cX6_enter 9 = .ok (.invokevirtual 75, 3) := by decide +kernel
theorem dX6_enter_12 : decode cX6_enter 12 = .ok (.aload_n 0, 1) := by decide +kernel
theorem dX6_enter_13 : decode cX6_enter 13 = .ok (.getfield 24, 3) := by decide +kernel
theorem dX6_enter_16 : decode cX6_enter 16 = .ok (.aload_n 0, 1) := by decide +kernel
theorem dX6_enter_17 : decode cX6_enter 17 = .ok (.getfield 9, 3) := by decide +kernel
theorem dX6_enter_20 : decode cX6_enter 20 = .ok (.iload_n 2, 1) := by decide +kernel
theorem dX6_enter_21 : decode cX6_enter 21 = .ok (.invokevirtual 75, 3) := by decide +kernel
theorem dX6_enter_24 : decode cX6_enter 24 = .ok (.aload_n 0, 1) := by decide +kernel
theorem dX6_enter_25 : decode cX6_enter 25 = .ok (.getfield 27, 3) := by decide +kernel
theorem dX6_enter_28 : decode cX6_enter 28 = .ok (.aload_n 0, 1) := by decide +kernel
theorem dX6_enter_29 : decode cX6_enter 29 = .ok (.getfield 9, 3) := by decide +kernel
theorem dX6_enter_32 : decode cX6_enter 32 = .ok (.iload_n 3, 1) := by decide +kernel
theorem dX6_enter_33 : decode cX6_enter 33 = .ok (.invokevirtual 75, 3) := by decide +kernel
theorem dX6_enter_36 : decode cX6_enter 36 = .ok (.aload_n 0, 1) := by decide +kernel
theorem dX6_enter_37 : decode cX6_enter 37 = .ok (.getfield 39, 3) := by decide +kernel
theorem dX6_enter_40 : decode cX6_enter 40 = .ok (.aload_n 0, 1) := by decide +kernel
theorem dX6_enter_41 : decode cX6_enter 41 = .ok (.getfield 9, 3) := by decide +kernel
theorem dX6_enter_44 : decode cX6_enter 44 = .ok (.iload 4, 2) := by decide +kernel
theorem dX6_enter_46 : decode cX6_enter 46 = .ok (.invokevirtual 75, 3) := by decide +kernel
theorem dX6_enter_49 : decode cX6_enter 49 = .ok (.iconst 0, 1) := by decide +kernel
theorem dX6_enter_50 : decode cX6_enter 50 = .ok (.istore 5, 2) := by decide +kernel
theorem dX6_enter_52 : decode cX6_enter 52 = .ok (.iload 5, 2) := by decide +kernel
theorem dX6_enter_54 : decode cX6_enter 54 = .ok (.bipush 14, 2) := by decide +kernel
theorem dX6_enter_56 : decode cX6_enter 56 = .ok (.if_icmp .ge 23, 3) := by decide +kernel
theorem dX6_enter_59 : decode cX6_enter 59 = .ok (.aload_n 0, 1) := by decide +kernel
theorem dX6_enter_60 : decode cX6_enter 60 = .ok (.getfield 42, 3) := by decide +kernel
theorem dX6_enter_63 : decode cX6_enter 63 = .ok (.aload_n 0, 1) := by decide +kernel
theorem dX6_enter_64 : decode cX6_enter 64 = .ok (.getfield 9, 3) := by decide +kernel
theorem dX6_enter_67 : decode cX6_enter 67 = .ok (.iload 5, 2) := by decide +kernel
theorem dX6_enter_69 : decode cX6_enter 69 = .ok (.iconst (-1), 1) := by decide +kernel
theorem dX6_enter_70 : decode cX6_enter 70 = .ok (.invokevirtual 78, 3) := by decide +kernel
theorem dX6_enter_73 : decode cX6_enter 73 = .ok (.iinc 5 1, 3) := by decide +kernel
theorem dX6_enter_76 : decode cX6_enter 76 = .ok (.goto (-24), 3) := by decide +kernel
theorem dX6_enter_79 : decode cX6_enter 79 = .ok (.aload_n 0, 1) := by decide +kernel
theorem dX6_enter_80 : decode cX6_enter 80 = .ok (.dup, 1) := by decide +kernel
theorem dX6_enter_81 : decode cX6_enter 81 = .ok (.getfield 9, 3) := by decide +kernel
theorem dX6_enter_84 : decode cX6_enter 84 = .ok (.iconst 1, 1) := by decide +kernel
theorem dX6_enter_85 : decode cX6_enter 85 = .ok (.iadd, 1) := by decide +kernel
theorem dX6_enter_86 : decode cX6_enter 86 = .ok (.putfield 9, 3) := by decide +kernel
theorem dX6_enter_89 : decode cX6_enter 89 = .ok (.return_, 1) := by decide +kernel
theorem dX6_enterLonger_0 : decode cX6_enterLonger 0 = .ok (.aload_n 0, 1) := by decide +kernel
theorem dX6_enterLonger_1 : decode cX6_enterLonger 1 = .ok (.getfield 27, 3) := by decide +kernel
theorem dX6_enterLonger_4 : decode cX6_enterLonger 4 = .ok (.iload_n 1, 1) := by decide +kernel
theorem dX6_enterLonger_5 : decode cX6_enterLonger 5 = .ok (.invokevirtual 69, 3) := by decide +kernel
theorem dX6_enterLonger_8 : decode cX6_enterLonger 8 = .ok (.istore 4, 2) := by decide +kernel
theorem dX6_enterLonger_10 : decode cX6_enterLonger 10 = .ok (.iconst 0, 1) := by decide +kernel
theorem dX6_enterLonger_11 : decode cX6_enterLonger 11 = .ok (.istore 5, 2) := by decide +kernel
theorem dX6_enterLonger_13 : decode cX6_enterLonger 13 = .ok (.iload 5, 2) := by decide +kernel
theorem dX6_enterLonger_15 : decode cX6_enterLonger 15 = .ok (.iload 4, 2) := by decide +kernel
theorem dX6_enterLonger_17 : decode cX6_enterLonger 17 = .ok (.if_icmp .ge 32, 3) := by decide +kernel
theorem dX6_enterLonger_20 : decode cX6_enterLonger 20 = .ok (.aload_n 0, 1) := by decide +kernel
theorem dX6_enterLonger_21 : decode cX6_enterLonger 21 = .ok (.getfield 35, 3) := by decide +kernel
theorem dX6_enterLonger_24 : decode cX6_enterLonger 24 = .ok (.aload_n 0, 1) := by decide +kernel
theorem dX6_enterLonger_25 : decode cX6_enterLonger 25 = .ok (.getfield 9, 3) := by decide +kernel
theorem dX6_enterLonger_28 : decode cX6_enterLonger 28 = .ok (.iload 5, 2) := by decide +kernel
theorem dX6_enterLonger_30 : decode cX6_enterLonger 30 = .ok (.aload_n 0, 1) := by decide +kernel
theorem dX6_enterLonger_31 : decode cX6_enterLonger 31 = .ok (.getfield 35, 3) := by decide +kernel
theorem dX6_enterLonger_34 : decode cX6_enterLonger 34 = .ok (.iload_n 1, 1) := by decide +kernel
theorem dX6_enterLonger_35 : decode cX6_enterLonger 35 = .ok (.iload 5, 2) := by decide +kernel
theorem dX6_enterLonger_37 : decode cX6_enterLonger 37 = .ok (.invokevirtual 72, 3) := by decide +kernel
theorem dX6_enterLonger_40 : decode cX6_enterLonger 40 = .ok (.invokevirtual 78, 3) := by decide +kernel
theorem dX6_enterLonger_43 : decode cX6_enterLonger 43 = .ok (.iinc 5 1, 3) := by decide +kernel
theorem dX6_enterLonger_46 : decode cX6_enterLonger 46 = .ok (.goto (-33), 3) := by decide +kernel
theorem dX6_enterLonger_49 : decode cX6_enterLonger 49 = .ok (.aload_n 0, 1) := by decide +kernel
theorem dX6_enterLonger_50 : decode cX6_enterLonger 50 = .ok (.getfield 35, 3) := by decide +kernel
theorem dX6_enterLonger_53 : decode cX6_enterLonger 53 = .ok (.aload_n 0, 1) := by decide +kernel
theorem dX6_enterLonger_54 : decode cX6_enterLonger 54 = .ok (.getfield 9, 3) := by decide +kernel
theorem dX6_enterLonger_57 : decode cX6_enterLonger 57 = .ok (.iload 4, 2) := by decide +kernel
theorem dX6_enterLonger_59 : decode cX6_enterLonger 59 = .ok (.iload_n 2, 1) := by decide +kernel
theorem dX6_enterLonger_60 : decode cX6_enterLonger 60 = .ok (.invokevirtual 78, 3) := by decide +kernel
theorem dX6_enterLonger_63 : decode cX6_enterLonger 63 = .ok (.aload_n 0, 1) := by decide +kernel
theorem dX6_enterLonger_64 : decode cX6_enterLonger 64 = .ok (.getfield 42, 3) := by decide +kernel
theorem dX6_enterLonger_67 : decode cX6_enterLonger 67 = .ok (.iload_n 1, 1) := by decide +kernel
theorem dX6_enterLonger_68 : decode cX6_enterLonger 68 = .ok (.iload_n 2, 1) := by decide +kernel
theorem dX6_enterLonger_69 : decode cX6_enterLonger 69 = .ok (.aload_n 0, 1) := by decide +kernel
theorem dX6_enterLonger_70 : decode cX6_enterLonger 70 = .ok (.getfield 9, 3) := by decide +kernel
theorem dX6_enterLonger_73 : decode cX6_enterLonger 73 = .ok (.invokevirtual 78, 3) := by decide +kernel
theorem dX6_enterLonger_76 : decode cX6_enterLonger 76 = .ok (.aload_n 0, 1) := by decide +kernel
theorem dX6_enterLonger_77 : decode cX6_enterLonger 77 = .ok (.aload_n 0, 1) := by decide +kernel
theorem dX6_enterLonger_78 : decode cX6_enterLonger 78 = .ok (.getfield 20, 3) := by decide +kernel
theorem dX6_enterLonger_81 : decode cX6_enterLonger 81 = .ok (.iload_n 1, 1) := by decide +kernel
theorem dX6_enterLonger_82 : decode cX6_enterLonger 82 = .ok (.invokevirtual 69, 3) := by decide +kernel
theorem dX6_enterLonger_85 : decode cX6_enterLonger 85 = .ok (.iload_n 3, 1) := by decide +kernel
theorem dX6_enterLonger_86 : decode cX6_enterLonger 86 = .ok (.iload 4, 2) := by decide +kernel
theorem dX6_enterLonger_88 : decode cX6_enterLonger 88 = .ok (.iconst 1, 1) := by decide +kernel
theorem dX6_enterLonger_89 : decode cX6_enterLonger 89 = .ok (.iadd, 1) := by decide +kernel
theorem dX6_enterLonger_90 : decode cX6_enterLonger 90 = .ok (.iload_n 1, 1) := by decide +kernel
theorem dX6_enterLonger_91 : decode cX6_enterLonger 91 = .ok (.invokevirtual 51, 3) := by decide +kernel
theorem dX6_enterLonger_94 : decode cX6_enterLonger 94 = .ok (.return_, 1) := by decide +kernel
theorem dX7_init_0 : decode cX7_init 0 = .ok (.aload_n 0, 1) := by decide +kernel
theorem dX7_init_1 : decode cX7_init 1 = .ok (.invokespecial 3, 3) := by decide +kernel
theorem dX7_init_4 : decode cX7_init 4 = .ok (.aload_n 0, 1) := by decide +kernel
theorem dX7_init_5 : decode cX7_init 5 = .ok (.new 9, 3) := by decide +kernel
theorem dX7_init_8 : decode cX7_init 8 = .ok (.dup, 1) := by decide +kernel
theorem dX7_init_9 : decode cX7_init 9 = .ok (.invokespecial 11, 3) := by decide +kernel
theorem dX7_init_12 : decode cX7_init 12 = .ok (.putfield 12, 3) := by decide +kernel
theorem dX7_init_15 : decode cX7_init 15 = .ok (.aload_n 0, 1) := by decide +kernel
theorem dX7_init_16 : decode cX7_init 16 = .ok (.new 18, 3) := by decide +kernel
theorem dX7_init_19 : decode cX7_init 19 = .ok (.dup, 1) := by decide +kernel
theorem dX7_init_20 : decode cX7_init 20 = .ok (.invokespecial 20, 3) := by decide +kernel
theorem dX7_init_23 : decode cX7_init 23 = .ok (.putfield 21, 3) := by decide +kernel
theorem dX7_init_26 : decode cX7_init 26 = .ok (.aload_n 0, 1) := by decide +kernel
theorem dX7_init_27 : decode cX7_init 27 = .ok (.iconst 0, 1) := by decide +kernel
theorem dX7_init_28 : decode cX7_init 28 = .ok (.putfield 25, 3) := by decide +kernel
theorem dX7_init_31 : decode cX7_init 31 = .ok (.aload_n 0, 1) := by decide +kernel
theorem dX7_init_32 : decode cX7_init 32 = .ok (.iconst 0, 1) := by decide +kernel
theorem dX7_init_33 : decode cX7_init 33 = .ok (.putfield 29, 3) := by decide +kernel
theorem dX7_init_36 : decode cX7_init 36 = .ok (.aload_n 0, 1) := by decide +kernel
theorem dX7_init_37 : decode cX7_init 37 = .ok (.iconst 0, 1) := by decide +kernel
theorem dX7_init_38 : decode cX7_init 38 = .ok (.putfield 32, 3) := by decide +kernel
theorem dX7_init_41 : decode cX7_init 41 = .ok (.aload_n 0, 1) := by decide +kernel
theorem dX7_init_42 : decode cX7_init 42 = .ok (.iconst 0, 1) := by decide +kernel
theorem dX7_init_43 : decode cX7_init 43 = .ok (.putfield 35, 3) := by decide +kernel
theorem dX7_init_46 : decode cX7_init 46 = .ok (.return_, 1) := by decide +kernel
theorem dX8_init_0 : decode cX8_init 0 = .ok (.aload_n 0, 1) := by decide +kernel
theorem dX8_init_1 : decode cX8_init 1 = .ok (.invokespecial 3, 3) := by decide +kernel
theorem dX8_init_4 : decode cX8_init 4 = .ok (.aload_n 0, 1) := by decide +kernel
theorem dX8_init_5 : decode cX8_init 5 = .ok (.iload_n 1, 1) := by decide +kernel
theorem dX8_init_6 : decode cX8_init 6 = .ok (.ifCond .le 7, 3) := by decide +kernel
theorem dX8_init_9 : decode cX8_init 9 = .ok (.iload_n 1, 1) := by decide +kernel
theorem dX8_init_10 : decode cX8_init 10 = .ok (.goto 4, 3) := by decide +kernel
theorem dX8_init_14 : decode cX8_init 14 = .ok (.newarray .int, 2) := by decide +kernel
theorem dX8_init_16 : decode cX8_init 16 = .ok (.putfield 9, 3) := by decide +kernel
theorem dX8_init_19 : decode cX8_init 19 = .ok (.return_, 1) := by decide +kernel
theorem dX8_get_0 : decode cX8_get 0 = .ok (.iload_n 1, 1) := by decide +kernel
theorem dX8_get_1 : decode cX8_get 1 = .ok (.ifCond .lt 21, 3) := by decide +kernel
theorem dX8_get_4 : decode cX8_get 4 = .ok (.iload_n 1, 1) := by decide +kernel
theorem dX8_get_5 : decode cX8_get 5 = .ok (.aload_n 0, 1) := by decide +kernel
theorem dX8_get_6 : decode cX8_get 6 = .ok (.getfield 9, 3) := by decide +kernel
theorem dX8_get_9 : decode cX8_get 9 = .ok (.arraylength, 1) := by decide +kernel
theorem dX8_get_10 : decode cX8_get 10 = .ok (.if_icmp .ge 12, 3) := by decide +kernel
theorem dX8_get_13 : decode cX8_get 13 = .ok (.aload_n 0, 1) := by decide +kernel
theorem dX8_get_14 : decode cX8_get 14 = .ok (.getfield 9, 3) := by decide +kernel
theorem dX8_get_17 : decode cX8_get 17 = .ok (.iload_n 1, 1) := by decide +kernel
theorem dX8_get_18 : decode cX8_get 18 = .ok (.iaload, 1) := by decide +kernel
theorem dX8_get_19 : decode cX8_get 19 = .ok (.goto 4, 3) := by decide +kernel
theorem dX8_get_22 : decode cX8_get 22 = .ok (.iconst (-1), 1) := by decide +kernel
theorem dX8_get_23 : decode cX8_get 23 = .ok (.ireturn, 1) := by decide +kernel
theorem dX8_set_0 : decode cX8_set 0 = .ok (.iload_n 1, 1) := by decide +kernel
theorem dX8_set_1 : decode cX8_set 1 = .ok (.ifCond .lt 19, 3) := by decide +kernel
theorem dX8_set_4 : decode cX8_set 4 = .ok (.iload_n 1, 1) := by decide +kernel
theorem dX8_set_5 : decode cX8_set 5 = .ok (.aload_n 0, 1) := by decide +kernel
theorem dX8_set_6 : decode cX8_set 6 = .ok (.getfield 9, 3) := by decide +kernel
theorem dX8_set_9 : decode cX8_set 9 = .ok (.arraylength, 1) := by decide +kernel
theorem dX8_set_10 : decode cX8_set 10 = .ok (.if_icmp .ge 10, 3) := by decide +kernel
theorem dX8_set_13 : decode cX8_set 13 = .ok (.aload_n 0, 1) := by decide +kernel
theorem dX8_set_14 : decode cX8_set 14 = .ok (.getfield 9, 3) := by decide +kernel
theorem dX8_set_17 : decode cX8_set 17 = .ok (.iload_n 1, 1) := by decide +kernel
theorem dX8_set_18 : decode cX8_set 18 = .ok (.iload_n 2, 1) := by decide +kernel
theorem dX8_set_19 : decode cX8_set 19 = .ok (.iastore, 1) := by decide +kernel
theorem dX8_set_20 : decode cX8_set 20 = .ok (.return_, 1) := by decide +kernel
theorem dX8_fill_0 : decode cX8_fill 0 = .ok (.iconst 0, 1) := by decide +kernel
theorem dX8_fill_1 : decode cX8_fill 1 = .ok (.istore_n 2, 1) := by decide +kernel
theorem dX8_fill_2 : decode cX8_fill 2 = .ok (.iload_n 2, 1) := by decide +kernel
theorem dX8_fill_3 : decode cX8_fill 3 = .ok (.aload_n 0, 1) := by decide +kernel
theorem dX8_fill_4 : decode cX8_fill 4 = .ok (.getfield 9, 3) := by decide +kernel
theorem dX8_fill_7 : decode cX8_fill 7 = .ok (.arraylength, 1) := by decide +kernel
theorem dX8_fill_8 : decode cX8_fill 8 = .ok (.if_icmp .ge 16, 3) := by decide +kernel
theorem dX8_fill_11 : decode cX8_fill 11 = .ok (.aload_n 0, 1) := by decide +kernel
theorem dX8_fill_12 : decode cX8_fill 12 = .ok (.getfield 9, 3) := by decide +kernel
theorem dX8_fill_15 : decode cX8_fill 15 = .ok (.iload_n 2, 1) := by decide +kernel
theorem dX8_fill_16 : decode cX8_fill 16 = .ok (.iload_n 1, 1) := by decide +kernel
theorem dX8_fill_17 : decode cX8_fill 17 = .ok (.iastore, 1) := by decide +kernel
theorem dX8_fill_18 : decode cX8_fill 18 = .ok (.iinc 2 1, 3) := by decide +kernel
theorem dX8_fill_21 : decode cX8_fill 21 = .ok (.goto (-19), 3) := by decide +kernel
theorem dX8_fill_24 : decode cX8_fill 24 = .ok (.return_, 1) := by decide +kernel
theorem dX9_init_0 : decode cX9_init 0 = .ok (.aload_n 0, 1) := by decide +kernel
theorem dX9_init_1 : decode cX9_init 1 = .ok (.invokespecial 3, 3) := by decide +kernel
theorem dX9_init_4 : decode cX9_init 4 = .ok (.aload_n 0, 1) := by decide +kernel
theorem dX9_init_5 : decode cX9_init 5 = .ok (.new 9, 3) := by decide +kernel
theorem dX9_init_8 : decode cX9_init 8 = .ok (.dup, 1) := by decide +kernel
theorem dX9_init_9 : decode cX9_init 9 = .ok (.invokespecial 11, 3) := by decide +kernel
theorem dX9_init_12 : decode cX9_init 12 = .ok (.putfield 12, 3) := by decide +kernel
theorem dX9_init_15 : decode cX9_init 15 = .ok (.aload_n 0, 1) := by decide +kernel
theorem dX9_init_16 : decode cX9_init 16 = .ok (.new 16, 3) := by decide +kernel
theorem dX9_init_19 : decode cX9_init 19 = .ok (.dup, 1) := by decide +kernel
theorem dX9_init_20 : decode cX9_init 20 = .ok (.invokespecial 18, 3) := by decide +kernel
theorem dX9_init_23 : decode cX9_init 23 = .ok (.putfield 19, 3) := by decide +kernel
theorem dX9_init_26 : decode cX9_init 26 = .ok (.aload_n 0, 1) := by decide +kernel
theorem dX9_init_27 : decode cX9_init 27 = .ok (.new 23, 3) := by decide +kernel
theorem dX9_init_30 : decode cX9_init 30 = .ok (.dup, 1) := by decide +kernel
theorem dX9_init_31 : decode cX9_init 31 = .ok (.invokespecial 25, 3) := by decide +kernel
theorem dX9_init_34 : decode cX9_init 34 = .ok (.putfield 26, 3) := by decide +kernel
theorem dX9_init_37 : decode cX9_init 37 = .ok (.aload_n 0, 1) := by decide +kernel
theorem dX9_init_38 : decode cX9_init 38 = .ok (.new 30, 3) := by decide +kernel
theorem dX9_init_41 : decode cX9_init 41 = .ok (.dup, 1) := by decide +kernel
theorem dX9_init_42 : decode cX9_init 42 = .ok (.invokespecial 32, 3) := by decide +kernel
theorem dX9_init_45 : decode cX9_init 45 = .ok (.putfield 33, 3) := by decide +kernel
theorem dX9_init_48 : decode cX9_init 48 = .ok (.aload_n 0, 1) := by decide +kernel
theorem dX9_init_49 : decode cX9_init 49 = .ok (.new 37, 3) := by decide +kernel
theorem dX9_init_52 : decode cX9_init 52 = .ok (.dup, 1) := by decide +kernel
theorem dX9_init_53 : decode cX9_init 53 = .ok (.invokespecial 39, 3) := by decide +kernel
theorem dX9_init_56 : decode cX9_init 56 = .ok (.putfield 40, 3) := by decide +kernel
theorem dX9_init_59 : decode cX9_init 59 = .ok (.aload_n 0, 1) := by decide +kernel
theorem dX9_init_60 : decode cX9_init 60 = .ok (.new 37, 3) := by decide +kernel
theorem dX9_init_63 : decode cX9_init 63 = .ok (.dup, 1) := by decide +kernel
theorem dX9_init_64 : decode cX9_init 64 = .ok (.invokespecial 39, 3) := by decide +kernel
theorem dX9_init_67 : decode cX9_init 67 = .ok (.putfield 44, 3) := by decide +kernel
theorem dX9_init_70 : decode cX9_init 70 = .ok (.aload_n 0, 1) := by decide +kernel
theorem dX9_init_71 : decode cX9_init 71 = .ok (.new 47, 3) := by decide +kernel
theorem dX9_init_74 : decode cX9_init 74 = .ok (.dup, 1) := by decide +kernel
theorem dX9_init_75 : decode cX9_init 75 = .ok (.invokespecial 49, 3) := by decide +kernel
theorem dX9_init_78 : decode cX9_init 78 = .ok (.putfield 50, 3) := by decide +kernel
theorem dX9_init_81 : decode cX9_init 81 = .ok (.aload_n 0, 1) := by decide +kernel
theorem dX9_init_82 : decode cX9_init 82 = .ok (.new 54, 3) := by decide +kernel
theorem dX9_init_85 : decode cX9_init 85 = .ok (.dup, 1) := by decide +kernel
theorem dX9_init_86 : decode cX9_init 86 = .ok (.invokespecial 56, 3) := by decide +kernel
theorem dX9_init_89 : decode cX9_init 89 = .ok (.putfield 57, 3) := by decide +kernel
theorem dX9_init_92 : decode cX9_init 92 = .ok (.aload_n 0, 1) := by decide +kernel
theorem dX9_init_93 : decode cX9_init 93 = .ok (.getfield 12, 3) := by decide +kernel
theorem dX9_init_96 : decode cX9_init 96 = .ok (.iconst 2, 1) := by decide +kernel
theorem dX9_init_97 : decode cX9_init 97 = .ok (.invokevirtual 61, 3) := by decide +kernel
theorem dX9_init_100 : decode cX9_init 100 = .ok (.aload_n 0, 1) := by decide +kernel
theorem dX9_init_101 : decode cX9_init 101 = .ok (.getfield 40, 3) := by decide +kernel
theorem dX9_init_104 : decode cX9_init 104 = .ok (.invokevirtual 65, 3) := by decide +kernel
theorem dX9_init_107 : decode cX9_init 107 = .ok (.aload_n 0, 1) := by decide +kernel
theorem dX9_init_108 : decode cX9_init 108 = .ok (.invokevirtual 67, 3) := by decide +kernel
theorem dX9_init_111 : decode cX9_init 111 = .ok (.return_, 1) := by decide +kernel
theorem dX9_graphChanged_0 : decode cX9_graphChanged 0 = .ok (.aload_n 0, 1) := by decide +kernel
theorem dX9_graphChanged_1 : decode cX9_graphChanged 1 = .ok (.getfield 26, 3) := by decide +kernel
theorem dX9_graphChanged_4 : decode cX9_graphChanged 4 = .ok (.aload_n 0, 1) := by decide +kernel
theorem dX9_graphChanged_5 : decode cX9_graphChanged 5 = .ok (.getfield 12, 3) := by decide +kernel
theorem dX9_graphChanged_8 : decode cX9_graphChanged 8 = .ok (.invokevirtual 384, 3) := by decide +kernel
theorem dX9_graphChanged_11 : decode cX9_graphChanged 11 = .ok (.aload_n 0, 1) := by decide +kernel
theorem dX9_graphChanged_12 : decode cX9_graphChanged 12 = .ok (.invokevirtual 143, 3) := by decide +kernel
theorem dX9_graphChanged_15 : decode cX9_graphChanged 15 = .ok (.return_, 1) := by decide +kernel
theorem dX9_cellsChanged_0 : decode cX9_cellsChanged 0 = .ok (.aload_n 0, 1) := by decide +kernel
theorem dX9_cellsChanged_1 : decode cX9_cellsChanged 1 = .ok (.getfield 19, 3) := by decide +kernel
theorem dX9_cellsChanged_4 : decode cX9_cellsChanged 4 = .ok (.aload_n 0, 1) := by decide +kernel
theorem dX9_cellsChanged_5 : decode cX9_cellsChanged 5 = .ok (.getfield 26, 3) := by decide +kernel
theorem dX9_cellsChanged_8 : decode cX9_cellsChanged 8 = .ok (.invokevirtual 387, 3) := by decide +kernel
theorem dX9_cellsChanged_11 : decode cX9_cellsChanged 11 = .ok (.aload_n 0, 1) := by decide +kernel
theorem dX9_cellsChanged_12 : decode cX9_cellsChanged 12 = .ok (.getfield 33, 3) := by decide +kernel
theorem dX9_cellsChanged_15 : decode cX9_cellsChanged 15 = .ok (.invokevirtual 391, 3) := by decide +kernel
theorem dX9_cellsChanged_18 : decode cX9_cellsChanged 18 = .ok (.return_, 1) := by decide +kernel
theorem dX10_init_0 : decode cX10_init 0 = .ok (.aload_n 0, 1) := by decide +kernel
theorem dX10_init_1 : decode cX10_init 1 = .ok (.invokespecial 1, 3) := by decide +kernel
theorem dX10_init_4 : decode cX10_init 4 = .ok (.aload_n 0, 1) := by decide +kernel
theorem dX10_init_5 : decode cX10_init 5 = .ok (.iconst 2, 1) := by decide +kernel
theorem dX10_init_6 : decode cX10_init 6 = .ok (.putfield 7, 3) := by decide +kernel
theorem dX10_init_9 : decode cX10_init 9 = .ok (.aload_n 0, 1) := by decide +kernel
theorem dX10_init_10 : decode cX10_init 10 = .ok (.bipush 14, 2) := by decide +kernel
theorem dX10_init_12 : decode cX10_init 12 = .ok (.newarray .int, 2) := by decide +kernel
theorem dX10_init_14 : decode cX10_init 14 = .ok (.putfield 13, 3) := by decide +kernel
theorem dX10_init_17 : decode cX10_init 17 = .ok (.aload_n 0, 1) := by decide +kernel
theorem dX10_init_18 : decode cX10_init 18 = .ok (.bipush 14, 2) := by decide +kernel
theorem dX10_init_20 : decode cX10_init 20 = .ok (.newarray .int, 2) := by decide +kernel
theorem dX10_init_22 : decode cX10_init 22 = .ok (.putfield 17, 3) := by decide +kernel
theorem dX10_init_25 : decode cX10_init 25 = .ok (.aload_n 0, 1) := by decide +kernel
theorem dX10_init_26 : decode cX10_init 26 = .ok (.bipush 14, 2) := by decide +kernel
theorem dX10_init_28 : decode cX10_init 28 = .ok (.newarray .int, 2) := by decide +kernel
theorem dX10_init_30 : decode cX10_init 30 = .ok (.putfield 20, 3) := by decide +kernel
theorem dX10_init_33 : decode cX10_init 33 = .ok (.aload_n 0, 1) := by decide +kernel
theorem dX10_init_34 : decode cX10_init 34 = .ok (.bipush 8, 2) := by decide +kernel
theorem dX10_init_36 : decode cX10_init 36 = .ok (.newarray .int, 2) := by decide +kernel
theorem dX10_init_38 : decode cX10_init 38 = .ok (.putfield 23, 3) := by decide +kernel
theorem dX10_init_41 : decode cX10_init 41 = .ok (.aload_n 0, 1) := by decide +kernel
theorem dX10_init_42 : decode cX10_init 42 = .ok (.bipush 11, 2) := by decide +kernel
theorem dX10_init_44 : decode cX10_init 44 = .ok (.newarray .int, 2) := by decide +kernel
theorem dX10_init_46 : decode cX10_init 46 = .ok (.putfield 26, 3) := by decide +kernel
theorem dX10_init_49 : decode cX10_init 49 = .ok (.aload_n 0, 1) := by decide +kernel
theorem dX10_init_50 : decode cX10_init 50 = .ok (.bipush 22, 2) := by decide +kernel
theorem dX10_init_52 : decode cX10_init 52 = .ok (.newarray .int, 2) := by decide +kernel
theorem dX10_init_54 : decode cX10_init 54 = .ok (.putfield 29, 3) := by decide +kernel
theorem dX10_init_57 : decode cX10_init 57 = .ok (.aload_n 0, 1) := by decide +kernel
theorem dX10_init_58 : decode cX10_init 58 = .ok (.sipush 154, 3) := by decide +kernel
theorem dX10_init_61 : decode cX10_init 61 = .ok (.newarray .int, 2) := by decide +kernel
theorem dX10_init_63 : decode cX10_init 63 = .ok (.putfield 32, 3) := by decide +kernel
theorem dX10_init_66 : decode cX10_init 66 = .ok (.aload_n 0, 1) := by decide +kernel
theorem dX10_init_67 : decode cX10_init 67 = .ok (.bipush 60, 2) := by decide +kernel
theorem dX10_init_69 : decode cX10_init 69 = .ok (.newarray .int, 2) := by decide +kernel
theorem dX10_init_71 : decode cX10_init 71 = .ok (.putfield 35, 3) := by decide +kernel
theorem dX10_init_74 : decode cX10_init 74 = .ok (.aload_n 0, 1) := by decide +kernel
theorem dX10_init_75 : decode cX10_init 75 = .ok (.sipush 301, 3) := by decide +kernel
theorem dX10_init_78 : decode cX10_init 78 = .ok (.newarray .int, 2) := by decide +kernel
theorem dX10_init_80 : decode cX10_init 80 = .ok (.putfield 38, 3) := by decide +kernel
theorem dX10_init_83 : decode cX10_init 83 = .ok (.aload_n 0, 1) := by decide +kernel
theorem dX10_init_84 : decode cX10_init 84 = .ok (.sipush 301, 3) := by decide +kernel
theorem dX10_init_87 : decode cX10_init 87 = .ok (.newarray .int, 2) := by decide +kernel
theorem dX10_init_89 : decode cX10_init 89 = .ok (.putfield 41, 3) := by decide +kernel
theorem dX10_init_92 : decode cX10_init 92 = .ok (.aload_n 0, 1) := by decide +kernel
theorem dX10_init_93 : decode cX10_init 93 = .ok (.sipush 301, 3) := by decide +kernel
theorem dX10_init_96 : decode cX10_init 96 = .ok (.newarray .int, 2) := by decide +kernel
theorem dX10_init_98 : decode cX10_init 98 = .ok (.putfield 44, 3) := by decide +kernel
theorem dX10_init_101 : decode cX10_init 101 = .ok (.aload_n 0, 1) := by decide +kernel
theorem dX10_init_102 : decode cX10_init 102 = .ok (.sipush 2107, 3) := by decide +kernel
theorem dX10_init_105 : decode cX10_init 105 = .ok (.newarray .int, 2) := by decide +kernel
theorem dX10_init_107 : decode cX10_init 107 = .ok (.putfield 47, 3) := by decide +kernel
theorem dX10_init_110 : decode cX10_init 110 = .ok (.aload_n 0, 1) := by decide +kernel
theorem dX10_init_111 : decode cX10_init 111 = .ok (.sipush 4214, 3) := by decide +kernel
theorem dX10_init_114 : decode cX10_init 114 = .ok (.newarray .int, 2) := by decide +kernel
theorem dX10_init_116 : decode cX10_init 116 = .ok (.putfield 50, 3) := by decide +kernel
theorem dX10_init_119 : decode cX10_init 119 = .ok (.aload_n 0, 1) := by decide +kernel
theorem dX10_init_120 : decode cX10_init 120 = .ok (.sipush 301, 3) := by decide +kernel
theorem dX10_init_123 : decode cX10_init 123 = .ok (.newarray .int, 2) := by decide +kernel
theorem dX10_init_125 : decode cX10_init 125 = .ok (.putfield 53, 3) := by decide +kernel
theorem dX10_init_128 : decode cX10_init 128 = .ok (.aload_n 0, 1) := by decide +kernel
theorem dX10_init_129 : decode cX10_init 129 = .ok (.sipush 301, 3) := by decide +kernel
theorem dX10_init_132 : decode cX10_init 132 = .ok (.newarray .int, 2) := by decide +kernel
theorem dX10_init_134 : decode cX10_init 134 = .ok (.putfield 56, 3) := by decide +kernel
theorem dX10_init_137 : decode cX10_init 137 = .ok (.aload_n 0, 1) := by decide +kernel
theorem dX10_init_138 : decode cX10_init 138 = .ok (.sipush 301, 3) := by decide +kernel
theorem dX10_init_141 : decode cX10_init 141 = .ok (.newarray .int, 2) := by decide +kernel
theorem dX10_init_143 : decode cX10_init 143 = .ok (.putfield 59, 3) := by decide +kernel
theorem dX10_init_146 : decode cX10_init 146 = .ok (.aload_n 0, 1) := by decide +kernel
theorem dX10_init_147 : decode cX10_init 147 = .ok (.bipush 14, 2) := by decide +kernel
theorem dX10_init_149 : decode cX10_init 149 = .ok (.newarray .int, 2) := by decide +kernel
theorem dX10_init_151 : decode cX10_init 151 = .ok (.putfield 62, 3) := by decide +kernel
theorem dX10_init_154 : decode cX10_init 154 = .ok (.aload_n 0, 1) := by decide +kernel
theorem dX10_init_155 : decode cX10_init 155 = .ok (.bipush 8, 2) := by decide +kernel
theorem dX10_init_157 : decode cX10_init 157 = .ok (.newarray .int, 2) := by decide +kernel
theorem dX10_init_159 : decode cX10_init 159 = .ok (.putfield 65, 3) := by decide +kernel
theorem dX10_init_162 : decode cX10_init 162 = .ok (.aload_n 0, 1) := by decide +kernel
theorem dX10_init_163 : decode cX10_init 163 = .ok (.iconst 2, 1) := by decide +kernel
theorem dX10_init_164 : decode cX10_init 164 = .ok (.invokevirtual 68, 3) := by decide +kernel
theorem dX10_init_167 : decode cX10_init 167 = .ok (.return_, 1) := by decide +kernel
theorem dX10_fresh_0 : decode cX10_fresh 0 = .ok (.aload_n 0, 1) := by decide +kernel
theorem dX10_fresh_1 : decode cX10_fresh 1 = .ok (.iload_n 1, 1) := by decide +kernel
theorem dX10_fresh_2 : decode cX10_fresh 2 = .ok (.putfield 7, 3) := by decide +kernel
theorem dX10_fresh_5 : decode cX10_fresh 5 = .ok (.aload_n 0, 1) := by decide +kernel
theorem dX10_fresh_6 : decode cX10_fresh 6 = .ok (.iconst 0, 1) := by decide +kernel
theorem dX10_fresh_7 : decode cX10_fresh 7 = .ok (.putfield 79, 3) := by decide +kernel
theorem dX10_fresh_10 : decode cX10_fresh 10 = .ok (.aload_n 0, 1) := by decide +kernel
theorem dX10_fresh_11 : decode cX10_fresh 11 = .ok (.iconst 0, 1) := by decide +kernel
theorem dX10_fresh_12 : decode cX10_fresh 12 = .ok (.putfield 82, 3) := by decide +kernel
theorem dX10_fresh_15 : decode cX10_fresh 15 = .ok (.iconst 0, 1) := by decide +kernel
theorem dX10_fresh_16 : decode cX10_fresh 16 = .ok (.istore_n 2, 1) := by decide +kernel
theorem dX10_fresh_17 : decode cX10_fresh 17 = .ok (.iload_n 2, 1) := by decide +kernel
theorem dX10_fresh_18 : decode cX10_fresh 18 = .ok (.bipush 8, 2) := by decide +kernel
theorem dX10_fresh_20 : decode cX10_fresh 20 = .ok (.if_icmp .ge 16, 3) := by decide +kernel
theorem dX10_fresh_23 : decode cX10_fresh 23 = .ok (.aload_n 0, 1) := by decide +kernel
theorem dX10_fresh_24 : decode cX10_fresh 24 = .ok (.getfield 23, 3) := by decide +kernel
theorem dX10_fresh_27 : decode cX10_fresh 27 = .ok (.iload_n 2, 1) := by decide +kernel
theorem dX10_fresh_28 : decode cX10_fresh 28 = .ok (.iconst 2, 1) := by decide +kernel
theorem dX10_fresh_29 : decode cX10_fresh 29 = .ok (.iastore, 1) := by decide +kernel
theorem dX10_fresh_30 : decode cX10_fresh 30 = .ok (.iinc 2 1, 3) := by decide +kernel
theorem dX10_fresh_33 : decode cX10_fresh 33 = .ok (.goto (-16), 3) := by decide +kernel
theorem dX10_fresh_36 : decode cX10_fresh 36 = .ok (.aload_n 0, 1) := by decide +kernel
theorem dX10_fresh_37 : decode cX10_fresh 37 = .ok (.invokevirtual 85, 3) := by decide +kernel
theorem dX10_fresh_40 : decode cX10_fresh 40 = .ok (.pop, 1) := by decide +kernel
theorem dX10_fresh_41 : decode cX10_fresh 41 = .ok (.return_, 1) := by decide +kernel
theorem dX10_putPath_0 : decode cX10_putPath 0 = .ok (.aload_n 0, 1) := by decide +kernel
theorem dX10_putPath_1 : decode cX10_putPath 1 = .ok (.getfield 38, 3) := by decide +kernel
theorem dX10_putPath_4 : decode cX10_putPath 4 = .ok (.aload_n 0, 1) := by decide +kernel
theorem dX10_putPath_5 : decode cX10_putPath 5 = .ok (.getfield 89, 3) := by decide +kernel
theorem dX10_putPath_8 : decode cX10_putPath 8 = .ok (.iload_n 1, 1) := by decide +kernel
theorem dX10_putPath_9 : decode cX10_putPath 9 = .ok (.iastore, 1) := by decide +kernel
theorem dX10_putPath_10 : decode cX10_putPath 10 = .ok (.aload_n 0, 1) := by decide +kernel
theorem dX10_putPath_11 : decode cX10_putPath 11 = .ok (.getfield 41, 3) := by decide +kernel
theorem dX10_putPath_14 : decode cX10_putPath 14 = .ok (.aload_n 0, 1) := by decide +kernel
theorem dX10_putPath_15 : decode cX10_putPath 15 = .ok (.getfield 89, 3) := by decide +kernel
theorem dX10_putPath_18 : decode cX10_putPath 18 = .ok (.iload_n 2, 1) := by decide +kernel
theorem dX10_putPath_19 : decode cX10_putPath 19 = .ok (.iastore, 1) := by decide +kernel
theorem dX10_putPath_20 : decode cX10_putPath 20 = .ok (.aload_n 0, 1) := by decide +kernel
theorem dX10_putPath_21 : decode cX10_putPath 21 = .ok (.getfield 44, 3) := by decide +kernel
theorem dX10_putPath_24 : decode cX10_putPath 24 = .ok (.aload_n 0, 1) := by decide +kernel
theorem dX10_putPath_25 : decode cX10_putPath 25 = .ok (.getfield 89, 3) := by decide +kernel
theorem dX10_putPath_28 : decode cX10_putPath 28 = .ok (.iload_n 3, 1) := by decide +kernel
theorem dX10_putPath_29 : decode cX10_putPath 29 = .ok (.iastore, 1) := by decide +kernel
theorem dX10_putPath_30 : decode cX10_putPath 30 = .ok (.iconst 0, 1) := by decide +kernel
theorem dX10_putPath_31 : decode cX10_putPath 31 = .ok (.istore 4, 2) := by decide +kernel
theorem dX10_putPath_33 : decode cX10_putPath 33 = .ok (.iload 4, 2) := by decide +kernel
theorem dX10_putPath_35 : decode cX10_putPath 35 = .ok (.bipush 14, 2) := by decide +kernel
theorem dX10_putPath_37 : decode cX10_putPath 37 = .ok (.if_icmp .ge 25, 3) := by decide +kernel
theorem dX10_putPath_40 : decode cX10_putPath 40 = .ok (.aload_n 0, 1) := by decide +kernel
theorem dX10_putPath_41 : decode cX10_putPath 41 = .ok (.getfield 50, 3) := by decide +kernel
theorem dX10_putPath_44 : decode cX10_putPath 44 = .ok (.bipush 14, 2) := by decide +kernel
theorem dX10_putPath_46 : decode cX10_putPath 46 = .ok (.aload_n 0, 1) := by decide +kernel
theorem dX10_putPath_47 : decode cX10_putPath 47 = .ok (.getfield 89, 3) := by decide +kernel
theorem dX10_putPath_50 : decode cX10_putPath 50 = .ok (.imul, 1) := by decide +kernel
theorem dX10_putPath_51 : decode cX10_putPath 51 = .ok (.iload 4, 2) := by decide +kernel
theorem dX10_putPath_53 : decode cX10_putPath 53 = .ok (.iadd, 1) := by decide +kernel
theorem dX10_putPath_54 : decode cX10_putPath 54 = .ok (.iconst (-1), 1) := by decide +kernel
theorem dX10_putPath_55 : decode cX10_putPath 55 = .ok (.iastore, 1) := by decide +kernel
theorem dX10_putPath_56 : decode cX10_putPath 56 = .ok (.iinc 4 1, 3) := by decide +kernel
theorem dX10_putPath_59 : decode cX10_putPath 59 = .ok (.goto (-26), 3) := by decide +kernel
theorem dX10_putPath_62 : decode cX10_putPath 62 = .ok (.aload_n 0, 1) := by decide +kernel
theorem dX10_putPath_63 : decode cX10_putPath 63 = .ok (.dup, 1) := by decide +kernel
theorem dX10_putPath_64 : decode cX10_putPath 64 = .ok (.getfield 89, 3) := by decide +kernel
theorem dX10_putPath_67 : decode cX10_putPath 67 = .ok (.iconst 1, 1) := by decide +kernel
theorem dX10_putPath_68 : decode cX10_putPath 68 = .ok (.iadd, 1) := by decide +kernel
theorem dX10_putPath_69 : decode cX10_putPath 69 = .ok (.putfield 89, 3) := by decide +kernel
theorem dX10_putPath_72 : decode cX10_putPath 72 = .ok (.return_, 1) := by decide +kernel
theorem dX10_goOn_0 : decode cX10_goOn 0 = .ok (.aload_n 0, 1) := by decide +kernel
theorem dX10_goOn_1 : decode cX10_goOn 1 = .ok (.getfield 89, 3) := by decide +kernel
theorem dX10_goOn_4 : decode cX10_goOn 4 = .ok (.istore_n 3, 1) := by decide +kernel
theorem dX10_goOn_5 : decode cX10_goOn 5 = .ok (.aload_n 0, 1) := by decide +kernel
theorem dX10_goOn_6 : decode cX10_goOn 6 = .ok (.aload_n 0, 1) := by decide +kernel
theorem dX10_goOn_7 : decode cX10_goOn 7 = .ok (.getfield 38, 3) := by decide +kernel
theorem dX10_goOn_10 : decode cX10_goOn 10 = .ok (.iload_n 1, 1) := by decide +kernel
theorem dX10_goOn_11 : decode cX10_goOn 11 = .ok (.iaload, 1) := by decide +kernel
theorem dX10_goOn_12 : decode cX10_goOn 12 = .ok (.aload_n 0, 1) := by decide +kernel
theorem dX10_goOn_13 : decode cX10_goOn 13 = .ok (.getfield 17, 3) := by decide +kernel
theorem dX10_goOn_16 : decode cX10_goOn 16 = .ok (.iload_n 2, 1) := by decide +kernel
theorem dX10_goOn_17 : decode cX10_goOn 17 = .ok (.iaload, 1) := by decide +kernel
theorem dX10_goOn_18 : decode cX10_goOn 18 = .ok (.aload_n 0, 1) := by decide +kernel
theorem dX10_goOn_19 : decode cX10_goOn 19 = .ok (.getfield 44, 3) := by decide +kernel
theorem dX10_goOn_22 : decode cX10_goOn 22 = .ok (.iload_n 1, 1) := by decide +kernel
theorem dX10_goOn_23 : decode cX10_goOn 23 = .ok (.iaload, 1) := by decide +kernel
theorem dX10_goOn_24 : decode cX10_goOn 24 = .ok (.iconst 1, 1) := by decide +kernel
theorem dX10_goOn_25 : decode cX10_goOn 25 = .ok (.iadd, 1) := by decide +kernel
theorem dX10_goOn_26 : decode cX10_goOn 26 = .ok (.invokevirtual 92, 3) := by decide +kernel
theorem dX10_goOn_29 : decode cX10_goOn 29 = .ok (.iconst 0, 1) := by decide +kernel
theorem dX10_goOn_30 : decode cX10_goOn 30 = .ok (.istore 4, 2) := by decide +kernel
theorem dX10_goOn_32 : decode cX10_goOn 32 = .ok (.iload 4, 2) := by decide +kernel
theorem dX10_goOn_34 : decode cX10_goOn 34 = .ok (.aload_n 0, 1) := by decide +kernel
theorem dX10_goOn_35 : decode cX10_goOn 35 = .ok (.getfield 44, 3) := by decide +kernel
theorem dX10_goOn_38 : decode cX10_goOn 38 = .ok (.iload_n 1, 1) := by decide +kernel
theorem dX10_goOn_39 : decode cX10_goOn 39 = .ok (.iaload, 1) := by decide +kernel
theorem dX10_goOn_40 : decode cX10_goOn 40 = .ok (.if_icmp .ge 33, 3) := by decide +kernel
theorem dX10_goOn_43 : decode cX10_goOn 43 = .ok (.aload_n 0, 1) := by decide +kernel
theorem dX10_goOn_44 : decode cX10_goOn 44 = .ok (.getfield 47, 3) := by decide +kernel
theorem dX10_goOn_47 : decode cX10_goOn 47 = .ok (.bipush 7, 2) := by decide +kernel
theorem dX10_goOn_49 : decode cX10_goOn 49 = .ok (.iload_n 3, 1) := by decide +kernel
theorem dX10_goOn_50 : decode cX10_goOn 50 = .ok (.imul, 1) := by decide +kernel
theorem dX10_goOn_51 : decode cX10_goOn 51 = .ok (.iload 4, 2) := by decide +kernel
theorem dX10_goOn_53 : decode cX10_goOn 53 = .ok (.iadd, 1) := by decide +kernel
theorem dX10_goOn_54 : decode cX10_goOn 54 = .ok (.aload_n 0, 1) := by decide +kernel
theorem dX10_goOn_55 : decode cX10_goOn 55 = .ok (.getfield 47, 3) := by decide +kernel
theorem dX10_goOn_58 : decode cX10_goOn 58 = .ok (.bipush 7, 2) := by decide +kernel
theorem dX10_goOn_60 : decode cX10_goOn 60 = .ok (.iload_n 1, 1) := by decide +kernel
theorem dX10_goOn_61 : decode cX10_goOn 61 = .ok (.imul, 1) := by decide +kernel
theorem dX10_goOn_62 : decode cX10_goOn 62 = .ok (.iload 4, 2) := by decide +kernel
theorem dX10_goOn_64 : decode cX10_goOn 64 = .ok (.iadd, 1) := by decide +kernel
theorem dX10_goOn_65 : decode cX10_goOn 65 = .ok (.iaload, 1) := by decide +kernel
theorem dX10_goOn_66 : decode cX10_goOn 66 = .ok (.iastore, 1) := by decide +kernel
theorem dX10_goOn_67 : decode cX10_goOn 67 = .ok (.iinc 4 1, 3) := by decide +kernel
theorem dX10_goOn_70 : decode cX10_goOn 70 = .ok (.goto (-38), 3) := by decide +kernel
theorem dX10_goOn_73 : decode cX10_goOn 73 = .ok (.aload_n 0, 1) := by decide +kernel
theorem dX10_goOn_74 : decode cX10_goOn 74 = .ok (.getfield 47, 3) := by decide +kernel
theorem dX10_goOn_77 : decode cX10_goOn 77 = .ok (.bipush 7, 2) := by decide +kernel
theorem dX10_goOn_79 : decode cX10_goOn 79 = .ok (.iload_n 3, 1) := by decide +kernel
theorem dX10_goOn_80 : decode cX10_goOn 80 = .ok (.imul, 1) := by decide +kernel
theorem dX10_goOn_81 : decode cX10_goOn 81 = .ok (.aload_n 0, 1) := by decide +kernel
theorem dX10_goOn_82 : decode cX10_goOn 82 = .ok (.getfield 44, 3) := by decide +kernel
theorem dX10_goOn_85 : decode cX10_goOn 85 = .ok (.iload_n 1, 1) := by decide +kernel
theorem dX10_goOn_86 : decode cX10_goOn 86 = .ok (.iaload, 1) := by decide +kernel
theorem dX10_goOn_87 : decode cX10_goOn 87 = .ok (.iadd, 1) := by decide +kernel
theorem dX10_goOn_88 : decode cX10_goOn 88 = .ok (.iload_n 2, 1) := by decide +kernel
theorem dX10_goOn_89 : decode cX10_goOn 89 = .ok (.iastore, 1) := by decide +kernel
theorem dX10_goOn_90 : decode cX10_goOn 90 = .ok (.aload_n 0, 1) := by decide +kernel
theorem dX10_goOn_91 : decode cX10_goOn 91 = .ok (.getfield 50, 3) := by decide +kernel
theorem dX10_goOn_94 : decode cX10_goOn 94 = .ok (.bipush 14, 2) := by decide +kernel
theorem dX10_goOn_96 : decode cX10_goOn 96 = .ok (.iload_n 1, 1) := by decide +kernel
theorem dX10_goOn_97 : decode cX10_goOn 97 = .ok (.imul, 1) := by decide +kernel
theorem dX10_goOn_98 : decode cX10_goOn 98 = .ok (.iload_n 2, 1) := by decide +kernel
theorem dX10_goOn_99 : decode cX10_goOn 99 = .ok (.iadd, 1) := by decide +kernel
theorem dX10_goOn_100 : decode cX10_goOn 100 = .ok (.iload_n 3, 1) := by decide +kernel
theorem dX10_goOn_101 : decode cX10_goOn 101 = .ok (.iastore, 1) := by decide +kernel
theorem dX10_goOn_102 : decode cX10_goOn 102 = .ok (.return_, 1) := by decide +kernel
theorem dX10_layPaths_0 : decode cX10_layPaths 0 = .ok (.aload_n 0, 1) := by decide +kernel
theorem dX10_layPaths_1 : decode cX10_layPaths 1 = .ok (.iconst 0, 1) := by decide +kernel
theorem dX10_layPaths_2 : decode cX10_layPaths 2 = .ok (.putfield 89, 3) := by decide +kernel
theorem dX10_layPaths_5 : decode cX10_layPaths 5 = .ok (.iconst 0, 1) := by decide +kernel
theorem dX10_layPaths_6 : decode cX10_layPaths 6 = .ok (.istore_n 1, 1) := by decide +kernel
theorem dX10_layPaths_7 : decode cX10_layPaths 7 = .ok (.iload_n 1, 1) := by decide +kernel
theorem dX10_layPaths_8 : decode cX10_layPaths 8 = .ok (.aload_n 0, 1) := by decide +kernel
theorem dX10_layPaths_9 : decode cX10_layPaths 9 = .ok (.getfield 7, 3) := by decide +kernel
theorem dX10_layPaths_12 : decode cX10_layPaths 12 = .ok (.if_icmp .ge 16, 3) := by decide +kernel
theorem dX10_layPaths_15 : decode cX10_layPaths 15 = .ok (.aload_n 0, 1) := by decide +kernel
theorem dX10_layPaths_16 : decode cX10_layPaths 16 = .ok (.iload_n 1, 1) := by decide +kernel
theorem dX10_layPaths_17 : decode cX10_layPaths 17 = .ok (.iload_n 1, 1) := by decide +kernel
theorem dX10_layPaths_18 : decode cX10_layPaths 18 = .ok (.iconst 0, 1) := by decide +kernel
theorem dX10_layPaths_19 : decode cX10_layPaths 19 = .ok (.invokevirtual 92, 3) := by decide +kernel
theorem dX10_layPaths_22 : decode cX10_layPaths 22 = .ok (.iinc 1 1, 3) := by decide +kernel
theorem dX10_layPaths_25 : decode cX10_layPaths 25 = .ok (.goto (-18), 3) := by decide +kernel
theorem dX10_layPaths_28 : decode cX10_layPaths 28 = .ok (.aload_n 0, 1) := by decide +kernel
theorem dX10_layPaths_29 : decode cX10_layPaths 29 = .ok (.getfield 89, 3) := by decide +kernel
theorem dX10_layPaths_32 : decode cX10_layPaths 32 = .ok (.istore_n 1, 1) := by decide +kernel
theorem dX10_layPaths_33 : decode cX10_layPaths 33 = .ok (.iconst 0, 1) := by decide +kernel
theorem dX10_layPaths_34 : decode cX10_layPaths 34 = .ok (.istore_n 2, 1) := by decide +kernel
theorem dX10_layPaths_35 : decode cX10_layPaths 35 = .ok (.iload_n 2, 1) := by decide +kernel
theorem dX10_layPaths_36 : decode cX10_layPaths 36 = .ok (.aload_n 0, 1) := by decide +kernel
theorem dX10_layPaths_37 : decode cX10_layPaths 37 = .ok (.getfield 79, 3) := by decide +kernel
theorem dX10_layPaths_40 : decode cX10_layPaths 40 = .ok (.if_icmp .ge 20, 3) := by decide +kernel
theorem dX10_layPaths_43 : decode cX10_layPaths 43 = .ok (.aload_n 0, 1) := by decide +kernel
theorem dX10_layPaths_44 : decode cX10_layPaths 44 = .ok (.aload_n 0, 1) := by decide +kernel
theorem dX10_layPaths_45 : decode cX10_layPaths 45 = .ok (.getfield 13, 3) := by decide +kernel
theorem dX10_layPaths_48 : decode cX10_layPaths 48 = .ok (.iload_n 2, 1) := by decide +kernel
theorem dX10_layPaths_49 : decode cX10_layPaths 49 = .ok (.iaload, 1) := by decide +kernel
theorem dX10_layPaths_50 : decode cX10_layPaths 50 = .ok (.iload_n 2, 1) := by decide +kernel
theorem dX10_layPaths_51 : decode cX10_layPaths 51 = .ok (.invokevirtual 96, 3) := by decide +kernel
theorem dX10_layPaths_54 : decode cX10_layPaths 54 = .ok (.iinc 2 1, 3) := by decide +kernel
theorem dX10_layPaths_57 : decode cX10_layPaths 57 = .ok (.goto (-22), 3) := by decide +kernel
theorem dX10_layPaths_60 : decode cX10_layPaths 60 = .ok (.iload_n 1, 1) := by decide +kernel
theorem dX10_layPaths_61 : decode cX10_layPaths 61 = .ok (.istore_n 2, 1) := by decide +kernel
theorem dX10_layPaths_62 : decode cX10_layPaths 62 = .ok (.iload_n 2, 1) := by decide +kernel
theorem dX10_layPaths_63 : decode cX10_layPaths 63 = .ok (.aload_n 0, 1) := by decide +kernel
theorem dX10_layPaths_64 : decode cX10_layPaths 64 = .ok (.getfield 89, 3) := by decide +kernel
theorem dX10_layPaths_67 : decode cX10_layPaths 67 = .ok (.if_icmp .ge 58, 3) := by decide +kernel
theorem dX10_layPaths_70 : decode cX10_layPaths 70 = .ok (.iconst 0, 1) := by decide +kernel
theorem dX10_layPaths_71 : decode cX10_layPaths 71 = .ok (.istore_n 3, 1) := by decide +kernel
theorem dX10_layPaths_72 : decode cX10_layPaths 72 = .ok (.iload_n 3, 1) := by decide +kernel
theorem dX10_layPaths_73 : decode cX10_layPaths 73 = .ok (.aload_n 0, 1) := by decide +kernel
theorem dX10_layPaths_74 : decode cX10_layPaths 74 = .ok (.getfield 79, 3) := by decide +kernel
theorem dX10_layPaths_77 : decode cX10_layPaths 77 = .ok (.if_icmp .ge 42, 3) := by decide +kernel
theorem dX10_layPaths_80 : decode cX10_layPaths 80 = .ok (.aload_n 0, 1) := by decide +kernel
theorem dX10_layPaths_81 : decode cX10_layPaths 81 = .ok (.getfield 13, 3) := by decide +kernel
theorem dX10_layPaths_84 : decode cX10_layPaths 84 = .ok (.iload_n 3, 1) := by decide +kernel
theorem dX10_layPaths_85 : decode cX10_layPaths 85 = .ok (.iaload, 1) := by decide +kernel
theorem dX10_layPaths_86 : decode cX10_layPaths 86 = .ok (.aload_n 0, 1) := by decide +kernel
theorem dX10_layPaths_87 : decode cX10_layPaths 87 = .ok (.getfield 41, 3) := by decide +kernel
theorem dX10_layPaths_90 : decode cX10_layPaths 90 = .ok (.iload_n 2, 1) := by decide +kernel
theorem dX10_layPaths_91 : decode cX10_layPaths 91 = .ok (.iaload, 1) := by decide +kernel
theorem dX10_layPaths_92 : decode cX10_layPaths 92 = .ok (.if_icmp .ne 21, 3) := by decide +kernel
theorem dX10_layPaths_95 : decode cX10_layPaths 95 = .ok (.aload_n 0, 1) := by decide +kernel
theorem dX10_layPaths_96 : decode cX10_layPaths 96 = .ok (.getfield 89, 3) := by decide +kernel
theorem dX10_layPaths_99 : decode cX10_layPaths 99 = .ok (.sipush 300, 3) := by decide +kernel
theorem dX10_layPaths_102 : decode cX10_layPaths 102 = .ok (.if_icmp .ne 5, 3) := by decide +kernel
theorem dX10_layPaths_105 : decode cX10_layPaths 105 = .ok (.iconst 0, 1) := by decide +kernel
theorem dX10_layPaths_106 : decode cX10_layPaths 106 = .ok (.ireturn, 1) := by decide +kernel
theorem dX10_layPaths_107 : decode cX10_layPaths 107 = .ok (.aload_n 0, 1) := by decide +kernel
theorem dX10_layPaths_108 : decode cX10_layPaths 108 = .ok (.iload_n 2, 1) := by decide +kernel
theorem dX10_layPaths_109 : decode cX10_layPaths 109 = .ok (.iload_n 3, 1) := by decide +kernel
theorem dX10_layPaths_110 : decode cX10_layPaths 110 = .ok (.invokevirtual 96, 3) := by decide +kernel
theorem dX10_layPaths_113 : decode cX10_layPaths 113 = .ok (.iinc 3 1, 3) := by decide +kernel
theorem dX10_layPaths_116 : decode cX10_layPaths 116 = .ok (.goto (-44), 3) := by decide +kernel
theorem dX10_layPaths_119 : decode cX10_layPaths 119 = .ok (.iinc 2 1, 3) := by decide +kernel
theorem dX10_layPaths_122 : decode cX10_layPaths 122 = .ok (.goto (-60), 3) := by decide +kernel
theorem dX10_layPaths_125 : decode cX10_layPaths 125 = .ok (.iconst 1, 1) := by decide +kernel
theorem dX10_layPaths_126 : decode cX10_layPaths 126 = .ok (.ireturn, 1) := by decide +kernel
theorem dL_law_0 : decode cL_law 0 = .ok (.new 8, 3) := by decide +kernel
theorem dL_law_3 : decode cL_law 3 = .ok (.dup, 1) := by decide +kernel
theorem dL_law_4 : decode cL_law 4 = .ok (.invokespecial 89, 3) := by decide +kernel
theorem dL_law_7 : decode cL_law 7 = .ok (.astore_n 1, 1) := by decide +kernel
theorem dL_law_8 : decode cL_law 8 = .ok (.new 90, 3) := by decide +kernel
theorem dL_law_11 : decode cL_law 11 = .ok (.dup, 1) := by decide +kernel
theorem dL_law_12 : decode cL_law 12 = .ok (.invokespecial 92, 3) := by decide +kernel
theorem dL_law_15 : decode cL_law 15 = .ok (.astore_n 2, 1) := by decide +kernel
theorem dL_law_16 : decode cL_law 16 = .ok (.iconst 1, 1) := by decide +kernel
theorem dL_law_17 : decode cL_law 17 = .ok (.newarray .long, 2) := by decide +kernel
theorem dL_law_19 : decode cL_law 19 = .ok (.astore_n 3, 1) := by decide +kernel
theorem dL_law_20 : decode cL_law 20 = .ok (.iconst 0, 1) := by decide +kernel
theorem dL_law_21 : decode cL_law 21 = .ok (.istore 4, 2) := by decide +kernel
theorem dL_law_23 : decode cL_law 23 = .ok (.iload 4, 2) := by decide +kernel
theorem dL_law_25 : decode cL_law 25 = .ok (.aload_n 0, 1) := by decide +kernel
theorem dL_law_26 : decode cL_law 26 = .ok (.arraylength, 1) := by decide +kernel
theorem dL_law_27 : decode cL_law 27 = .ok (.iconst 5, 1) := by decide +kernel
theorem dL_law_28 : decode cL_law 28 = .ok (.isub, 1) := by decide +kernel
theorem dL_law_29 : decode cL_law 29 = .ok (.if_icmp .gt 1090, 3) := by decide +kernel
theorem dL_law_1119 : decode cL_law 1119 = .ok (.iconst 1, 1) := by decide +kernel
theorem dL_law_1120 : decode cL_law 1120 = .ok (.ireturn, 1) := by decide +kernel

theorem dX0_init_0 : decode cX0_init 0 = .ok (.aload_n 0, 1) := by decide +kernel
theorem dX0_init_1 : decode cX0_init 1 = .ok (.invokespecial 3, 3) := by decide +kernel
theorem dX0_init_4 : decode cX0_init 4 = .ok (.aload_n 0, 1) := by decide +kernel
theorem dX0_init_5 : decode cX0_init 5 = .ok (.iconst 0, 1) := by decide +kernel
theorem dX0_init_6 : decode cX0_init 6 = .ok (.putfield 9, 3) := by decide +kernel
theorem dX0_init_9 : decode cX0_init 9 = .ok (.aload_n 0, 1) := by decide +kernel
theorem dX0_init_10 : decode cX0_init 10 = .ok (.new 15, 3) := by decide +kernel
theorem dX0_init_13 : decode cX0_init 13 = .ok (.dup, 1) := by decide +kernel
theorem dX0_init_14 : decode cX0_init 14 = .ok (.bipush 10, 2) := by decide +kernel
theorem dX0_init_16 : decode cX0_init 16 = .ok (.invokespecial 17, 3) := by decide +kernel
theorem dX0_init_19 : decode cX0_init 19 = .ok (.putfield 20, 3) := by decide +kernel
theorem dX0_init_22 : decode cX0_init 22 = .ok (.aload_n 0, 1) := by decide +kernel
theorem dX0_init_23 : decode cX0_init 23 = .ok (.new 15, 3) := by decide +kernel
theorem dX0_init_26 : decode cX0_init 26 = .ok (.dup, 1) := by decide +kernel
theorem dX0_init_27 : decode cX0_init 27 = .ok (.bipush 20, 2) := by decide +kernel
theorem dX0_init_29 : decode cX0_init 29 = .ok (.invokespecial 17, 3) := by decide +kernel
theorem dX0_init_32 : decode cX0_init 32 = .ok (.putfield 24, 3) := by decide +kernel
theorem dX0_init_35 : decode cX0_init 35 = .ok (.aload_n 0, 1) := by decide +kernel
theorem dX0_init_36 : decode cX0_init 36 = .ok (.new 27, 3) := by decide +kernel
theorem dX0_init_39 : decode cX0_init 39 = .ok (.dup, 1) := by decide +kernel
theorem dX0_init_40 : decode cX0_init 40 = .ok (.bipush 20, 2) := by decide +kernel
theorem dX0_init_42 : decode cX0_init 42 = .ok (.bipush 7, 2) := by decide +kernel
theorem dX0_init_44 : decode cX0_init 44 = .ok (.invokespecial 29, 3) := by decide +kernel
theorem dX0_init_47 : decode cX0_init 47 = .ok (.putfield 32, 3) := by decide +kernel
theorem dX0_init_50 : decode cX0_init 50 = .ok (.aload_n 0, 1) := by decide +kernel
theorem dX0_init_51 : decode cX0_init 51 = .ok (.new 15, 3) := by decide +kernel
theorem dX0_init_54 : decode cX0_init 54 = .ok (.dup, 1) := by decide +kernel
theorem dX0_init_55 : decode cX0_init 55 = .ok (.bipush 20, 2) := by decide +kernel
theorem dX0_init_57 : decode cX0_init 57 = .ok (.invokespecial 17, 3) := by decide +kernel
theorem dX0_init_60 : decode cX0_init 60 = .ok (.putfield 36, 3) := by decide +kernel
theorem dX0_init_63 : decode cX0_init 63 = .ok (.return_, 1) := by decide +kernel
theorem dX0_clear_0 : decode cX0_clear 0 = .ok (.aload_n 0, 1) := by decide +kernel
theorem dX0_clear_1 : decode cX0_clear 1 = .ok (.iconst 0, 1) := by decide +kernel
theorem dX0_clear_2 : decode cX0_clear 2 = .ok (.putfield 9, 3) := by decide +kernel
theorem dX0_clear_5 : decode cX0_clear 5 = .ok (.return_, 1) := by decide +kernel
theorem dX0_become_0 : decode cX0_become 0 = .ok (.aload_n 0, 1) := by decide +kernel
theorem dX0_become_1 : decode cX0_become 1 = .ok (.aload_n 1, 1) := by decide +kernel
theorem dX0_become_2 : decode cX0_become 2 = .ok (.getfield 9, 3) := by decide +kernel
theorem dX0_become_5 : decode cX0_become 5 = .ok (.putfield 9, 3) := by decide +kernel
theorem dX0_become_8 : decode cX0_become 8 = .ok (.aload_n 0, 1) := by decide +kernel
theorem dX0_become_9 : decode cX0_become 9 = .ok (.getfield 20, 3) := by decide +kernel
theorem dX0_become_12 : decode cX0_become 12 = .ok (.aload_n 1, 1) := by decide +kernel
theorem dX0_become_13 : decode cX0_become 13 = .ok (.getfield 20, 3) := by decide +kernel
theorem dX0_become_16 : decode cX0_become 16 = .ok (.invokevirtual 39, 3) := by decide +kernel
theorem dX0_become_19 : decode cX0_become 19 = .ok (.aload_n 0, 1) := by decide +kernel
theorem dX0_become_20 : decode cX0_become 20 = .ok (.getfield 24, 3) := by decide +kernel
theorem dX0_become_23 : decode cX0_become 23 = .ok (.aload_n 1, 1) := by decide +kernel
theorem dX0_become_24 : decode cX0_become 24 = .ok (.getfield 24, 3) := by decide +kernel
theorem dX0_become_27 : decode cX0_become 27 = .ok (.invokevirtual 39, 3) := by decide +kernel
theorem dX0_become_30 : decode cX0_become 30 = .ok (.aload_n 0, 1) := by decide +kernel
theorem dX0_become_31 : decode cX0_become 31 = .ok (.getfield 32, 3) := by decide +kernel
theorem dX0_become_34 : decode cX0_become 34 = .ok (.aload_n 1, 1) := by decide +kernel
theorem dX0_become_35 : decode cX0_become 35 = .ok (.getfield 32, 3) := by decide +kernel
theorem dX0_become_38 : decode cX0_become 38 = .ok (.invokevirtual 43, 3) := by decide +kernel
theorem dX0_become_41 : decode cX0_become 41 = .ok (.return_, 1) := by decide +kernel
theorem dX0_total_0 : decode cX0_total 0 = .ok (.aload_n 0, 1) := by decide +kernel
theorem dX0_total_1 : decode cX0_total 1 = .ok (.getfield 9, 3) := by decide +kernel
theorem dX0_total_4 : decode cX0_total 4 = .ok (.ireturn, 1) := by decide +kernel
theorem dX0_open_0 : decode cX0_open 0 = .ok (.aload_n 0, 1) := by decide +kernel
theorem dX0_open_1 : decode cX0_open 1 = .ok (.getfield 20, 3) := by decide +kernel
theorem dX0_open_4 : decode cX0_open 4 = .ok (.aload_n 0, 1) := by decide +kernel
theorem dX0_open_5 : decode cX0_open 5 = .ok (.getfield 9, 3) := by decide +kernel
theorem dX0_open_8 : decode cX0_open 8 = .ok (.iload_n 1, 1) := by decide +kernel
theorem dX0_open_9 : decode cX0_open 9 = .ok (.invokevirtual 46, 3) := by decide +kernel
theorem dX0_open_12 : decode cX0_open 12 = .ok (.aload_n 0, 1) := by decide +kernel
theorem dX0_open_13 : decode cX0_open 13 = .ok (.getfield 24, 3) := by decide +kernel
theorem dX0_open_16 : decode cX0_open 16 = .ok (.iconst 2, 1) := by decide +kernel
theorem dX0_open_17 : decode cX0_open 17 = .ok (.aload_n 0, 1) := by decide +kernel
theorem dX0_open_18 : decode cX0_open 18 = .ok (.getfield 9, 3) := by decide +kernel
theorem dX0_open_21 : decode cX0_open 21 = .ok (.imul, 1) := by decide +kernel
theorem dX0_open_22 : decode cX0_open 22 = .ok (.iconst 0, 1) := by decide +kernel
theorem dX0_open_23 : decode cX0_open 23 = .ok (.invokevirtual 46, 3) := by decide +kernel
theorem dX0_open_26 : decode cX0_open 26 = .ok (.aload_n 0, 1) := by decide +kernel
theorem dX0_open_27 : decode cX0_open 27 = .ok (.getfield 24, 3) := by decide +kernel
theorem dX0_open_30 : decode cX0_open 30 = .ok (.iconst 2, 1) := by decide +kernel
theorem dX0_open_31 : decode cX0_open 31 = .ok (.aload_n 0, 1) := by decide +kernel
theorem dX0_open_32 : decode cX0_open 32 = .ok (.getfield 9, 3) := by decide +kernel
theorem dX0_open_35 : decode cX0_open 35 = .ok (.imul, 1) := by decide +kernel
theorem dX0_open_36 : decode cX0_open 36 = .ok (.iconst 1, 1) := by decide +kernel
theorem dX0_open_37 : decode cX0_open 37 = .ok (.iadd, 1) := by decide +kernel
theorem dX0_open_38 : decode cX0_open 38 = .ok (.iconst 0, 1) := by decide +kernel
theorem dX0_open_39 : decode cX0_open 39 = .ok (.invokevirtual 46, 3) := by decide +kernel
theorem dX0_open_42 : decode cX0_open 42 = .ok (.aload_n 0, 1) := by decide +kernel
theorem dX0_open_43 : decode cX0_open 43 = .ok (.dup, 1) := by decide +kernel
theorem dX0_open_44 : decode cX0_open 44 = .ok (.getfield 9, 3) := by decide +kernel
theorem dX0_open_47 : decode cX0_open 47 = .ok (.iconst 1, 1) := by decide +kernel
theorem dX0_open_48 : decode cX0_open 48 = .ok (.iadd, 1) := by decide +kernel
theorem dX0_open_49 : decode cX0_open 49 = .ok (.putfield 9, 3) := by decide +kernel
theorem dX0_open_52 : decode cX0_open 52 = .ok (.aload_n 0, 1) := by decide +kernel
theorem dX0_open_53 : decode cX0_open 53 = .ok (.getfield 9, 3) := by decide +kernel
theorem dX0_open_56 : decode cX0_open 56 = .ok (.iconst 1, 1) := by decide +kernel
theorem dX0_open_57 : decode cX0_open 57 = .ok (.isub, 1) := by decide +kernel
theorem dX0_open_58 : decode cX0_open 58 = .ok (.ireturn, 1) := by decide +kernel
theorem dX0_lengthen_0 : decode cX0_lengthen 0 = .ok (.iconst 2, 1) := by decide +kernel
theorem dX0_lengthen_1 : decode cX0_lengthen 1 = .ok (.aload_n 0, 1) := by decide +kernel
theorem dX0_lengthen_2 : decode cX0_lengthen 2 = .ok (.getfield 9, 3) := by decide +kernel
theorem dX0_lengthen_5 : decode cX0_lengthen 5 = .ok (.iconst 1, 1) := by decide +kernel
theorem dX0_lengthen_6 : decode cX0_lengthen 6 = .ok (.isub, 1) := by decide +kernel
theorem dX0_lengthen_7 : decode cX0_lengthen 7 = .ok (.imul, 1) := by decide +kernel
theorem dX0_lengthen_8 : decode cX0_lengthen 8 = .ok (.iload_n 1, 1) := by decide +kernel
theorem dX0_lengthen_9 : decode cX0_lengthen 9 = .ok (.iadd, 1) := by decide +kernel
theorem dX0_lengthen_10 : decode cX0_lengthen 10 = .ok (.istore_n 3, 1) := by decide +kernel
theorem dX0_lengthen_11 : decode cX0_lengthen 11 = .ok (.aload_n 0, 1) := by decide +kernel
theorem dX0_lengthen_12 : decode cX0_lengthen 12 = .ok (.getfield 24, 3) := by decide +kernel
theorem dX0_lengthen_15 : decode cX0_lengthen 15 = .ok (.iload_n 3, 1) := by decide +kernel
theorem dX0_lengthen_16 : decode cX0_lengthen 16 = .ok (.invokevirtual 49, 3) := by decide +kernel
theorem dX0_lengthen_19 : decode cX0_lengthen 19 = .ok (.istore 4, 2) := by decide +kernel
theorem dX0_lengthen_21 : decode cX0_lengthen 21 = .ok (.aload_n 0, 1) := by decide +kernel
theorem dX0_lengthen_22 : decode cX0_lengthen 22 = .ok (.getfield 32, 3) := by decide +kernel
theorem dX0_lengthen_25 : decode cX0_lengthen 25 = .ok (.iload_n 3, 1) := by decide +kernel
theorem dX0_lengthen_26 : decode cX0_lengthen 26 = .ok (.iload 4, 2) := by decide +kernel
theorem dX0_lengthen_28 : decode cX0_lengthen 28 = .ok (.iload_n 2, 1) := by decide +kernel
theorem dX0_lengthen_29 : decode cX0_lengthen 29 = .ok (.invokevirtual 53, 3) := by decide +kernel
theorem dX0_lengthen_32 : decode cX0_lengthen 32 = .ok (.aload_n 0, 1) := by decide +kernel
theorem dX0_lengthen_33 : decode cX0_lengthen 33 = .ok (.getfield 24, 3) := by decide +kernel
theorem dX0_lengthen_36 : decode cX0_lengthen 36 = .ok (.iload_n 3, 1) := by decide +kernel
theorem dX0_lengthen_37 : decode cX0_lengthen 37 = .ok (.iload 4, 2) := by decide +kernel
theorem dX0_lengthen_39 : decode cX0_lengthen 39 = .ok (.iconst 1, 1) := by decide +kernel
theorem dX0_lengthen_40 : decode cX0_lengthen 40 = .ok (.iadd, 1) := by decide +kernel
theorem dX0_lengthen_41 : decode cX0_lengthen 41 = .ok (.invokevirtual 46, 3) := by decide +kernel
theorem dX0_lengthen_44 : decode cX0_lengthen 44 = .ok (.return_, 1) := by decide +kernel
theorem dX0_remove_0 : decode cX0_remove 0 = .ok (.iload_n 1, 1) := by decide +kernel
theorem dX0_remove_1 : decode cX0_remove 1 = .ok (.iconst 1, 1) := by decide +kernel
theorem dX0_remove_2 : decode cX0_remove 2 = .ok (.iadd, 1) := by decide +kernel
theorem dX0_remove_3 : decode cX0_remove 3 = .ok (.istore_n 2, 1) := by decide +kernel
theorem dX0_remove_4 : decode cX0_remove 4 = .ok (.iload_n 2, 1) := by decide +kernel
theorem dX0_remove_5 : decode cX0_remove 5 = .ok (.aload_n 0, 1) := by decide +kernel
theorem dX0_remove_6 : decode cX0_remove 6 = .ok (.getfield 9, 3) := by decide +kernel
theorem dX0_remove_9 : decode cX0_remove 9 = .ok (.if_icmp .ge 17, 3) := by decide +kernel
theorem dX0_remove_12 : decode cX0_remove 12 = .ok (.aload_n 0, 1) := by decide +kernel
theorem dX0_remove_13 : decode cX0_remove 13 = .ok (.iload_n 2, 1) := by decide +kernel
theorem dX0_remove_14 : decode cX0_remove 14 = .ok (.iload_n 2, 1) := by decide +kernel
theorem dX0_remove_15 : decode cX0_remove 15 = .ok (.iconst 1, 1) := by decide +kernel
theorem dX0_remove_16 : decode cX0_remove 16 = .ok (.isub, 1) := by decide +kernel
theorem dX0_remove_17 : decode cX0_remove 17 = .ok (.invokevirtual 56, 3) := by decide +kernel
theorem dX0_remove_20 : decode cX0_remove 20 = .ok (.iinc 2 1, 3) := by decide +kernel
theorem dX0_remove_23 : decode cX0_remove 23 = .ok (.goto (-19), 3) := by decide +kernel
theorem dX0_remove_26 : decode cX0_remove 26 = .ok (.aload_n 0, 1) := by decide +kernel
theorem dX0_remove_27 : decode cX0_remove 27 = .ok (.dup, 1) := by decide +kernel
theorem dX0_remove_28 : decode cX0_remove 28 = .ok (.getfield 9, 3) := by decide +kernel
theorem dX0_remove_31 : decode cX0_remove 31 = .ok (.iconst 1, 1) := by decide +kernel
theorem dX0_remove_32 : decode cX0_remove 32 = .ok (.isub, 1) := by decide +kernel
theorem dX0_remove_33 : decode cX0_remove 33 = .ok (.putfield 9, 3) := by decide +kernel
theorem dX0_remove_36 : decode cX0_remove 36 = .ok (.return_, 1) := by decide +kernel
theorem dX0_removeAllWith_0 : decode cX0_removeAllWith 0 = .ok (.iconst 0, 1) := by decide +kernel
theorem dX0_removeAllWith_1 : decode cX0_removeAllWith 1 = .ok (.istore_n 2, 1) := by decide +kernel
theorem dX0_removeAllWith_2 : decode cX0_removeAllWith 2 = .ok (.iconst 0, 1) := by decide +kernel
theorem dX0_removeAllWith_3 : decode cX0_removeAllWith 3 = .ok (.istore_n 3, 1) := by decide +kernel
theorem dX0_removeAllWith_4 : decode cX0_removeAllWith 4 = .ok (.iload_n 3, 1) := by decide +kernel
theorem dX0_removeAllWith_5 : decode cX0_removeAllWith 5 = .ok (.aload_n 0, 1) := by decide +kernel
theorem dX0_removeAllWith_6 : decode cX0_removeAllWith 6 = .ok (.getfield 9, 3) := by decide +kernel
theorem dX0_removeAllWith_9 : decode cX0_removeAllWith 9 = .ok (.if_icmp .ge 38, 3) := by decide +kernel
theorem dX0_removeAllWith_12 : decode cX0_removeAllWith 12 = .ok (.aload_n 0, 1) := by decide +kernel
theorem dX0_removeAllWith_13 : decode cX0_removeAllWith 13 = .ok (.iload_n 3, 1) := by decide +kernel
theorem dX0_removeAllWith_14 : decode cX0_removeAllWith 14 = .ok (.iconst 0, 1) := by decide +kernel
theorem dX0_removeAllWith_15 : decode cX0_removeAllWith 15 = .ok (.iload_n 1, 1) := by decide +kernel
theorem dX0_removeAllWith_16 : decode cX0_removeAllWith 16 = .ok (.invokevirtual 59, 3) := by decide +kernel
theorem dX0_removeAllWith_19 : decode cX0_removeAllWith 19 = .ok (.ifCond .ne 22, 3) := by decide +kernel
theorem dX0_removeAllWith_22 : decode cX0_removeAllWith 22 = .ok (.aload_n 0, 1) := by decide +kernel
theorem dX0_removeAllWith_23 : decode cX0_removeAllWith 23 = .ok (.iload_n 3, 1) := by decide +kernel
theorem dX0_removeAllWith_24 : decode cX0_removeAllWith 24 = .ok (.iconst 1, 1) := by decide +kernel
theorem dX0_removeAllWith_25 : decode cX0_removeAllWith 25 = .ok (.iload_n 1, 1) := by decide +kernel
theorem dX0_removeAllWith_26 : decode cX0_removeAllWith 26 = .ok (.invokevirtual 59, 3) := by decide +kernel
theorem dX0_removeAllWith_29 : decode cX0_removeAllWith 29 = .ok (.ifCond .ne 12, 3) := by decide +kernel
theorem dX0_removeAllWith_32 : decode cX0_removeAllWith 32 = .ok (.aload_n 0, 1) := by decide +kernel
theorem dX0_removeAllWith_33 : decode cX0_removeAllWith 33 = .ok (.iload_n 3, 1) := by decide +kernel
theorem dX0_removeAllWith_34 : decode cX0_removeAllWith 34 = .ok (.iload_n 2, 1) := by decide +kernel
theorem dX0_removeAllWith_35 : decode cX0_removeAllWith 35 = .ok (.invokevirtual 56, 3) := by decide +kernel
theorem dX0_removeAllWith_38 : decode cX0_removeAllWith 38 = .ok (.iinc 2 1, 3) := by decide +kernel
theorem dX0_removeAllWith_41 : decode cX0_removeAllWith 41 = .ok (.iinc 3 1, 3) := by decide +kernel
theorem dX0_removeAllWith_44 : decode cX0_removeAllWith 44 = .ok (.goto (-40), 3) := by decide +kernel
theorem dX0_removeAllWith_47 : decode cX0_removeAllWith 47 = .ok (.aload_n 0, 1) := by decide +kernel
theorem dX0_removeAllWith_48 : decode cX0_removeAllWith 48 = .ok (.getfield 9, 3) := by decide +kernel
theorem dX0_removeAllWith_51 : decode cX0_removeAllWith 51 = .ok (.iload_n 2, 1) := by decide +kernel
theorem dX0_removeAllWith_52 : decode cX0_removeAllWith 52 = .ok (.isub, 1) := by decide +kernel
theorem dX0_removeAllWith_53 : decode cX0_removeAllWith 53 = .ok (.istore_n 3, 1) := by decide +kernel
theorem dX0_removeAllWith_54 : decode cX0_removeAllWith 54 = .ok (.aload_n 0, 1) := by decide +kernel
theorem dX0_removeAllWith_55 : decode cX0_removeAllWith 55 = .ok (.iload_n 2, 1) := by decide +kernel
theorem dX0_removeAllWith_56 : decode cX0_removeAllWith 56 = .ok (.putfield 9, 3) := by decide +kernel
theorem dX0_removeAllWith_59 : decode cX0_removeAllWith 59 = .ok (.iload_n 3, 1) := by decide +kernel
theorem dX0_removeAllWith_60 : decode cX0_removeAllWith 60 = .ok (.ireturn, 1) := by decide +kernel
theorem dX0_renumber_0 : decode cX0_renumber 0 = .ok (.iconst 0, 1) := by decide +kernel
theorem dX0_renumber_1 : decode cX0_renumber 1 = .ok (.istore_n 2, 1) := by decide +kernel
theorem dX0_renumber_2 : decode cX0_renumber 2 = .ok (.iload_n 2, 1) := by decide +kernel
theorem dX0_renumber_3 : decode cX0_renumber 3 = .ok (.iconst 2, 1) := by decide +kernel
theorem dX0_renumber_4 : decode cX0_renumber 4 = .ok (.aload_n 0, 1) := by decide +kernel
theorem dX0_renumber_5 : decode cX0_renumber 5 = .ok (.getfield 9, 3) := by decide +kernel
theorem dX0_renumber_8 : decode cX0_renumber 8 = .ok (.imul, 1) := by decide +kernel
theorem dX0_renumber_9 : decode cX0_renumber 9 = .ok (.if_icmp .ge 70, 3) := by decide +kernel
theorem dX0_renumber_12 : decode cX0_renumber 12 = .ok (.aload_n 0, 1) := by decide +kernel
theorem dX0_renumber_13 : decode cX0_renumber 13 = .ok (.getfield 20, 3) := by decide +kernel
theorem dX0_renumber_16 : decode cX0_renumber 16 = .ok (.iload_n 2, 1) := by decide +kernel
theorem dX0_renumber_17 : decode cX0_renumber 17 = .ok (.iconst 2, 1) := by decide +kernel
theorem dX0_renumber_18 : decode cX0_renumber 18 = .ok (.idiv, 1) := by decide +kernel
theorem dX0_renumber_19 : decode cX0_renumber 19 = .ok (.invokevirtual 49, 3) := by decide +kernel
theorem dX0_renumber_22 : decode cX0_renumber 22 = .ok (.istore_n 3, 1) := by decide +kernel
theorem dX0_renumber_23 : decode cX0_renumber 23 = .ok (.iconst 0, 1) := by decide +kernel
theorem dX0_renumber_24 : decode cX0_renumber 24 = .ok (.istore 4, 2) := by decide +kernel
theorem dX0_renumber_26 : decode cX0_renumber 26 = .ok (.iload 4, 2) := by decide +kernel
theorem dX0_renumber_28 : decode cX0_renumber 28 = .ok (.aload_n 0, 1) := by decide +kernel
theorem dX0_renumber_29 : decode cX0_renumber 29 = .ok (.getfield 24, 3) := by decide +kernel
theorem dX0_renumber_32 : decode cX0_renumber 32 = .ok (.iload_n 2, 1) := by decide +kernel
theorem dX0_renumber_33 : decode cX0_renumber 33 = .ok (.invokevirtual 49, 3) := by decide +kernel
theorem dX0_renumber_36 : decode cX0_renumber 36 = .ok (.if_icmp .ge 28, 3) := by decide +kernel
theorem dX0_renumber_39 : decode cX0_renumber 39 = .ok (.aload_n 1, 1) := by decide +kernel
theorem dX0_renumber_40 : decode cX0_renumber 40 = .ok (.getfield 63, 3) := by decide +kernel
theorem dX0_renumber_43 : decode cX0_renumber 43 = .ok (.iload_n 3, 1) := by decide +kernel
theorem dX0_renumber_44 : decode cX0_renumber 44 = .ok (.aload_n 0, 1) := by decide +kernel
theorem dX0_renumber_45 : decode cX0_renumber 45 = .ok (.getfield 32, 3) := by decide +kernel
theorem dX0_renumber_48 : decode cX0_renumber 48 = .ok (.iload_n 2, 1) := by decide +kernel
theorem dX0_renumber_49 : decode cX0_renumber 49 = .ok (.iload 4, 2) := by decide +kernel
theorem dX0_renumber_51 : decode cX0_renumber 51 = .ok (.invokevirtual 68, 3) := by decide +kernel
theorem dX0_renumber_54 : decode cX0_renumber 54 = .ok (.invokevirtual 68, 3) := by decide +kernel
theorem dX0_renumber_57 : decode cX0_renumber 57 = .ok (.istore_n 3, 1) := by decide +kernel
theorem dX0_renumber_58 : decode cX0_renumber 58 = .ok (.iinc 4 1, 3) := by decide +kernel
theorem dX0_renumber_61 : decode cX0_renumber 61 = .ok (.goto (-35), 3) := by decide +kernel
theorem dX0_renumber_64 : decode cX0_renumber 64 = .ok (.aload_n 0, 1) := by decide +kernel
theorem dX0_renumber_65 : decode cX0_renumber 65 = .ok (.getfield 36, 3) := by decide +kernel
theorem dX0_renumber_68 : decode cX0_renumber 68 = .ok (.iload_n 2, 1) := by decide +kernel
theorem dX0_renumber_69 : decode cX0_renumber 69 = .ok (.iload_n 3, 1) := by decide +kernel
theorem dX0_renumber_70 : decode cX0_renumber 70 = .ok (.invokevirtual 46, 3) := by decide +kernel
theorem dX0_renumber_73 : decode cX0_renumber 73 = .ok (.iinc 2 1, 3) := by decide +kernel
theorem dX0_renumber_76 : decode cX0_renumber 76 = .ok (.goto (-74), 3) := by decide +kernel
theorem dX0_renumber_79 : decode cX0_renumber 79 = .ok (.return_, 1) := by decide +kernel
theorem dX0_pathOf_0 : decode cX0_pathOf 0 = .ok (.aload_n 0, 1) := by decide +kernel
theorem dX0_pathOf_1 : decode cX0_pathOf 1 = .ok (.getfield 36, 3) := by decide +kernel
theorem dX0_pathOf_4 : decode cX0_pathOf 4 = .ok (.iconst 2, 1) := by decide +kernel
theorem dX0_pathOf_5 : decode cX0_pathOf 5 = .ok (.iload_n 1, 1) := by decide +kernel
theorem dX0_pathOf_6 : decode cX0_pathOf 6 = .ok (.imul, 1) := by decide +kernel
theorem dX0_pathOf_7 : decode cX0_pathOf 7 = .ok (.iload_n 2, 1) := by decide +kernel
theorem dX0_pathOf_8 : decode cX0_pathOf 8 = .ok (.iadd, 1) := by decide +kernel
theorem dX0_pathOf_9 : decode cX0_pathOf 9 = .ok (.invokevirtual 49, 3) := by decide +kernel
theorem dX0_pathOf_12 : decode cX0_pathOf 12 = .ok (.ireturn, 1) := by decide +kernel
theorem dX0_occurs_0 : decode cX0_occurs 0 = .ok (.iconst 2, 1) := by decide +kernel
theorem dX0_occurs_1 : decode cX0_occurs 1 = .ok (.iload_n 1, 1) := by decide +kernel
theorem dX0_occurs_2 : decode cX0_occurs 2 = .ok (.imul, 1) := by decide +kernel
theorem dX0_occurs_3 : decode cX0_occurs 3 = .ok (.iload_n 2, 1) := by decide +kernel
theorem dX0_occurs_4 : decode cX0_occurs 4 = .ok (.iadd, 1) := by decide +kernel
theorem dX0_occurs_5 : decode cX0_occurs 5 = .ok (.istore 4, 2) := by decide +kernel
theorem dX0_occurs_7 : decode cX0_occurs 7 = .ok (.iconst 0, 1) := by decide +kernel
theorem dX0_occurs_8 : decode cX0_occurs 8 = .ok (.istore 5, 2) := by decide +kernel
theorem dX0_occurs_10 : decode cX0_occurs 10 = .ok (.iload 5, 2) := by decide +kernel
theorem dX0_occurs_12 : decode cX0_occurs 12 = .ok (.aload_n 0, 1) := by decide +kernel
theorem dX0_occurs_13 : decode cX0_occurs 13 = .ok (.getfield 24, 3) := by decide +kernel
theorem dX0_occurs_16 : decode cX0_occurs 16 = .ok (.iload 4, 2) := by decide +kernel
theorem dX0_occurs_18 : decode cX0_occurs 18 = .ok (.invokevirtual 49, 3) := by decide +kernel
theorem dX0_occurs_21 : decode cX0_occurs 21 = .ok (.if_icmp .ge 26, 3) := by decide +kernel
theorem dX0_occurs_24 : decode cX0_occurs 24 = .ok (.aload_n 0, 1) := by decide +kernel
theorem dX0_occurs_25 : decode cX0_occurs 25 = .ok (.getfield 32, 3) := by decide +kernel
theorem dX0_occurs_28 : decode cX0_occurs 28 = .ok (.iload 4, 2) := by decide +kernel
theorem dX0_occurs_30 : decode cX0_occurs 30 = .ok (.iload 5, 2) := by decide +kernel
theorem dX0_occurs_32 : decode cX0_occurs 32 = .ok (.invokevirtual 68, 3) := by decide +kernel
theorem dX0_occurs_35 : decode cX0_occurs 35 = .ok (.iload_n 3, 1) := by decide +kernel
theorem dX0_occurs_36 : decode cX0_occurs 36 = .ok (.if_icmp .ne 5, 3) := by decide +kernel
theorem dX0_occurs_39 : decode cX0_occurs 39 = .ok (.iconst 1, 1) := by decide +kernel
theorem dX0_occurs_40 : decode cX0_occurs 40 = .ok (.ireturn, 1) := by decide +kernel
theorem dX0_occurs_41 : decode cX0_occurs 41 = .ok (.iinc 5 1, 3) := by decide +kernel
theorem dX0_occurs_44 : decode cX0_occurs 44 = .ok (.goto (-34), 3) := by decide +kernel
theorem dX0_occurs_47 : decode cX0_occurs 47 = .ok (.iconst 0, 1) := by decide +kernel
theorem dX0_occurs_48 : decode cX0_occurs 48 = .ok (.ireturn, 1) := by decide +kernel
theorem dX0_move_0 : decode cX0_move 0 = .ok (.aload_n 0, 1) := by decide +kernel
theorem dX0_move_1 : decode cX0_move 1 = .ok (.getfield 20, 3) := by decide +kernel
theorem dX0_move_4 : decode cX0_move 4 = .ok (.iload_n 2, 1) := by decide +kernel
theorem dX0_move_5 : decode cX0_move 5 = .ok (.aload_n 0, 1) := by decide +kernel
theorem dX0_move_6 : decode cX0_move 6 = .ok (.getfield 20, 3) := by decide +kernel
theorem dX0_move_9 : decode cX0_move 9 = .ok (.iload_n 1, 1) := by decide +kernel
theorem dX0_move_10 : decode cX0_move 10 = .ok (.invokevirtual 49, 3) := by decide +kernel
theorem dX0_move_13 : decode cX0_move 13 = .ok (.invokevirtual 46, 3) := by decide +kernel
theorem dX0_move_16 : decode cX0_move 16 = .ok (.iconst 0, 1) := by decide +kernel
theorem dX0_move_17 : decode cX0_move 17 = .ok (.istore_n 3, 1) := by decide +kernel
theorem dX0_move_18 : decode cX0_move 18 = .ok (.iload_n 3, 1) := by decide +kernel
theorem dX0_move_19 : decode cX0_move 19 = .ok (.iconst 2, 1) := by decide +kernel
theorem dX0_move_20 : decode cX0_move 20 = .ok (.if_icmp .ge 85, 3) := by decide +kernel
theorem dX0_move_23 : decode cX0_move 23 = .ok (.iconst 2, 1) := by decide +kernel
theorem dX0_move_24 : decode cX0_move 24 = .ok (.iload_n 1, 1) := by decide +kernel
theorem dX0_move_25 : decode cX0_move 25 = .ok (.imul, 1) := by decide +kernel
theorem dX0_move_26 : decode cX0_move 26 = .ok (.iload_n 3, 1) := by decide +kernel
theorem dX0_move_27 : decode cX0_move 27 = .ok (.iadd, 1) := by decide +kernel
theorem dX0_move_28 : decode cX0_move 28 = .ok (.istore 4, 2) := by decide +kernel
theorem dX0_move_30 : decode cX0_move 30 = .ok (.aload_n 0, 1) := by decide +kernel
theorem dX0_move_31 : decode cX0_move 31 = .ok (.getfield 24, 3) := by decide +kernel
theorem dX0_move_34 : decode cX0_move 34 = .ok (.iconst 2, 1) := by decide +kernel
theorem dX0_move_35 : decode cX0_move 35 = .ok (.iload_n 2, 1) := by decide +kernel
theorem dX0_move_36 : decode cX0_move 36 = .ok (.imul, 1) := by decide +kernel
theorem dX0_move_37 : decode cX0_move 37 = .ok (.iload_n 3, 1) := by decide +kernel
theorem dX0_move_38 : decode cX0_move 38 = .ok (.iadd, 1) := by decide +kernel
theorem dX0_move_39 : decode cX0_move 39 = .ok (.aload_n 0, 1) := by decide +kernel
theorem dX0_move_40 : decode cX0_move 40 = .ok (.getfield 24, 3) := by decide +kernel
theorem dX0_move_43 : decode cX0_move 43 = .ok (.iload 4, 2) := by decide +kernel
theorem dX0_move_45 : decode cX0_move 45 = .ok (.invokevirtual 49, 3) := by decide +kernel
theorem dX0_move_48 : decode cX0_move 48 = .ok (.invokevirtual 46, 3) := by decide +kernel
theorem dX0_move_51 : decode cX0_move 51 = .ok (.iconst 0, 1) := by decide +kernel
theorem dX0_move_52 : decode cX0_move 52 = .ok (.istore 5, 2) := by decide +kernel
theorem dX0_move_54 : decode cX0_move 54 = .ok (.iload 5, 2) := by decide +kernel
theorem dX0_move_56 : decode cX0_move 56 = .ok (.aload_n 0, 1) := by decide +kernel
theorem dX0_move_57 : decode cX0_move 57 = .ok (.getfield 24, 3) := by decide +kernel
theorem dX0_move_60 : decode cX0_move 60 = .ok (.iload 4, 2) := by decide +kernel
theorem dX0_move_62 : decode cX0_move 62 = .ok (.invokevirtual 49, 3) := by decide +kernel
theorem dX0_move_65 : decode cX0_move 65 = .ok (.if_icmp .ge 34, 3) := by decide +kernel
theorem dX0_move_68 : decode cX0_move 68 = .ok (.aload_n 0, 1) := by decide +kernel
theorem dX0_move_69 : decode cX0_move 69 = .ok (.getfield 32, 3) := by decide +kernel
theorem dX0_move_72 : decode cX0_move 72 = .ok (.iconst 2, 1) := by decide +kernel
theorem dX0_move_73 : decode cX0_move 73 = .ok (.iload_n 2, 1) := by decide +kernel
theorem dX0_move_74 : decode cX0_move 74 = .ok (.imul, 1) := by decide +kernel
theorem dX0_move_75 : decode cX0_move 75 = .ok (.iload_n 3, 1) := by decide +kernel
theorem dX0_move_76 : decode cX0_move 76 = .ok (.iadd, 1) := by decide +kernel
theorem dX0_move_77 : decode cX0_move 77 = .ok (.iload 5, 2) := by decide +kernel
theorem dX0_move_79 : decode cX0_move 79 = .ok (.aload_n 0, 1) := by decide +kernel
theorem dX0_move_80 : decode cX0_move 80 = .ok (.getfield 32, 3) := by decide +kernel
theorem dX0_move_83 : decode cX0_move 83 = .ok (.iload 4, 2) := by decide +kernel
theorem dX0_move_85 : decode cX0_move 85 = .ok (.iload 5, 2) := by decide +kernel
theorem dX0_move_87 : decode cX0_move 87 = .ok (.invokevirtual 68, 3) := by decide +kernel
theorem dX0_move_90 : decode cX0_move 90 = .ok (.invokevirtual 53, 3) := by decide +kernel
theorem dX0_move_93 : decode cX0_move 93 = .ok (.iinc 5 1, 3) := by decide +kernel
theorem dX0_move_96 : decode cX0_move 96 = .ok (.goto (-42), 3) := by decide +kernel
theorem dX0_move_99 : decode cX0_move 99 = .ok (.iinc 3 1, 3) := by decide +kernel
theorem dX0_move_102 : decode cX0_move 102 = .ok (.goto (-84), 3) := by decide +kernel
theorem dX0_move_105 : decode cX0_move 105 = .ok (.return_, 1) := by decide +kernel
theorem dX1_init_0 : decode cX1_init 0 = .ok (.aload_n 0, 1) := by decide +kernel
theorem dX1_init_1 : decode cX1_init 1 = .ok (.invokespecial 3, 3) := by decide +kernel
theorem dX1_init_4 : decode cX1_init 4 = .ok (.aload_n 0, 1) := by decide +kernel
theorem dX1_init_5 : decode cX1_init 5 = .ok (.new 9, 3) := by decide +kernel
theorem dX1_init_8 : decode cX1_init 8 = .ok (.dup, 1) := by decide +kernel
theorem dX1_init_9 : decode cX1_init 9 = .ok (.bipush 8, 2) := by decide +kernel
theorem dX1_init_11 : decode cX1_init 11 = .ok (.invokespecial 11, 3) := by decide +kernel
theorem dX1_init_14 : decode cX1_init 14 = .ok (.putfield 14, 3) := by decide +kernel
theorem dX1_init_17 : decode cX1_init 17 = .ok (.aload_n 0, 1) := by decide +kernel
theorem dX1_init_18 : decode cX1_init 18 = .ok (.new 9, 3) := by decide +kernel
theorem dX1_init_21 : decode cX1_init 21 = .ok (.dup, 1) := by decide +kernel
theorem dX1_init_22 : decode cX1_init 22 = .ok (.bipush 14, 2) := by decide +kernel
theorem dX1_init_24 : decode cX1_init 24 = .ok (.invokespecial 11, 3) := by decide +kernel
theorem dX1_init_27 : decode cX1_init 27 = .ok (.putfield 20, 3) := by decide +kernel
theorem dX1_init_30 : decode cX1_init 30 = .ok (.return_, 1) := by decide +kernel
theorem dX1_clear_0 : decode cX1_clear 0 = .ok (.aload_n 0, 1) := by decide +kernel
theorem dX1_clear_1 : decode cX1_clear 1 = .ok (.getfield 14, 3) := by decide +kernel
theorem dX1_clear_4 : decode cX1_clear 4 = .ok (.iconst 2, 1) := by decide +kernel
theorem dX1_clear_5 : decode cX1_clear 5 = .ok (.invokevirtual 23, 3) := by decide +kernel
theorem dX1_clear_8 : decode cX1_clear 8 = .ok (.return_, 1) := by decide +kernel
theorem dX1_become_0 : decode cX1_become 0 = .ok (.aload_n 0, 1) := by decide +kernel
theorem dX1_become_1 : decode cX1_become 1 = .ok (.getfield 14, 3) := by decide +kernel
theorem dX1_become_4 : decode cX1_become 4 = .ok (.aload_n 1, 1) := by decide +kernel
theorem dX1_become_5 : decode cX1_become 5 = .ok (.getfield 14, 3) := by decide +kernel
theorem dX1_become_8 : decode cX1_become 8 = .ok (.invokevirtual 26, 3) := by decide +kernel
theorem dX1_become_11 : decode cX1_become 11 = .ok (.aload_n 0, 1) := by decide +kernel
theorem dX1_become_12 : decode cX1_become 12 = .ok (.getfield 20, 3) := by decide +kernel
theorem dX1_become_15 : decode cX1_become 15 = .ok (.aload_n 1, 1) := by decide +kernel
theorem dX1_become_16 : decode cX1_become 16 = .ok (.getfield 20, 3) := by decide +kernel
theorem dX1_become_19 : decode cX1_become 19 = .ok (.invokevirtual 26, 3) := by decide +kernel
theorem dX1_become_22 : decode cX1_become 22 = .ok (.return_, 1) := by decide +kernel
theorem dX1_size_0 : decode cX1_size 0 = .ok (.aload_n 0, 1) := by decide +kernel
theorem dX1_size_1 : decode cX1_size 1 = .ok (.getfield 14, 3) := by decide +kernel
theorem dX1_size_4 : decode cX1_size 4 = .ok (.iload_n 1, 1) := by decide +kernel
theorem dX1_size_5 : decode cX1_size 5 = .ok (.invokevirtual 30, 3) := by decide +kernel
theorem dX1_size_8 : decode cX1_size 8 = .ok (.ireturn, 1) := by decide +kernel
theorem dX1_resize_0 : decode cX1_resize 0 = .ok (.aload_n 0, 1) := by decide +kernel
theorem dX1_resize_1 : decode cX1_resize 1 = .ok (.getfield 14, 3) := by decide +kernel
theorem dX1_resize_4 : decode cX1_resize 4 = .ok (.iload_n 1, 1) := by decide +kernel
theorem dX1_resize_5 : decode cX1_resize 5 = .ok (.iload_n 2, 1) := by decide +kernel
theorem dX1_resize_6 : decode cX1_resize 6 = .ok (.invokevirtual 34, 3) := by decide +kernel
theorem dX1_resize_9 : decode cX1_resize 9 = .ok (.return_, 1) := by decide +kernel
theorem dX1_code_0 : decode cX1_code 0 = .ok (.aload_n 0, 1) := by decide +kernel
theorem dX1_code_1 : decode cX1_code 1 = .ok (.getfield 20, 3) := by decide +kernel
theorem dX1_code_4 : decode cX1_code 4 = .ok (.iload_n 1, 1) := by decide +kernel
theorem dX1_code_5 : decode cX1_code 5 = .ok (.invokevirtual 30, 3) := by decide +kernel
theorem dX1_code_8 : decode cX1_code 8 = .ok (.ireturn, 1) := by decide +kernel
theorem dX1_setCode_0 : decode cX1_setCode 0 = .ok (.aload_n 0, 1) := by decide +kernel
theorem dX1_setCode_1 : decode cX1_setCode 1 = .ok (.getfield 20, 3) := by decide +kernel
theorem dX1_setCode_4 : decode cX1_setCode 4 = .ok (.iload_n 1, 1) := by decide +kernel
theorem dX1_setCode_5 : decode cX1_setCode 5 = .ok (.iload_n 2, 1) := by decide +kernel
theorem dX1_setCode_6 : decode cX1_setCode 6 = .ok (.invokevirtual 34, 3) := by decide +kernel
theorem dX1_setCode_9 : decode cX1_setCode 9 = .ok (.return_, 1) := by decide +kernel
theorem dX1_value_0 : decode cX1_value 0 = .ok (.aload_n 0, 1) := by decide +kernel
theorem dX1_value_1 : decode cX1_value 1 = .ok (.getfield 20, 3) := by decide +kernel
theorem dX1_value_4 : decode cX1_value 4 = .ok (.iload_n 1, 1) := by decide +kernel
theorem dX1_value_5 : decode cX1_value 5 = .ok (.invokevirtual 30, 3) := by decide +kernel
theorem dX1_value_8 : decode cX1_value 8 = .ok (.iload_n 2, 1) := by decide +kernel
theorem dX1_value_9 : decode cX1_value 9 = .ok (.invokestatic 38, 3) := by decide +kernel
theorem dX1_value_12 : decode cX1_value 12 = .ok (.ireturn, 1) := by decide +kernel
theorem dX1_valueAlong_0 : decode cX1_valueAlong 0 = .ok (.iload_n 3, 1) := by decide +kernel
theorem dX1_valueAlong_1 : decode cX1_valueAlong 1 = .ok (.istore 4, 2) := by decide +kernel
theorem dX1_valueAlong_3 : decode cX1_valueAlong 3 = .ok (.iconst 0, 1) := by decide +kernel
theorem dX1_valueAlong_4 : decode cX1_valueAlong 4 = .ok (.istore 5, 2) := by decide +kernel
theorem dX1_valueAlong_6 : decode cX1_valueAlong 6 = .ok (.iload 5, 2) := by decide +kernel
theorem dX1_valueAlong_8 : decode cX1_valueAlong 8 = .ok (.aload_n 1, 1) := by decide +kernel
theorem dX1_valueAlong_9 : decode cX1_valueAlong 9 = .ok (.getfield 42, 3) := by decide +kernel
theorem dX1_valueAlong_12 : decode cX1_valueAlong 12 = .ok (.iload_n 2, 1) := by decide +kernel
theorem dX1_valueAlong_13 : decode cX1_valueAlong 13 = .ok (.invokevirtual 30, 3) := by decide +kernel
theorem dX1_valueAlong_16 : decode cX1_valueAlong 16 = .ok (.if_icmp .ge 33, 3) := by decide +kernel
theorem dX1_valueAlong_19 : decode cX1_valueAlong 19 = .ok (.aload_n 0, 1) := by decide +kernel
theorem dX1_valueAlong_20 : decode cX1_valueAlong 20 = .ok (.getfield 20, 3) := by decide +kernel
theorem dX1_valueAlong_23 : decode cX1_valueAlong 23 = .ok (.aload_n 1, 1) := by decide +kernel
theorem dX1_valueAlong_24 : decode cX1_valueAlong 24 = .ok (.getfield 47, 3) := by decide +kernel
theorem dX1_valueAlong_27 : decode cX1_valueAlong 27 = .ok (.iload_n 2, 1) := by decide +kernel
theorem dX1_valueAlong_28 : decode cX1_valueAlong 28 = .ok (.iload 5, 2) := by decide +kernel
theorem dX1_valueAlong_30 : decode cX1_valueAlong 30 = .ok (.invokevirtual 51, 3) := by decide +kernel
theorem dX1_valueAlong_33 : decode cX1_valueAlong 33 = .ok (.invokevirtual 30, 3) := by decide +kernel
theorem dX1_valueAlong_36 : decode cX1_valueAlong 36 = .ok (.iload 4, 2) := by decide +kernel
theorem dX1_valueAlong_38 : decode cX1_valueAlong 38 = .ok (.invokestatic 38, 3) := by decide +kernel
theorem dX1_valueAlong_41 : decode cX1_valueAlong 41 = .ok (.istore 4, 2) := by decide +kernel
theorem dX1_valueAlong_43 : decode cX1_valueAlong 43 = .ok (.iinc 5 1, 3) := by decide +kernel
theorem dX1_valueAlong_46 : decode cX1_valueAlong 46 = .ok (.goto (-40), 3) := by decide +kernel
theorem dX1_valueAlong_49 : decode cX1_valueAlong 49 = .ok (.iload 4, 2) := by decide +kernel
theorem dX1_valueAlong_51 : decode cX1_valueAlong 51 = .ok (.ireturn, 1) := by decide +kernel
theorem dX1_imageSize_0 : decode cX1_imageSize 0 = .ok (.iconst 0, 1) := by decide +kernel
theorem dX1_imageSize_1 : decode cX1_imageSize 1 = .ok (.istore_n 3, 1) := by decide +kernel
theorem dX1_imageSize_2 : decode cX1_imageSize 2 = .ok (.iconst 0, 1) := by decide +kernel
theorem dX1_imageSize_3 : decode cX1_imageSize 3 = .ok (.istore 4, 2) := by decide +kernel
theorem dX1_imageSize_5 : decode cX1_imageSize 5 = .ok (.iload 4, 2) := by decide +kernel
theorem dX1_imageSize_7 : decode cX1_imageSize 7 = .ok (.aload_n 0, 1) := by decide +kernel
theorem dX1_imageSize_8 : decode cX1_imageSize 8 = .ok (.getfield 14, 3) := by decide +kernel
theorem dX1_imageSize_11 : decode cX1_imageSize 11 = .ok (.aload_n 1, 1) := by decide +kernel
theorem dX1_imageSize_12 : decode cX1_imageSize 12 = .ok (.getfield 55, 3) := by decide +kernel
theorem dX1_imageSize_15 : decode cX1_imageSize 15 = .ok (.iload_n 2, 1) := by decide +kernel
theorem dX1_imageSize_16 : decode cX1_imageSize 16 = .ok (.invokevirtual 30, 3) := by decide +kernel
theorem dX1_imageSize_19 : decode cX1_imageSize 19 = .ok (.invokevirtual 30, 3) := by decide +kernel
theorem dX1_imageSize_22 : decode cX1_imageSize 22 = .ok (.if_icmp .ge 22, 3) := by decide +kernel
theorem dX1_imageSize_25 : decode cX1_imageSize 25 = .ok (.iload_n 3, 1) := by decide +kernel
theorem dX1_imageSize_26 : decode cX1_imageSize 26 = .ok (.iconst 1, 1) := by decide +kernel
theorem dX1_imageSize_27 : decode cX1_imageSize 27 = .ok (.aload_n 0, 1) := by decide +kernel
theorem dX1_imageSize_28 : decode cX1_imageSize 28 = .ok (.aload_n 1, 1) := by decide +kernel
theorem dX1_imageSize_29 : decode cX1_imageSize 29 = .ok (.iload_n 2, 1) := by decide +kernel
theorem dX1_imageSize_30 : decode cX1_imageSize 30 = .ok (.iload 4, 2) := by decide +kernel
theorem dX1_imageSize_32 : decode cX1_imageSize 32 = .ok (.invokevirtual 58, 3) := by decide +kernel
theorem dX1_imageSize_35 : decode cX1_imageSize 35 = .ok (.ishl, 1) := by decide +kernel
theorem dX1_imageSize_36 : decode cX1_imageSize 36 = .ok (.ior, 1) := by decide +kernel
theorem dX1_imageSize_37 : decode cX1_imageSize 37 = .ok (.istore_n 3, 1) := by decide +kernel
theorem dX1_imageSize_38 : decode cX1_imageSize 38 = .ok (.iinc 4 1, 3) := by decide +kernel
theorem dX1_imageSize_41 : decode cX1_imageSize 41 = .ok (.goto (-36), 3) := by decide +kernel
theorem dX1_imageSize_44 : decode cX1_imageSize 44 = .ok (.iload_n 3, 1) := by decide +kernel
theorem dX1_imageSize_45 : decode cX1_imageSize 45 = .ok (.invokestatic 62, 3) := by decide +kernel
theorem dX1_imageSize_48 : decode cX1_imageSize 48 = .ok (.ireturn, 1) := by decide +kernel
theorem dX1_agree_0 : decode cX1_agree 0 = .ok (.iconst 0, 1) := by decide +kernel
theorem dX1_agree_1 : decode cX1_agree 1 = .ok (.istore 4, 2) := by decide +kernel
theorem dX1_agree_3 : decode cX1_agree 3 = .ok (.iload 4, 2) := by decide +kernel
theorem dX1_agree_5 : decode cX1_agree 5 = .ok (.aload_n 0, 1) := by decide +kernel
theorem dX1_agree_6 : decode cX1_agree 6 = .ok (.getfield 14, 3) := by decide +kernel
theorem dX1_agree_9 : decode cX1_agree 9 = .ok (.aload_n 1, 1) := by decide +kernel
theorem dX1_agree_10 : decode cX1_agree 10 = .ok (.getfield 55, 3) := by decide +kernel
theorem dX1_agree_13 : decode cX1_agree 13 = .ok (.iload_n 2, 1) := by decide +kernel
theorem dX1_agree_14 : decode cX1_agree 14 = .ok (.invokevirtual 30, 3) := by decide +kernel
theorem dX1_agree_17 : decode cX1_agree 17 = .ok (.invokevirtual 30, 3) := by decide +kernel
theorem dX1_agree_20 : decode cX1_agree 20 = .ok (.if_icmp .ge 30, 3) := by decide +kernel
theorem dX1_agree_23 : decode cX1_agree 23 = .ok (.aload_n 0, 1) := by decide +kernel
theorem dX1_agree_24 : decode cX1_agree 24 = .ok (.aload_n 1, 1) := by decide +kernel
theorem dX1_agree_25 : decode cX1_agree 25 = .ok (.iload_n 2, 1) := by decide +kernel
theorem dX1_agree_26 : decode cX1_agree 26 = .ok (.iload 4, 2) := by decide +kernel
theorem dX1_agree_28 : decode cX1_agree 28 = .ok (.invokevirtual 58, 3) := by decide +kernel
theorem dX1_agree_31 : decode cX1_agree 31 = .ok (.aload_n 0, 1) := by decide +kernel
theorem dX1_agree_32 : decode cX1_agree 32 = .ok (.aload_n 1, 1) := by decide +kernel
theorem dX1_agree_33 : decode cX1_agree 33 = .ok (.iload_n 3, 1) := by decide +kernel
theorem dX1_agree_34 : decode cX1_agree 34 = .ok (.iload 4, 2) := by decide +kernel
theorem dX1_agree_36 : decode cX1_agree 36 = .ok (.invokevirtual 58, 3) := by decide +kernel
theorem dX1_agree_39 : decode cX1_agree 39 = .ok (.if_icmp .eq 5, 3) := by decide +kernel
theorem dX1_agree_42 : decode cX1_agree 42 = .ok (.iconst 0, 1) := by decide +kernel
theorem dX1_agree_43 : decode cX1_agree 43 = .ok (.ireturn, 1) := by decide +kernel
theorem dX1_agree_44 : decode cX1_agree 44 = .ok (.iinc 4 1, 3) := by decide +kernel
theorem dX1_agree_47 : decode cX1_agree 47 = .ok (.goto (-44), 3) := by decide +kernel
theorem dX1_agree_50 : decode cX1_agree 50 = .ok (.iconst 1, 1) := by decide +kernel
theorem dX1_agree_51 : decode cX1_agree 51 = .ok (.ireturn, 1) := by decide +kernel
theorem dX1_choose_0 : decode cX1_choose 0 = .ok (.iload_n 1, 1) := by decide +kernel
theorem dX1_choose_1 : decode cX1_choose 1 = .ok (.istore_n 3, 1) := by decide +kernel
theorem dX1_choose_2 : decode cX1_choose 2 = .ok (.iload_n 2, 1) := by decide +kernel
theorem dX1_choose_3 : decode cX1_choose 3 = .ok (.iconst 1, 1) := by decide +kernel
theorem dX1_choose_4 : decode cX1_choose 4 = .ok (.isub, 1) := by decide +kernel
theorem dX1_choose_5 : decode cX1_choose 5 = .ok (.istore 4, 2) := by decide +kernel
theorem dX1_choose_7 : decode cX1_choose 7 = .ok (.iload 4, 2) := by decide +kernel
theorem dX1_choose_9 : decode cX1_choose 9 = .ok (.ifCond .lt 31, 3) := by decide +kernel
theorem dX1_choose_12 : decode cX1_choose 12 = .ok (.aload_n 0, 1) := by decide +kernel
theorem dX1_choose_13 : decode cX1_choose 13 = .ok (.getfield 20, 3) := by decide +kernel
theorem dX1_choose_16 : decode cX1_choose 16 = .ok (.iload 4, 2) := by decide +kernel
theorem dX1_choose_18 : decode cX1_choose 18 = .ok (.iload_n 3, 1) := by decide +kernel
theorem dX1_choose_19 : decode cX1_choose 19 = .ok (.iconst 1, 1) := by decide +kernel
theorem dX1_choose_20 : decode cX1_choose 20 = .ok (.iand, 1) := by decide +kernel
theorem dX1_choose_21 : decode cX1_choose 21 = .ok (.iload_n 3, 1) := by decide +kernel
theorem dX1_choose_22 : decode cX1_choose 22 = .ok (.iconst 2, 1) := by decide +kernel
theorem dX1_choose_23 : decode cX1_choose 23 = .ok (.iand, 1) := by decide +kernel
theorem dX1_choose_24 : decode cX1_choose 24 = .ok (.iconst 1, 1) := by decide +kernel
theorem dX1_choose_25 : decode cX1_choose 25 = .ok (.ishl, 1) := by decide +kernel
theorem dX1_choose_26 : decode cX1_choose 26 = .ok (.ior, 1) := by decide +kernel
theorem dX1_choose_27 : decode cX1_choose 27 = .ok (.invokevirtual 34, 3) := by decide +kernel
theorem dX1_choose_30 : decode cX1_choose 30 = .ok (.iload_n 3, 1) := by decide +kernel
theorem dX1_choose_31 : decode cX1_choose 31 = .ok (.iconst 2, 1) := by decide +kernel
theorem dX1_choose_32 : decode cX1_choose 32 = .ok (.ishr, 1) := by decide +kernel
theorem dX1_choose_33 : decode cX1_choose 33 = .ok (.istore_n 3, 1) := by decide +kernel
theorem dX1_choose_34 : decode cX1_choose 34 = .ok (.iinc 4 (-1), 3) := by decide +kernel
theorem dX1_choose_37 : decode cX1_choose 37 = .ok (.goto (-30), 3) := by decide +kernel
theorem dX1_choose_40 : decode cX1_choose 40 = .ok (.return_, 1) := by decide +kernel
theorem dX1_isCode_0 : decode cX1_isCode 0 = .ok (.iload_n 0, 1) := by decide +kernel
theorem dX1_isCode_1 : decode cX1_isCode 1 = .ok (.ifCond .lt 12, 3) := by decide +kernel
theorem dX1_isCode_4 : decode cX1_isCode 4 = .ok (.iload_n 0, 1) := by decide +kernel
theorem dX1_isCode_5 : decode cX1_isCode 5 = .ok (.iconst 1, 1) := by decide +kernel
theorem dX1_isCode_6 : decode cX1_isCode 6 = .ok (.iconst 2, 1) := by decide +kernel
theorem dX1_isCode_7 : decode cX1_isCode 7 = .ok (.iload_n 1, 1) := by decide +kernel
theorem dX1_isCode_8 : decode cX1_isCode 8 = .ok (.imul, 1) := by decide +kernel
theorem dX1_isCode_9 : decode cX1_isCode 9 = .ok (.ishl, 1) := by decide +kernel
theorem dX1_isCode_10 : decode cX1_isCode 10 = .ok (.if_icmp .lt 5, 3) := by decide +kernel
theorem dX1_isCode_13 : decode cX1_isCode 13 = .ok (.iconst 0, 1) := by decide +kernel
theorem dX1_isCode_14 : decode cX1_isCode 14 = .ok (.ireturn, 1) := by decide +kernel
theorem dX1_isCode_15 : decode cX1_isCode 15 = .ok (.iconst 0, 1) := by decide +kernel
theorem dX1_isCode_16 : decode cX1_isCode 16 = .ok (.istore_n 3, 1) := by decide +kernel
theorem dX1_isCode_17 : decode cX1_isCode 17 = .ok (.iload_n 3, 1) := by decide +kernel
theorem dX1_isCode_18 : decode cX1_isCode 18 = .ok (.iload_n 1, 1) := by decide +kernel
theorem dX1_isCode_19 : decode cX1_isCode 19 = .ok (.if_icmp .ge 20, 3) := by decide +kernel
theorem dX1_isCode_22 : decode cX1_isCode 22 = .ok (.iload_n 0, 1) := by decide +kernel
theorem dX1_isCode_23 : decode cX1_isCode 23 = .ok (.iload_n 3, 1) := by decide +kernel
theorem dX1_isCode_24 : decode cX1_isCode 24 = .ok (.invokestatic 38, 3) := by decide +kernel
theorem dX1_isCode_27 : decode cX1_isCode 27 = .ok (.iload_n 2, 1) := by decide +kernel
theorem dX1_isCode_28 : decode cX1_isCode 28 = .ok (.if_icmp .lt 5, 3) := by decide +kernel
theorem dX1_isCode_31 : decode cX1_isCode 31 = .ok (.iconst 0, 1) := by decide +kernel
theorem dX1_isCode_32 : decode cX1_isCode 32 = .ok (.ireturn, 1) := by decide +kernel
theorem dX1_isCode_33 : decode cX1_isCode 33 = .ok (.iinc 3 1, 3) := by decide +kernel
theorem dX1_isCode_36 : decode cX1_isCode 36 = .ok (.goto (-19), 3) := by decide +kernel
theorem dX1_isCode_39 : decode cX1_isCode 39 = .ok (.iconst 1, 1) := by decide +kernel
theorem dX1_isCode_40 : decode cX1_isCode 40 = .ok (.ireturn, 1) := by decide +kernel
theorem dX1_digit_0 : decode cX1_digit 0 = .ok (.iload_n 0, 1) := by decide +kernel
theorem dX1_digit_1 : decode cX1_digit 1 = .ok (.iconst 2, 1) := by decide +kernel
theorem dX1_digit_2 : decode cX1_digit 2 = .ok (.iload_n 1, 1) := by decide +kernel
theorem dX1_digit_3 : decode cX1_digit 3 = .ok (.imul, 1) := by decide +kernel
theorem dX1_digit_4 : decode cX1_digit 4 = .ok (.ishr, 1) := by decide +kernel
theorem dX1_digit_5 : decode cX1_digit 5 = .ok (.iconst 3, 1) := by decide +kernel
theorem dX1_digit_6 : decode cX1_digit 6 = .ok (.iand, 1) := by decide +kernel
theorem dX1_digit_7 : decode cX1_digit 7 = .ok (.ireturn, 1) := by decide +kernel
theorem dX2_init_0 : decode cX2_init 0 = .ok (.aload_n 0, 1) := by decide +kernel
theorem dX2_init_1 : decode cX2_init 1 = .ok (.invokespecial 3, 3) := by decide +kernel
theorem dX2_init_4 : decode cX2_init 4 = .ok (.aload_n 0, 1) := by decide +kernel
theorem dX2_init_5 : decode cX2_init 5 = .ok (.iconst 0, 1) := by decide +kernel
theorem dX2_init_6 : decode cX2_init 6 = .ok (.putfield 9, 3) := by decide +kernel
theorem dX2_init_9 : decode cX2_init 9 = .ok (.aload_n 0, 1) := by decide +kernel
theorem dX2_init_10 : decode cX2_init 10 = .ok (.iconst 0, 1) := by decide +kernel
theorem dX2_init_11 : decode cX2_init 11 = .ok (.putfield 15, 3) := by decide +kernel
theorem dX2_init_14 : decode cX2_init 14 = .ok (.aload_n 0, 1) := by decide +kernel
theorem dX2_init_15 : decode cX2_init 15 = .ok (.new 18, 3) := by decide +kernel
theorem dX2_init_18 : decode cX2_init 18 = .ok (.dup, 1) := by decide +kernel
theorem dX2_init_19 : decode cX2_init 19 = .ok (.bipush 14, 2) := by decide +kernel
theorem dX2_init_21 : decode cX2_init 21 = .ok (.invokespecial 20, 3) := by decide +kernel
theorem dX2_init_24 : decode cX2_init 24 = .ok (.putfield 23, 3) := by decide +kernel
theorem dX2_init_27 : decode cX2_init 27 = .ok (.aload_n 0, 1) := by decide +kernel
theorem dX2_init_28 : decode cX2_init 28 = .ok (.new 18, 3) := by decide +kernel
theorem dX2_init_31 : decode cX2_init 31 = .ok (.dup, 1) := by decide +kernel
theorem dX2_init_32 : decode cX2_init 32 = .ok (.bipush 14, 2) := by decide +kernel
theorem dX2_init_34 : decode cX2_init 34 = .ok (.invokespecial 20, 3) := by decide +kernel
theorem dX2_init_37 : decode cX2_init 37 = .ok (.putfield 27, 3) := by decide +kernel
theorem dX2_init_40 : decode cX2_init 40 = .ok (.aload_n 0, 1) := by decide +kernel
theorem dX2_init_41 : decode cX2_init 41 = .ok (.new 18, 3) := by decide +kernel
theorem dX2_init_44 : decode cX2_init 44 = .ok (.dup, 1) := by decide +kernel
theorem dX2_init_45 : decode cX2_init 45 = .ok (.bipush 8, 2) := by decide +kernel
theorem dX2_init_47 : decode cX2_init 47 = .ok (.invokespecial 20, 3) := by decide +kernel
theorem dX2_init_50 : decode cX2_init 50 = .ok (.putfield 30, 3) := by decide +kernel
theorem dX2_init_53 : decode cX2_init 53 = .ok (.return_, 1) := by decide +kernel
theorem dX2_clear_0 : decode cX2_clear 0 = .ok (.aload_n 0, 1) := by decide +kernel
theorem dX2_clear_1 : decode cX2_clear 1 = .ok (.iload_n 1, 1) := by decide +kernel
theorem dX2_clear_2 : decode cX2_clear 2 = .ok (.putfield 9, 3) := by decide +kernel
theorem dX2_clear_5 : decode cX2_clear 5 = .ok (.aload_n 0, 1) := by decide +kernel
theorem dX2_clear_6 : decode cX2_clear 6 = .ok (.iconst 0, 1) := by decide +kernel
theorem dX2_clear_7 : decode cX2_clear 7 = .ok (.putfield 15, 3) := by decide +kernel
theorem dX2_clear_10 : decode cX2_clear 10 = .ok (.return_, 1) := by decide +kernel
theorem dX2_become_0 : decode cX2_become 0 = .ok (.aload_n 0, 1) := by decide +kernel
theorem dX2_become_1 : decode cX2_become 1 = .ok (.aload_n 1, 1) := by decide +kernel
theorem dX2_become_2 : decode cX2_become 2 = .ok (.getfield 9, 3) := by decide +kernel
theorem dX2_become_5 : decode cX2_become 5 = .ok (.putfield 9, 3) := by decide +kernel
theorem dX2_become_8 : decode cX2_become 8 = .ok (.aload_n 0, 1) := by decide +kernel
theorem dX2_become_9 : decode cX2_become 9 = .ok (.aload_n 1, 1) := by decide +kernel
theorem dX2_become_10 : decode cX2_become 10 = .ok (.getfield 15, 3) := by decide +kernel
theorem dX2_become_13 : decode cX2_become 13 = .ok (.putfield 15, 3) := by decide +kernel
theorem dX2_become_16 : decode cX2_become 16 = .ok (.aload_n 0, 1) := by decide +kernel
theorem dX2_become_17 : decode cX2_become 17 = .ok (.getfield 23, 3) := by decide +kernel
theorem dX2_become_20 : decode cX2_become 20 = .ok (.aload_n 1, 1) := by decide +kernel
theorem dX2_become_21 : decode cX2_become 21 = .ok (.getfield 23, 3) := by decide +kernel
theorem dX2_become_24 : decode cX2_become 24 = .ok (.invokevirtual 33, 3) := by decide +kernel
theorem dX2_become_27 : decode cX2_become 27 = .ok (.aload_n 0, 1) := by decide +kernel
theorem dX2_become_28 : decode cX2_become 28 = .ok (.getfield 27, 3) := by decide +kernel
theorem dX2_become_31 : decode cX2_become 31 = .ok (.aload_n 1, 1) := by decide +kernel
theorem dX2_become_32 : decode cX2_become 32 = .ok (.getfield 27, 3) := by decide +kernel
theorem dX2_become_35 : decode cX2_become 35 = .ok (.invokevirtual 33, 3) := by decide +kernel
theorem dX2_become_38 : decode cX2_become 38 = .ok (.return_, 1) := by decide +kernel
theorem dX2_objectTotal_0 : decode cX2_objectTotal 0 = .ok (.aload_n 0, 1) := by decide +kernel
theorem dX2_objectTotal_1 : decode cX2_objectTotal 1 = .ok (.getfield 9, 3) := by decide +kernel
theorem dX2_objectTotal_4 : decode cX2_objectTotal 4 = .ok (.ireturn, 1) := by decide +kernel
theorem dX2_arrowTotal_0 : decode cX2_arrowTotal 0 = .ok (.aload_n 0, 1) := by decide +kernel
theorem dX2_arrowTotal_1 : decode cX2_arrowTotal 1 = .ok (.getfield 15, 3) := by decide +kernel
theorem dX2_arrowTotal_4 : decode cX2_arrowTotal 4 = .ok (.ireturn, 1) := by decide +kernel
theorem dX2_hasObject_0 : decode cX2_hasObject 0 = .ok (.iload_n 1, 1) := by decide +kernel
theorem dX2_hasObject_1 : decode cX2_hasObject 1 = .ok (.ifCond .lt 15, 3) := by decide +kernel
theorem dX2_hasObject_4 : decode cX2_hasObject 4 = .ok (.iload_n 1, 1) := by decide +kernel
theorem dX2_hasObject_5 : decode cX2_hasObject 5 = .ok (.aload_n 0, 1) := by decide +kernel
theorem dX2_hasObject_6 : decode cX2_hasObject 6 = .ok (.getfield 9, 3) := by decide +kernel
theorem dX2_hasObject_9 : decode cX2_hasObject 9 = .ok (.if_icmp .ge 7, 3) := by decide +kernel
theorem dX2_hasObject_12 : decode cX2_hasObject 12 = .ok (.iconst 1, 1) := by decide +kernel
theorem dX2_hasObject_13 : decode cX2_hasObject 13 = .ok (.goto 4, 3) := by decide +kernel
theorem dX2_hasObject_16 : decode cX2_hasObject 16 = .ok (.iconst 0, 1) := by decide +kernel
theorem dX2_hasObject_17 : decode cX2_hasObject 17 = .ok (.ireturn, 1) := by decide +kernel
theorem dX2_hasArrow_0 : decode cX2_hasArrow 0 = .ok (.iload_n 1, 1) := by decide +kernel
theorem dX2_hasArrow_1 : decode cX2_hasArrow 1 = .ok (.ifCond .lt 15, 3) := by decide +kernel
theorem dX2_hasArrow_4 : decode cX2_hasArrow 4 = .ok (.iload_n 1, 1) := by decide +kernel
theorem dX2_hasArrow_5 : decode cX2_hasArrow 5 = .ok (.aload_n 0, 1) := by decide +kernel
theorem dX2_hasArrow_6 : decode cX2_hasArrow 6 = .ok (.getfield 15, 3) := by decide +kernel
theorem dX2_hasArrow_9 : decode cX2_hasArrow 9 = .ok (.if_icmp .ge 7, 3) := by decide +kernel
theorem dX2_hasArrow_12 : decode cX2_hasArrow 12 = .ok (.iconst 1, 1) := by decide +kernel
theorem dX2_hasArrow_13 : decode cX2_hasArrow 13 = .ok (.goto 4, 3) := by decide +kernel
theorem dX2_hasArrow_16 : decode cX2_hasArrow 16 = .ok (.iconst 0, 1) := by decide +kernel
theorem dX2_hasArrow_17 : decode cX2_hasArrow 17 = .ok (.ireturn, 1) := by decide +kernel
theorem dX2_from_0 : decode cX2_from 0 = .ok (.aload_n 0, 1) := by decide +kernel
theorem dX2_from_1 : decode cX2_from 1 = .ok (.iload_n 1, 1) := by decide +kernel
theorem dX2_from_2 : decode cX2_from 2 = .ok (.invokevirtual 37, 3) := by decide +kernel
theorem dX2_from_5 : decode cX2_from 5 = .ok (.ifCond .eq 14, 3) := by decide +kernel
theorem dX2_from_8 : decode cX2_from 8 = .ok (.aload_n 0, 1) := by decide +kernel
theorem dX2_from_9 : decode cX2_from 9 = .ok (.getfield 23, 3) := by decide +kernel
theorem dX2_from_12 : decode cX2_from 12 = .ok (.iload_n 1, 1) := by decide +kernel
theorem dX2_from_13 : decode cX2_from 13 = .ok (.invokevirtual 41, 3) := by decide +kernel
theorem dX2_from_16 : decode cX2_from 16 = .ok (.goto 4, 3) := by decide +kernel
theorem dX2_from_19 : decode cX2_from 19 = .ok (.iconst (-1), 1) := by decide +kernel
theorem dX2_from_20 : decode cX2_from 20 = .ok (.ireturn, 1) := by decide +kernel
theorem dX2_to_0 : decode cX2_to 0 = .ok (.aload_n 0, 1) := by decide +kernel
theorem dX2_to_1 : decode cX2_to 1 = .ok (.iload_n 1, 1) := by decide +kernel
theorem dX2_to_2 : decode cX2_to 2 = .ok (.invokevirtual 37, 3) := by decide +kernel
theorem dX2_to_5 : decode cX2_to 5 = .ok (.ifCond .eq 14, 3) := by decide +kernel
theorem dX2_to_8 : decode cX2_to 8 = .ok (.aload_n 0, 1) := by decide +kernel
theorem dX2_to_9 : decode cX2_to 9 = .ok (.getfield 27, 3) := by decide +kernel
theorem dX2_to_12 : decode cX2_to 12 = .ok (.iload_n 1, 1) := by decide +kernel
theorem dX2_to_13 : decode cX2_to 13 = .ok (.invokevirtual 41, 3) := by decide +kernel
theorem dX2_to_16 : decode cX2_to 16 = .ok (.goto 4, 3) := by decide +kernel
theorem dX2_to_19 : decode cX2_to 19 = .ok (.iconst (-1), 1) := by decide +kernel
theorem dX2_to_20 : decode cX2_to 20 = .ok (.ireturn, 1) := by decide +kernel
theorem dX2_join_0 : decode cX2_join 0 = .ok (.aload_n 0, 1) := by decide +kernel
theorem dX2_join_1 : decode cX2_join 1 = .ok (.getfield 23, 3) := by decide +kernel
theorem dX2_join_4 : decode cX2_join 4 = .ok (.aload_n 0, 1) := by decide +kernel
theorem dX2_join_5 : decode cX2_join 5 = .ok (.getfield 15, 3) := by decide +kernel
theorem dX2_join_8 : decode cX2_join 8 = .ok (.iload_n 1, 1) := by decide +kernel
theorem dX2_join_9 : decode cX2_join 9 = .ok (.invokevirtual 45, 3) := by decide +kernel
theorem dX2_join_12 : decode cX2_join 12 = .ok (.aload_n 0, 1) := by decide +kernel
theorem dX2_join_13 : decode cX2_join 13 = .ok (.getfield 27, 3) := by decide +kernel
theorem dX2_join_16 : decode cX2_join 16 = .ok (.aload_n 0, 1) := by decide +kernel
theorem dX2_join_17 : decode cX2_join 17 = .ok (.getfield 15, 3) := by decide +kernel
theorem dX2_join_20 : decode cX2_join 20 = .ok (.iload_n 2, 1) := by decide +kernel
theorem dX2_join_21 : decode cX2_join 21 = .ok (.invokevirtual 45, 3) := by decide +kernel
theorem dX2_join_24 : decode cX2_join 24 = .ok (.aload_n 0, 1) := by decide +kernel
theorem dX2_join_25 : decode cX2_join 25 = .ok (.dup, 1) := by decide +kernel
theorem dX2_join_26 : decode cX2_join 26 = .ok (.getfield 15, 3) := by decide +kernel
theorem dX2_join_29 : decode cX2_join 29 = .ok (.iconst 1, 1) := by decide +kernel
theorem dX2_join_30 : decode cX2_join 30 = .ok (.iadd, 1) := by decide +kernel
theorem dX2_join_31 : decode cX2_join 31 = .ok (.putfield 15, 3) := by decide +kernel
theorem dX2_join_34 : decode cX2_join 34 = .ok (.aload_n 0, 1) := by decide +kernel
theorem dX2_join_35 : decode cX2_join 35 = .ok (.getfield 15, 3) := by decide +kernel
theorem dX2_join_38 : decode cX2_join 38 = .ok (.iconst 1, 1) := by decide +kernel
theorem dX2_join_39 : decode cX2_join 39 = .ok (.isub, 1) := by decide +kernel
theorem dX2_join_40 : decode cX2_join 40 = .ok (.ireturn, 1) := by decide +kernel
theorem dX2_dropLast_0 : decode cX2_dropLast 0 = .ok (.aload_n 0, 1) := by decide +kernel
theorem dX2_dropLast_1 : decode cX2_dropLast 1 = .ok (.dup, 1) := by decide +kernel
theorem dX2_dropLast_2 : decode cX2_dropLast 2 = .ok (.getfield 15, 3) := by decide +kernel
theorem dX2_dropLast_5 : decode cX2_dropLast 5 = .ok (.iconst 1, 1) := by decide +kernel
theorem dX2_dropLast_6 : decode cX2_dropLast 6 = .ok (.isub, 1) := by decide +kernel
theorem dX2_dropLast_7 : decode cX2_dropLast 7 = .ok (.putfield 15, 3) := by decide +kernel
theorem dX2_dropLast_10 : decode cX2_dropLast 10 = .ok (.return_, 1) := by decide +kernel
theorem dX2_pathTotal_0 : decode cX2_pathTotal 0 = .ok (.iconst 0, 1) := by decide +kernel
theorem dX2_pathTotal_1 : decode cX2_pathTotal 1 = .ok (.istore_n 1, 1) := by decide +kernel
theorem dX2_pathTotal_2 : decode cX2_pathTotal 2 = .ok (.aload_n 0, 1) := by decide +kernel
theorem dX2_pathTotal_3 : decode cX2_pathTotal 3 = .ok (.iconst (-1), 1) := by decide +kernel
theorem dX2_pathTotal_4 : decode cX2_pathTotal 4 = .ok (.invokevirtual 49, 3) := by decide +kernel
theorem dX2_pathTotal_7 : decode cX2_pathTotal 7 = .ok (.iconst 0, 1) := by decide +kernel
theorem dX2_pathTotal_8 : decode cX2_pathTotal 8 = .ok (.istore_n 2, 1) := by decide +kernel
theorem dX2_pathTotal_9 : decode cX2_pathTotal 9 = .ok (.iload_n 2, 1) := by decide +kernel
theorem dX2_pathTotal_10 : decode cX2_pathTotal 10 = .ok (.aload_n 0, 1) := by decide +kernel
theorem dX2_pathTotal_11 : decode cX2_pathTotal 11 = .ok (.getfield 9, 3) := by decide +kernel
theorem dX2_pathTotal_14 : decode cX2_pathTotal 14 = .ok (.if_icmp .ge 20, 3) := by decide +kernel
theorem dX2_pathTotal_17 : decode cX2_pathTotal 17 = .ok (.iload_n 1, 1) := by decide +kernel
theorem dX2_pathTotal_18 : decode cX2_pathTotal 18 = .ok (.aload_n 0, 1) := by decide +kernel
theorem dX2_pathTotal_19 : decode cX2_pathTotal 19 = .ok (.getfield 30, 3) := by decide +kernel
theorem dX2_pathTotal_22 : decode cX2_pathTotal 22 = .ok (.iload_n 2, 1) := by decide +kernel
theorem dX2_pathTotal_23 : decode cX2_pathTotal 23 = .ok (.invokevirtual 41, 3) := by decide +kernel
theorem dX2_pathTotal_26 : decode cX2_pathTotal 26 = .ok (.iadd, 1) := by decide +kernel
theorem dX2_pathTotal_27 : decode cX2_pathTotal 27 = .ok (.istore_n 1, 1) := by decide +kernel
theorem dX2_pathTotal_28 : decode cX2_pathTotal 28 = .ok (.iinc 2 1, 3) := by decide +kernel
theorem dX2_pathTotal_31 : decode cX2_pathTotal 31 = .ok (.goto (-22), 3) := by decide +kernel
theorem dX2_pathTotal_34 : decode cX2_pathTotal 34 = .ok (.iload_n 1, 1) := by decide +kernel
theorem dX2_pathTotal_35 : decode cX2_pathTotal 35 = .ok (.ireturn, 1) := by decide +kernel
theorem dX2_pathsThrough_0 : decode cX2_pathsThrough 0 = .ok (.aload_n 0, 1) := by decide +kernel
theorem dX2_pathsThrough_1 : decode cX2_pathsThrough 1 = .ok (.iconst (-1), 1) := by decide +kernel
theorem dX2_pathsThrough_2 : decode cX2_pathsThrough 2 = .ok (.invokevirtual 49, 3) := by decide +kernel
theorem dX2_pathsThrough_5 : decode cX2_pathsThrough 5 = .ok (.aload_n 0, 1) := by decide +kernel
theorem dX2_pathsThrough_6 : decode cX2_pathsThrough 6 = .ok (.getfield 30, 3) := by decide +kernel
theorem dX2_pathsThrough_9 : decode cX2_pathsThrough 9 = .ok (.iload_n 1, 1) := by decide +kernel
theorem dX2_pathsThrough_10 : decode cX2_pathsThrough 10 = .ok (.invokevirtual 41, 3) := by decide +kernel
theorem dX2_pathsThrough_13 : decode cX2_pathsThrough 13 = .ok (.istore_n 3, 1) := by decide +kernel
theorem dX2_pathsThrough_14 : decode cX2_pathsThrough 14 = .ok (.iconst 0, 1) := by decide +kernel
theorem dX2_pathsThrough_15 : decode cX2_pathsThrough 15 = .ok (.istore 4, 2) := by decide +kernel
theorem dX2_pathsThrough_17 : decode cX2_pathsThrough 17 = .ok (.aload_n 0, 1) := by decide +kernel
theorem dX2_pathsThrough_18 : decode cX2_pathsThrough 18 = .ok (.iload_n 2, 1) := by decide +kernel
theorem dX2_pathsThrough_19 : decode cX2_pathsThrough 19 = .ok (.invokevirtual 49, 3) := by decide +kernel
theorem dX2_pathsThrough_22 : decode cX2_pathsThrough 22 = .ok (.iconst 0, 1) := by decide +kernel
theorem dX2_pathsThrough_23 : decode cX2_pathsThrough 23 = .ok (.istore 5, 2) := by decide +kernel
theorem dX2_pathsThrough_25 : decode cX2_pathsThrough 25 = .ok (.iload 5, 2) := by decide +kernel
theorem dX2_pathsThrough_27 : decode cX2_pathsThrough 27 = .ok (.aload_n 0, 1) := by decide +kernel
theorem dX2_pathsThrough_28 : decode cX2_pathsThrough 28 = .ok (.getfield 9, 3) := by decide +kernel
theorem dX2_pathsThrough_31 : decode cX2_pathsThrough 31 = .ok (.if_icmp .ge 23, 3) := by decide +kernel
theorem dX2_pathsThrough_34 : decode cX2_pathsThrough 34 = .ok (.iload 4, 2) := by decide +kernel
theorem dX2_pathsThrough_36 : decode cX2_pathsThrough 36 = .ok (.aload_n 0, 1) := by decide +kernel
theorem dX2_pathsThrough_37 : decode cX2_pathsThrough 37 = .ok (.getfield 30, 3) := by decide +kernel
theorem dX2_pathsThrough_40 : decode cX2_pathsThrough 40 = .ok (.iload 5, 2) := by decide +kernel
theorem dX2_pathsThrough_42 : decode cX2_pathsThrough 42 = .ok (.invokevirtual 41, 3) := by decide +kernel
theorem dX2_pathsThrough_45 : decode cX2_pathsThrough 45 = .ok (.iadd, 1) := by decide +kernel
theorem dX2_pathsThrough_46 : decode cX2_pathsThrough 46 = .ok (.istore 4, 2) := by decide +kernel
theorem dX2_pathsThrough_48 : decode cX2_pathsThrough 48 = .ok (.iinc 5 1, 3) := by decide +kernel
theorem dX2_pathsThrough_51 : decode cX2_pathsThrough 51 = .ok (.goto (-26), 3) := by decide +kernel
theorem dX2_pathsThrough_54 : decode cX2_pathsThrough 54 = .ok (.iload_n 3, 1) := by decide +kernel
theorem dX2_pathsThrough_55 : decode cX2_pathsThrough 55 = .ok (.iload 4, 2) := by decide +kernel
theorem dX2_pathsThrough_57 : decode cX2_pathsThrough 57 = .ok (.imul, 1) := by decide +kernel
theorem dX2_pathsThrough_58 : decode cX2_pathsThrough 58 = .ok (.ireturn, 1) := by decide +kernel
theorem dX2_countFrom_0 : decode cX2_countFrom 0 = .ok (.iconst 0, 1) := by decide +kernel
theorem dX2_countFrom_1 : decode cX2_countFrom 1 = .ok (.istore_n 2, 1) := by decide +kernel
theorem dX2_countFrom_2 : decode cX2_countFrom 2 = .ok (.iload_n 2, 1) := by decide +kernel
theorem dX2_countFrom_3 : decode cX2_countFrom 3 = .ok (.aload_n 0, 1) := by decide +kernel
theorem dX2_countFrom_4 : decode cX2_countFrom 4 = .ok (.getfield 9, 3) := by decide +kernel
theorem dX2_countFrom_7 : decode cX2_countFrom 7 = .ok (.if_icmp .ge 84, 3) := by decide +kernel
theorem dX2_countFrom_10 : decode cX2_countFrom 10 = .ok (.iload_n 1, 1) := by decide +kernel
theorem dX2_countFrom_11 : decode cX2_countFrom 11 = .ok (.iconst (-1), 1) := by decide +kernel
theorem dX2_countFrom_12 : decode cX2_countFrom 12 = .ok (.if_icmp .eq 8, 3) := by decide +kernel
theorem dX2_countFrom_15 : decode cX2_countFrom 15 = .ok (.iload_n 1, 1) := by decide +kernel
theorem dX2_countFrom_16 : decode cX2_countFrom 16 = .ok (.iload_n 2, 1) := by decide +kernel
theorem dX2_countFrom_17 : decode cX2_countFrom 17 = .ok (.if_icmp .ne 7, 3) := by decide +kernel
theorem dX2_countFrom_20 : decode cX2_countFrom 20 = .ok (.iconst 1, 1) := by decide +kernel
theorem dX2_countFrom_21 : decode cX2_countFrom 21 = .ok (.goto 4, 3) := by decide +kernel
theorem dX2_countFrom_24 : decode cX2_countFrom 24 = .ok (.iconst 0, 1) := by decide +kernel
theorem dX2_countFrom_25 : decode cX2_countFrom 25 = .ok (.istore_n 3, 1) := by decide +kernel
theorem dX2_countFrom_26 : decode cX2_countFrom 26 = .ok (.iconst 0, 1) := by decide +kernel
theorem dX2_countFrom_27 : decode cX2_countFrom 27 = .ok (.istore 4, 2) := by decide +kernel
theorem dX2_countFrom_29 : decode cX2_countFrom 29 = .ok (.iload 4, 2) := by decide +kernel
theorem dX2_countFrom_31 : decode cX2_countFrom 31 = .ok (.aload_n 0, 1) := by decide +kernel
theorem dX2_countFrom_32 : decode cX2_countFrom 32 = .ok (.getfield 15, 3) := by decide +kernel
theorem dX2_countFrom_35 : decode cX2_countFrom 35 = .ok (.if_icmp .ge 41, 3) := by decide +kernel
theorem dX2_countFrom_38 : decode cX2_countFrom 38 = .ok (.aload_n 0, 1) := by decide +kernel
theorem dX2_countFrom_39 : decode cX2_countFrom 39 = .ok (.getfield 27, 3) := by decide +kernel
theorem dX2_countFrom_42 : decode cX2_countFrom 42 = .ok (.iload 4, 2) := by decide +kernel
theorem dX2_countFrom_44 : decode cX2_countFrom 44 = .ok (.invokevirtual 41, 3) := by decide +kernel
theorem dX2_countFrom_47 : decode cX2_countFrom 47 = .ok (.iload_n 2, 1) := by decide +kernel
theorem dX2_countFrom_48 : decode cX2_countFrom 48 = .ok (.if_icmp .ne 22, 3) := by decide +kernel
theorem dX2_countFrom_51 : decode cX2_countFrom 51 = .ok (.iload_n 3, 1) := by decide +kernel
theorem dX2_countFrom_52 : decode cX2_countFrom 52 = .ok (.aload_n 0, 1) := by decide +kernel
theorem dX2_countFrom_53 : decode cX2_countFrom 53 = .ok (.getfield 30, 3) := by decide +kernel
theorem dX2_countFrom_56 : decode cX2_countFrom 56 = .ok (.aload_n 0, 1) := by decide +kernel
theorem dX2_countFrom_57 : decode cX2_countFrom 57 = .ok (.getfield 23, 3) := by decide +kernel
theorem dX2_countFrom_60 : decode cX2_countFrom 60 = .ok (.iload 4, 2) := by decide +kernel
theorem dX2_countFrom_62 : decode cX2_countFrom 62 = .ok (.invokevirtual 41, 3) := by decide +kernel
theorem dX2_countFrom_65 : decode cX2_countFrom 65 = .ok (.invokevirtual 41, 3) := by decide +kernel
theorem dX2_countFrom_68 : decode cX2_countFrom 68 = .ok (.iadd, 1) := by decide +kernel
theorem dX2_countFrom_69 : decode cX2_countFrom 69 = .ok (.istore_n 3, 1) := by decide +kernel
theorem dX2_countFrom_70 : decode cX2_countFrom 70 = .ok (.iinc 4 1, 3) := by decide +kernel
theorem dX2_countFrom_73 : decode cX2_countFrom 73 = .ok (.goto (-44), 3) := by decide +kernel
theorem dX2_countFrom_76 : decode cX2_countFrom 76 = .ok (.aload_n 0, 1) := by decide +kernel
theorem dX2_countFrom_77 : decode cX2_countFrom 77 = .ok (.getfield 30, 3) := by decide +kernel
theorem dX2_countFrom_80 : decode cX2_countFrom 80 = .ok (.iload_n 2, 1) := by decide +kernel
theorem dX2_countFrom_81 : decode cX2_countFrom 81 = .ok (.iload_n 3, 1) := by decide +kernel
theorem dX2_countFrom_82 : decode cX2_countFrom 82 = .ok (.invokevirtual 45, 3) := by decide +kernel
theorem dX2_countFrom_85 : decode cX2_countFrom 85 = .ok (.iinc 2 1, 3) := by decide +kernel
theorem dX2_countFrom_88 : decode cX2_countFrom 88 = .ok (.goto (-86), 3) := by decide +kernel
theorem dX2_countFrom_91 : decode cX2_countFrom 91 = .ok (.return_, 1) := by decide +kernel
theorem dX3_init_0 : decode cX3_init 0 = .ok (.aload_n 0, 1) := by decide +kernel
theorem dX3_init_1 : decode cX3_init 1 = .ok (.invokespecial 3, 3) := by decide +kernel
theorem dX3_init_4 : decode cX3_init 4 = .ok (.aload_n 0, 1) := by decide +kernel
theorem dX3_init_5 : decode cX3_init 5 = .ok (.iload_n 1, 1) := by decide +kernel
theorem dX3_init_6 : decode cX3_init 6 = .ok (.ifCond .le 7, 3) := by decide +kernel
theorem dX3_init_9 : decode cX3_init 9 = .ok (.iload_n 1, 1) := by decide +kernel
theorem dX3_init_10 : decode cX3_init 10 = .ok (.goto 4, 3) := by decide +kernel
theorem dX3_init_13 : decode cX3_init 13 = .ok (.iconst 0, 1) := by decide +kernel
theorem dX3_init_14 : decode cX3_init 14 = .ok (.putfield 9, 3) := by decide +kernel
theorem dX3_init_17 : decode cX3_init 17 = .ok (.aload_n 0, 1) := by decide +kernel
theorem dX3_init_18 : decode cX3_init 18 = .ok (.iload_n 2, 1) := by decide +kernel
theorem dX3_init_19 : decode cX3_init 19 = .ok (.ifCond .le 7, 3) := by decide +kernel
theorem dX3_init_22 : decode cX3_init 22 = .ok (.iload_n 2, 1) := by decide +kernel
theorem dX3_init_23 : decode cX3_init 23 = .ok (.goto 4, 3) := by decide +kernel
theorem dX3_init_26 : decode cX3_init 26 = .ok (.iconst 0, 1) := by decide +kernel
theorem dX3_init_27 : decode cX3_init 27 = .ok (.putfield 15, 3) := by decide +kernel
theorem dX3_init_30 : decode cX3_init 30 = .ok (.aload_n 0, 1) := by decide +kernel
theorem dX3_init_31 : decode cX3_init 31 = .ok (.getfield 9, 3) := by decide +kernel
theorem dX3_init_34 : decode cX3_init 34 = .ok (.aload_n 0, 1) := by decide +kernel
theorem dX3_init_35 : decode cX3_init 35 = .ok (.getfield 15, 3) := by decide +kernel
theorem dX3_init_38 : decode cX3_init 38 = .ok (.imul, 1) := by decide +kernel
theorem dX3_init_39 : decode cX3_init 39 = .ok (.istore_n 3, 1) := by decide +kernel
theorem dX3_init_40 : decode cX3_init 40 = .ok (.aload_n 0, 1) := by decide +kernel
theorem dX3_init_41 : decode cX3_init 41 = .ok (.iload_n 3, 1) := by decide +kernel
theorem dX3_init_42 : decode cX3_init 42 = .ok (.ifCond .le 7, 3) := by decide +kernel
theorem dX3_init_45 : decode cX3_init 45 = .ok (.iload_n 3, 1) := by decide +kernel
theorem dX3_init_46 : decode cX3_init 46 = .ok (.goto 4, 3) := by decide +kernel
theorem dX3_init_49 : decode cX3_init 49 = .ok (.iconst 0, 1) := by decide +kernel
theorem dX3_init_50 : decode cX3_init 50 = .ok (.newarray .int, 2) := by decide +kernel
theorem dX3_init_52 : decode cX3_init 52 = .ok (.putfield 18, 3) := by decide +kernel
theorem dX3_init_55 : decode cX3_init 55 = .ok (.return_, 1) := by decide +kernel
theorem dX3_get_0 : decode cX3_get 0 = .ok (.iload_n 1, 1) := by decide +kernel
theorem dX3_get_1 : decode cX3_get 1 = .ok (.ifCond .lt 23, 3) := by decide +kernel
theorem dX3_get_4 : decode cX3_get 4 = .ok (.iload_n 1, 1) := by decide +kernel
theorem dX3_get_5 : decode cX3_get 5 = .ok (.aload_n 0, 1) := by decide +kernel
theorem dX3_get_6 : decode cX3_get 6 = .ok (.getfield 9, 3) := by decide +kernel
theorem dX3_get_9 : decode cX3_get 9 = .ok (.if_icmp .ge 15, 3) := by decide +kernel
theorem dX3_get_12 : decode cX3_get 12 = .ok (.iload_n 2, 1) := by decide +kernel
theorem dX3_get_13 : decode cX3_get 13 = .ok (.ifCond .lt 11, 3) := by decide +kernel
theorem dX3_get_16 : decode cX3_get 16 = .ok (.iload_n 2, 1) := by decide +kernel
theorem dX3_get_17 : decode cX3_get 17 = .ok (.aload_n 0, 1) := by decide +kernel
theorem dX3_get_18 : decode cX3_get 18 = .ok (.getfield 15, 3) := by decide +kernel
theorem dX3_get_21 : decode cX3_get 21 = .ok (.if_icmp .lt 5, 3) := by decide +kernel
theorem dX3_get_24 : decode cX3_get 24 = .ok (.iconst (-1), 1) := by decide +kernel
theorem dX3_get_25 : decode cX3_get 25 = .ok (.ireturn, 1) := by decide +kernel
theorem dX3_get_26 : decode cX3_get 26 = .ok (.iload_n 1, 1) := by decide +kernel
theorem dX3_get_27 : decode cX3_get 27 = .ok (.aload_n 0, 1) := by decide +kernel
theorem dX3_get_28 : decode cX3_get 28 = .ok (.getfield 15, 3) := by decide +kernel
theorem dX3_get_31 : decode cX3_get 31 = .ok (.imul, 1) := by decide +kernel
theorem dX3_get_32 : decode cX3_get 32 = .ok (.iload_n 2, 1) := by decide +kernel
theorem dX3_get_33 : decode cX3_get 33 = .ok (.iadd, 1) := by decide +kernel
theorem dX3_get_34 : decode cX3_get 34 = .ok (.istore_n 3, 1) := by decide +kernel
theorem dX3_get_35 : decode cX3_get 35 = .ok (.iload_n 3, 1) := by decide +kernel
theorem dX3_get_36 : decode cX3_get 36 = .ok (.ifCond .lt 21, 3) := by decide +kernel
theorem dX3_get_39 : decode cX3_get 39 = .ok (.iload_n 3, 1) := by decide +kernel
theorem dX3_get_40 : decode cX3_get 40 = .ok (.aload_n 0, 1) := by decide +kernel
theorem dX3_get_41 : decode cX3_get 41 = .ok (.getfield 18, 3) := by decide +kernel
theorem dX3_get_44 : decode cX3_get 44 = .ok (.arraylength, 1) := by decide +kernel
theorem dX3_get_45 : decode cX3_get 45 = .ok (.if_icmp .ge 12, 3) := by decide +kernel
theorem dX3_get_48 : decode cX3_get 48 = .ok (.aload_n 0, 1) := by decide +kernel
theorem dX3_get_49 : decode cX3_get 49 = .ok (.getfield 18, 3) := by decide +kernel
theorem dX3_get_52 : decode cX3_get 52 = .ok (.iload_n 3, 1) := by decide +kernel
theorem dX3_get_53 : decode cX3_get 53 = .ok (.iaload, 1) := by decide +kernel
theorem dX3_get_54 : decode cX3_get 54 = .ok (.goto 4, 3) := by decide +kernel
theorem dX3_get_57 : decode cX3_get 57 = .ok (.iconst (-1), 1) := by decide +kernel
theorem dX3_get_58 : decode cX3_get 58 = .ok (.ireturn, 1) := by decide +kernel
theorem dX3_set_0 : decode cX3_set 0 = .ok (.iload_n 1, 1) := by decide +kernel
theorem dX3_set_1 : decode cX3_set 1 = .ok (.ifCond .lt 23, 3) := by decide +kernel
theorem dX3_set_4 : decode cX3_set 4 = .ok (.iload_n 1, 1) := by decide +kernel
theorem dX3_set_5 : decode cX3_set 5 = .ok (.aload_n 0, 1) := by decide +kernel
theorem dX3_set_6 : decode cX3_set 6 = .ok (.getfield 9, 3) := by decide +kernel
theorem dX3_set_9 : decode cX3_set 9 = .ok (.if_icmp .ge 15, 3) := by decide +kernel
theorem dX3_set_12 : decode cX3_set 12 = .ok (.iload_n 2, 1) := by decide +kernel
theorem dX3_set_13 : decode cX3_set 13 = .ok (.ifCond .lt 11, 3) := by decide +kernel
theorem dX3_set_16 : decode cX3_set 16 = .ok (.iload_n 2, 1) := by decide +kernel
theorem dX3_set_17 : decode cX3_set 17 = .ok (.aload_n 0, 1) := by decide +kernel
theorem dX3_set_18 : decode cX3_set 18 = .ok (.getfield 15, 3) := by decide +kernel
theorem dX3_set_21 : decode cX3_set 21 = .ok (.if_icmp .lt 4, 3) := by decide +kernel
theorem dX3_set_24 : decode cX3_set 24 = .ok (.return_, 1) := by decide +kernel
theorem dX3_set_25 : decode cX3_set 25 = .ok (.iload_n 1, 1) := by decide +kernel
theorem dX3_set_26 : decode cX3_set 26 = .ok (.aload_n 0, 1) := by decide +kernel
theorem dX3_set_27 : decode cX3_set 27 = .ok (.getfield 15, 3) := by decide +kernel
theorem dX3_set_30 : decode cX3_set 30 = .ok (.imul, 1) := by decide +kernel
theorem dX3_set_31 : decode cX3_set 31 = .ok (.iload_n 2, 1) := by decide +kernel
theorem dX3_set_32 : decode cX3_set 32 = .ok (.iadd, 1) := by decide +kernel
theorem dX3_set_33 : decode cX3_set 33 = .ok (.istore 4, 2) := by decide +kernel
theorem dX3_set_35 : decode cX3_set 35 = .ok (.iload 4, 2) := by decide +kernel
theorem dX3_set_37 : decode cX3_set 37 = .ok (.ifCond .lt 21, 3) := by decide +kernel
theorem dX3_set_40 : decode cX3_set 40 = .ok (.iload 4, 2) := by decide +kernel
theorem dX3_set_42 : decode cX3_set 42 = .ok (.aload_n 0, 1) := by decide +kernel
theorem dX3_set_43 : decode cX3_set 43 = .ok (.getfield 18, 3) := by decide +kernel
theorem dX3_set_46 : decode cX3_set 46 = .ok (.arraylength, 1) := by decide +kernel
theorem dX3_set_47 : decode cX3_set 47 = .ok (.if_icmp .ge 11, 3) := by decide +kernel
theorem dX3_set_50 : decode cX3_set 50 = .ok (.aload_n 0, 1) := by decide +kernel
theorem dX3_set_51 : decode cX3_set 51 = .ok (.getfield 18, 3) := by decide +kernel
theorem dX3_set_54 : decode cX3_set 54 = .ok (.iload 4, 2) := by decide +kernel
theorem dX3_set_56 : decode cX3_set 56 = .ok (.iload_n 3, 1) := by decide +kernel
theorem dX3_set_57 : decode cX3_set 57 = .ok (.iastore, 1) := by decide +kernel
theorem dX3_set_58 : decode cX3_set 58 = .ok (.return_, 1) := by decide +kernel
theorem dX3_fill_0 : decode cX3_fill 0 = .ok (.iconst 0, 1) := by decide +kernel
theorem dX3_fill_1 : decode cX3_fill 1 = .ok (.istore_n 2, 1) := by decide +kernel
theorem dX3_fill_2 : decode cX3_fill 2 = .ok (.iload_n 2, 1) := by decide +kernel
theorem dX3_fill_3 : decode cX3_fill 3 = .ok (.aload_n 0, 1) := by decide +kernel
theorem dX3_fill_4 : decode cX3_fill 4 = .ok (.getfield 18, 3) := by decide +kernel
theorem dX3_fill_7 : decode cX3_fill 7 = .ok (.arraylength, 1) := by decide +kernel
theorem dX3_fill_8 : decode cX3_fill 8 = .ok (.if_icmp .ge 16, 3) := by decide +kernel
theorem dX3_fill_11 : decode cX3_fill 11 = .ok (.aload_n 0, 1) := by decide +kernel
theorem dX3_fill_12 : decode cX3_fill 12 = .ok (.getfield 18, 3) := by decide +kernel
theorem dX3_fill_15 : decode cX3_fill 15 = .ok (.iload_n 2, 1) := by decide +kernel
theorem dX3_fill_16 : decode cX3_fill 16 = .ok (.iload_n 1, 1) := by decide +kernel
theorem dX3_fill_17 : decode cX3_fill 17 = .ok (.iastore, 1) := by decide +kernel
theorem dX3_fill_18 : decode cX3_fill 18 = .ok (.iinc 2 1, 3) := by decide +kernel
theorem dX3_fill_21 : decode cX3_fill 21 = .ok (.goto (-19), 3) := by decide +kernel
theorem dX3_fill_24 : decode cX3_fill 24 = .ok (.return_, 1) := by decide +kernel
theorem dX3_copyFrom_0 : decode cX3_copyFrom 0 = .ok (.iconst 0, 1) := by decide +kernel
theorem dX3_copyFrom_1 : decode cX3_copyFrom 1 = .ok (.istore_n 2, 1) := by decide +kernel
theorem dX3_copyFrom_2 : decode cX3_copyFrom 2 = .ok (.iload_n 2, 1) := by decide +kernel
theorem dX3_copyFrom_3 : decode cX3_copyFrom 3 = .ok (.aload_n 0, 1) := by decide +kernel
theorem dX3_copyFrom_4 : decode cX3_copyFrom 4 = .ok (.getfield 18, 3) := by decide +kernel
theorem dX3_copyFrom_7 : decode cX3_copyFrom 7 = .ok (.arraylength, 1) := by decide +kernel
theorem dX3_copyFrom_8 : decode cX3_copyFrom 8 = .ok (.if_icmp .ge 30, 3) := by decide +kernel
theorem dX3_copyFrom_11 : decode cX3_copyFrom 11 = .ok (.iload_n 2, 1) := by decide +kernel
theorem dX3_copyFrom_12 : decode cX3_copyFrom 12 = .ok (.aload_n 1, 1) := by decide +kernel
theorem dX3_copyFrom_13 : decode cX3_copyFrom 13 = .ok (.getfield 18, 3) := by decide +kernel
theorem dX3_copyFrom_16 : decode cX3_copyFrom 16 = .ok (.arraylength, 1) := by decide +kernel
theorem dX3_copyFrom_17 : decode cX3_copyFrom 17 = .ok (.if_icmp .ge 21, 3) := by decide +kernel
theorem dX3_copyFrom_20 : decode cX3_copyFrom 20 = .ok (.aload_n 0, 1) := by decide +kernel
theorem dX3_copyFrom_21 : decode cX3_copyFrom 21 = .ok (.getfield 18, 3) := by decide +kernel
theorem dX3_copyFrom_24 : decode cX3_copyFrom 24 = .ok (.iload_n 2, 1) := by decide +kernel
theorem dX3_copyFrom_25 : decode cX3_copyFrom 25 = .ok (.aload_n 1, 1) := by decide +kernel
theorem dX3_copyFrom_26 : decode cX3_copyFrom 26 = .ok (.getfield 18, 3) := by decide +kernel
theorem dX3_copyFrom_29 : decode cX3_copyFrom 29 = .ok (.iload_n 2, 1) := by decide +kernel
theorem dX3_copyFrom_30 : decode cX3_copyFrom 30 = .ok (.iaload, 1) := by decide +kernel
theorem dX3_copyFrom_31 : decode cX3_copyFrom 31 = .ok (.iastore, 1) := by decide +kernel
theorem dX3_copyFrom_32 : decode cX3_copyFrom 32 = .ok (.iinc 2 1, 3) := by decide +kernel
theorem dX3_copyFrom_35 : decode cX3_copyFrom 35 = .ok (.goto (-33), 3) := by decide +kernel
theorem dX3_copyFrom_38 : decode cX3_copyFrom 38 = .ok (.return_, 1) := by decide +kernel
theorem dX4_init_0 : decode cX4_init 0 = .ok (.aload_n 0, 1) := by decide +kernel
theorem dX4_init_1 : decode cX4_init 1 = .ok (.invokespecial 3, 3) := by decide +kernel
theorem dX4_init_4 : decode cX4_init 4 = .ok (.aload_n 0, 1) := by decide +kernel
theorem dX4_init_5 : decode cX4_init 5 = .ok (.iconst 0, 1) := by decide +kernel
theorem dX4_init_6 : decode cX4_init 6 = .ok (.putfield 9, 3) := by decide +kernel
theorem dX4_init_9 : decode cX4_init 9 = .ok (.aload_n 0, 1) := by decide +kernel
theorem dX4_init_10 : decode cX4_init 10 = .ok (.new 15, 3) := by decide +kernel
theorem dX4_init_13 : decode cX4_init 13 = .ok (.dup, 1) := by decide +kernel
theorem dX4_init_14 : decode cX4_init 14 = .ok (.bipush 60, 2) := by decide +kernel
theorem dX4_init_16 : decode cX4_init 16 = .ok (.invokespecial 17, 3) := by decide +kernel
theorem dX4_init_19 : decode cX4_init 19 = .ok (.putfield 20, 3) := by decide +kernel
theorem dX4_init_22 : decode cX4_init 22 = .ok (.return_, 1) := by decide +kernel
theorem dX4_length_0 : decode cX4_length 0 = .ok (.aload_n 0, 1) := by decide +kernel
theorem dX4_length_1 : decode cX4_length 1 = .ok (.getfield 9, 3) := by decide +kernel
theorem dX4_length_4 : decode cX4_length 4 = .ok (.ireturn, 1) := by decide +kernel
theorem dX4_codeAt_0 : decode cX4_codeAt 0 = .ok (.iload_n 1, 1) := by decide +kernel
theorem dX4_codeAt_1 : decode cX4_codeAt 1 = .ok (.aload_n 0, 1) := by decide +kernel
theorem dX4_codeAt_2 : decode cX4_codeAt 2 = .ok (.getfield 9, 3) := by decide +kernel
theorem dX4_codeAt_5 : decode cX4_codeAt 5 = .ok (.if_icmp .ge 14, 3) := by decide +kernel
theorem dX4_codeAt_8 : decode cX4_codeAt 8 = .ok (.aload_n 0, 1) := by decide +kernel
theorem dX4_codeAt_9 : decode cX4_codeAt 9 = .ok (.getfield 20, 3) := by decide +kernel
theorem dX4_codeAt_12 : decode cX4_codeAt 12 = .ok (.iload_n 1, 1) := by decide +kernel
theorem dX4_codeAt_13 : decode cX4_codeAt 13 = .ok (.invokevirtual 24, 3) := by decide +kernel
theorem dX4_codeAt_16 : decode cX4_codeAt 16 = .ok (.goto 4, 3) := by decide +kernel
theorem dX4_codeAt_19 : decode cX4_codeAt 19 = .ok (.iconst (-1), 1) := by decide +kernel
theorem dX4_codeAt_20 : decode cX4_codeAt 20 = .ok (.ireturn, 1) := by decide +kernel
theorem dX4_arrowAt_0 : decode cX4_arrowAt 0 = .ok (.aload_n 0, 1) := by decide +kernel
theorem dX4_arrowAt_1 : decode cX4_arrowAt 1 = .ok (.iload_n 1, 1) := by decide +kernel
theorem dX4_arrowAt_2 : decode cX4_arrowAt 2 = .ok (.invokevirtual 28, 3) := by decide +kernel
theorem dX4_arrowAt_5 : decode cX4_arrowAt 5 = .ok (.bipush 97, 2) := by decide +kernel
theorem dX4_arrowAt_7 : decode cX4_arrowAt 7 = .ok (.isub, 1) := by decide +kernel
theorem dX4_arrowAt_8 : decode cX4_arrowAt 8 = .ok (.ireturn, 1) := by decide +kernel
theorem dX4_put_0 : decode cX4_put 0 = .ok (.aload_n 0, 1) := by decide +kernel
theorem dX4_put_1 : decode cX4_put 1 = .ok (.getfield 20, 3) := by decide +kernel
theorem dX4_put_4 : decode cX4_put 4 = .ok (.aload_n 0, 1) := by decide +kernel
theorem dX4_put_5 : decode cX4_put 5 = .ok (.getfield 9, 3) := by decide +kernel
theorem dX4_put_8 : decode cX4_put 8 = .ok (.iload_n 1, 1) := by decide +kernel
theorem dX4_put_9 : decode cX4_put 9 = .ok (.invokevirtual 31, 3) := by decide +kernel
theorem dX4_put_12 : decode cX4_put 12 = .ok (.aload_n 0, 1) := by decide +kernel
theorem dX4_put_13 : decode cX4_put 13 = .ok (.dup, 1) := by decide +kernel
theorem dX4_put_14 : decode cX4_put 14 = .ok (.getfield 9, 3) := by decide +kernel
theorem dX4_put_17 : decode cX4_put 17 = .ok (.iconst 1, 1) := by decide +kernel
theorem dX4_put_18 : decode cX4_put 18 = .ok (.iadd, 1) := by decide +kernel
theorem dX4_put_19 : decode cX4_put 19 = .ok (.putfield 9, 3) := by decide +kernel
theorem dX4_put_22 : decode cX4_put 22 = .ok (.return_, 1) := by decide +kernel
theorem dX4_clear_0 : decode cX4_clear 0 = .ok (.aload_n 0, 1) := by decide +kernel
theorem dX4_clear_1 : decode cX4_clear 1 = .ok (.iconst 0, 1) := by decide +kernel
theorem dX4_clear_2 : decode cX4_clear 2 = .ok (.putfield 9, 3) := by decide +kernel
theorem dX4_clear_5 : decode cX4_clear 5 = .ok (.return_, 1) := by decide +kernel
theorem dX5_init_0 : decode cX5_init 0 = .ok (.aload_n 0, 1) := by decide +kernel
theorem dX5_init_1 : decode cX5_init 1 = .ok (.invokespecial 3, 3) := by decide +kernel
theorem dX5_init_4 : decode cX5_init 4 = .ok (.aload_n 0, 1) := by decide +kernel
theorem dX5_init_5 : decode cX5_init 5 = .ok (.iconst 0, 1) := by decide +kernel
theorem dX5_init_6 : decode cX5_init 6 = .ok (.putfield 9, 3) := by decide +kernel
theorem dX5_init_9 : decode cX5_init 9 = .ok (.aload_n 0, 1) := by decide +kernel
theorem dX5_init_10 : decode cX5_init 10 = .ok (.iconst 0, 1) := by decide +kernel
theorem dX5_init_11 : decode cX5_init 11 = .ok (.putfield 15, 3) := by decide +kernel
theorem dX5_init_14 : decode cX5_init 14 = .ok (.aload_n 0, 1) := by decide +kernel
theorem dX5_init_15 : decode cX5_init 15 = .ok (.iconst 0, 1) := by decide +kernel
theorem dX5_init_16 : decode cX5_init 16 = .ok (.putfield 18, 3) := by decide +kernel
theorem dX5_init_19 : decode cX5_init 19 = .ok (.aload_n 0, 1) := by decide +kernel
theorem dX5_init_20 : decode cX5_init 20 = .ok (.iconst 0, 1) := by decide +kernel
theorem dX5_init_21 : decode cX5_init 21 = .ok (.putfield 22, 3) := by decide +kernel
theorem dX5_init_24 : decode cX5_init 24 = .ok (.aload_n 0, 1) := by decide +kernel
theorem dX5_init_25 : decode cX5_init 25 = .ok (.iconst 0, 1) := by decide +kernel
theorem dX5_init_26 : decode cX5_init 26 = .ok (.putfield 25, 3) := by decide +kernel
theorem dX5_init_29 : decode cX5_init 29 = .ok (.aload_n 0, 1) := by decide +kernel
theorem dX5_init_30 : decode cX5_init 30 = .ok (.iconst 0, 1) := by decide +kernel
theorem dX5_init_31 : decode cX5_init 31 = .ok (.putfield 28, 3) := by decide +kernel
theorem dX5_init_34 : decode cX5_init 34 = .ok (.aload_n 0, 1) := by decide +kernel
theorem dX5_init_35 : decode cX5_init 35 = .ok (.new 31, 3) := by decide +kernel
theorem dX5_init_38 : decode cX5_init 38 = .ok (.dup, 1) := by decide +kernel
theorem dX5_init_39 : decode cX5_init 39 = .ok (.sipush 300, 3) := by decide +kernel
theorem dX5_init_42 : decode cX5_init 42 = .ok (.bipush 20, 2) := by decide +kernel
theorem dX5_init_44 : decode cX5_init 44 = .ok (.invokespecial 33, 3) := by decide +kernel
theorem dX5_init_47 : decode cX5_init 47 = .ok (.putfield 36, 3) := by decide +kernel
theorem dX5_init_50 : decode cX5_init 50 = .ok (.aload_n 0, 1) := by decide +kernel
theorem dX5_init_51 : decode cX5_init 51 = .ok (.new 40, 3) := by decide +kernel
theorem dX5_init_54 : decode cX5_init 54 = .ok (.dup, 1) := by decide +kernel
theorem dX5_init_55 : decode cX5_init 55 = .ok (.sipush 300, 3) := by decide +kernel
theorem dX5_init_58 : decode cX5_init 58 = .ok (.invokespecial 42, 3) := by decide +kernel
theorem dX5_init_61 : decode cX5_init 61 = .ok (.putfield 45, 3) := by decide +kernel
theorem dX5_init_64 : decode cX5_init 64 = .ok (.aload_n 0, 1) := by decide +kernel
theorem dX5_init_65 : decode cX5_init 65 = .ok (.new 40, 3) := by decide +kernel
theorem dX5_init_68 : decode cX5_init 68 = .ok (.dup, 1) := by decide +kernel
theorem dX5_init_69 : decode cX5_init 69 = .ok (.sipush 300, 3) := by decide +kernel
theorem dX5_init_72 : decode cX5_init 72 = .ok (.invokespecial 42, 3) := by decide +kernel
theorem dX5_init_75 : decode cX5_init 75 = .ok (.putfield 49, 3) := by decide +kernel
theorem dX5_init_78 : decode cX5_init 78 = .ok (.aload_n 0, 1) := by decide +kernel
theorem dX5_init_79 : decode cX5_init 79 = .ok (.new 40, 3) := by decide +kernel
theorem dX5_init_82 : decode cX5_init 82 = .ok (.dup, 1) := by decide +kernel
theorem dX5_init_83 : decode cX5_init 83 = .ok (.sipush 300, 3) := by decide +kernel
theorem dX5_init_86 : decode cX5_init 86 = .ok (.invokespecial 42, 3) := by decide +kernel
theorem dX5_init_89 : decode cX5_init 89 = .ok (.putfield 52, 3) := by decide +kernel
theorem dX5_init_92 : decode cX5_init 92 = .ok (.aload_n 0, 1) := by decide +kernel
theorem dX5_init_93 : decode cX5_init 93 = .ok (.new 40, 3) := by decide +kernel
theorem dX5_init_96 : decode cX5_init 96 = .ok (.dup, 1) := by decide +kernel
theorem dX5_init_97 : decode cX5_init 97 = .ok (.sipush 300, 3) := by decide +kernel
theorem dX5_init_100 : decode cX5_init 100 = .ok (.invokespecial 42, 3) := by decide +kernel
theorem dX5_init_103 : decode cX5_init 103 = .ok (.putfield 55, 3) := by decide +kernel
theorem dX5_init_106 : decode cX5_init 106 = .ok (.aload_n 0, 1) := by decide +kernel
theorem dX5_init_107 : decode cX5_init 107 = .ok (.new 31, 3) := by decide +kernel
theorem dX5_init_110 : decode cX5_init 110 = .ok (.dup, 1) := by decide +kernel
theorem dX5_init_111 : decode cX5_init 111 = .ok (.bipush 8, 2) := by decide +kernel
theorem dX5_init_113 : decode cX5_init 113 = .ok (.bipush 8, 2) := by decide +kernel
theorem dX5_init_115 : decode cX5_init 115 = .ok (.invokespecial 33, 3) := by decide +kernel
theorem dX5_init_118 : decode cX5_init 118 = .ok (.putfield 58, 3) := by decide +kernel
theorem dX5_init_121 : decode cX5_init 121 = .ok (.aload_n 0, 1) := by decide +kernel
theorem dX5_init_122 : decode cX5_init 122 = .ok (.getfield 52, 3) := by decide +kernel
theorem dX5_init_125 : decode cX5_init 125 = .ok (.iconst (-1), 1) := by decide +kernel
theorem dX5_init_126 : decode cX5_init 126 = .ok (.invokevirtual 61, 3) := by decide +kernel
theorem dX5_init_129 : decode cX5_init 129 = .ok (.return_, 1) := by decide +kernel
theorem dX5_forget_0 : decode cX5_forget 0 = .ok (.aload_n 0, 1) := by decide +kernel
theorem dX5_forget_1 : decode cX5_forget 1 = .ok (.iconst 0, 1) := by decide +kernel
theorem dX5_forget_2 : decode cX5_forget 2 = .ok (.putfield 9, 3) := by decide +kernel
theorem dX5_forget_5 : decode cX5_forget 5 = .ok (.aload_n 0, 1) := by decide +kernel
theorem dX5_forget_6 : decode cX5_forget 6 = .ok (.iconst 0, 1) := by decide +kernel
theorem dX5_forget_7 : decode cX5_forget 7 = .ok (.putfield 15, 3) := by decide +kernel
theorem dX5_forget_10 : decode cX5_forget 10 = .ok (.return_, 1) := by decide +kernel
theorem dX5_refresh_0 : decode cX5_refresh 0 = .ok (.aload_n 0, 1) := by decide +kernel
theorem dX5_refresh_1 : decode cX5_refresh 1 = .ok (.getfield 9, 3) := by decide +kernel
theorem dX5_refresh_4 : decode cX5_refresh 4 = .ok (.ifCond .eq 4, 3) := by decide +kernel
theorem dX5_refresh_7 : decode cX5_refresh 7 = .ok (.return_, 1) := by decide +kernel
theorem dX5_refresh_8 : decode cX5_refresh 8 = .ok (.aload_n 0, 1) := by decide +kernel
theorem dX5_refresh_9 : decode cX5_refresh 9 = .ok (.iconst 1, 1) := by decide +kernel
theorem dX5_refresh_10 : decode cX5_refresh 10 = .ok (.putfield 9, 3) := by decide +kernel
theorem dX5_refresh_13 : decode cX5_refresh 13 = .ok (.aload_n 0, 1) := by decide +kernel
theorem dX5_refresh_14 : decode cX5_refresh 14 = .ok (.iconst 2, 1) := by decide +kernel
theorem dX5_refresh_15 : decode cX5_refresh 15 = .ok (.aload_n 2, 1) := by decide +kernel
theorem dX5_refresh_16 : decode cX5_refresh 16 = .ok (.invokevirtual 64, 3) := by decide +kernel
theorem dX5_refresh_19 : decode cX5_refresh 19 = .ok (.imul, 1) := by decide +kernel
theorem dX5_refresh_20 : decode cX5_refresh 20 = .ok (.putfield 18, 3) := by decide +kernel
theorem dX5_refresh_23 : decode cX5_refresh 23 = .ok (.iconst 0, 1) := by decide +kernel
theorem dX5_refresh_24 : decode cX5_refresh 24 = .ok (.istore_n 3, 1) := by decide +kernel
theorem dX5_refresh_25 : decode cX5_refresh 25 = .ok (.iload_n 3, 1) := by decide +kernel
theorem dX5_refresh_26 : decode cX5_refresh 26 = .ok (.aload_n 0, 1) := by decide +kernel
theorem dX5_refresh_27 : decode cX5_refresh 27 = .ok (.getfield 18, 3) := by decide +kernel
theorem dX5_refresh_30 : decode cX5_refresh 30 = .ok (.if_icmp .ge 75, 3) := by decide +kernel
theorem dX5_refresh_33 : decode cX5_refresh 33 = .ok (.aload_n 2, 1) := by decide +kernel
theorem dX5_refresh_34 : decode cX5_refresh 34 = .ok (.iload_n 3, 1) := by decide +kernel
theorem dX5_refresh_35 : decode cX5_refresh 35 = .ok (.iconst 2, 1) := by decide +kernel
theorem dX5_refresh_36 : decode cX5_refresh 36 = .ok (.idiv, 1) := by decide +kernel
theorem dX5_refresh_37 : decode cX5_refresh 37 = .ok (.iload_n 3, 1) := by decide +kernel
theorem dX5_refresh_38 : decode cX5_refresh 38 = .ok (.iconst 2, 1) := by decide +kernel
theorem dX5_refresh_39 : decode cX5_refresh 39 = .ok (.irem, 1) := by decide +kernel
theorem dX5_refresh_40 : decode cX5_refresh 40 = .ok (.invokevirtual 70, 3) := by decide +kernel
theorem dX5_refresh_43 : decode cX5_refresh 43 = .ok (.istore 4, 2) := by decide +kernel
theorem dX5_refresh_45 : decode cX5_refresh 45 = .ok (.aload_n 2, 1) := by decide +kernel
theorem dX5_refresh_46 : decode cX5_refresh 46 = .ok (.iload_n 3, 1) := by decide +kernel
theorem dX5_refresh_47 : decode cX5_refresh 47 = .ok (.iconst 2, 1) := by decide +kernel
theorem dX5_refresh_48 : decode cX5_refresh 48 = .ok (.idiv, 1) := by decide +kernel
theorem dX5_refresh_49 : decode cX5_refresh 49 = .ok (.iconst 1, 1) := by decide +kernel
theorem dX5_refresh_50 : decode cX5_refresh 50 = .ok (.iload_n 3, 1) := by decide +kernel
theorem dX5_refresh_51 : decode cX5_refresh 51 = .ok (.iconst 2, 1) := by decide +kernel
theorem dX5_refresh_52 : decode cX5_refresh 52 = .ok (.irem, 1) := by decide +kernel
theorem dX5_refresh_53 : decode cX5_refresh 53 = .ok (.isub, 1) := by decide +kernel
theorem dX5_refresh_54 : decode cX5_refresh 54 = .ok (.invokevirtual 70, 3) := by decide +kernel
theorem dX5_refresh_57 : decode cX5_refresh 57 = .ok (.istore 5, 2) := by decide +kernel
theorem dX5_refresh_59 : decode cX5_refresh 59 = .ok (.iconst 0, 1) := by decide +kernel
theorem dX5_refresh_60 : decode cX5_refresh 60 = .ok (.istore 6, 2) := by decide +kernel
theorem dX5_refresh_62 : decode cX5_refresh 62 = .ok (.iload 6, 2) := by decide +kernel
theorem dX5_refresh_64 : decode cX5_refresh 64 = .ok (.aload_n 1, 1) := by decide +kernel
theorem dX5_refresh_65 : decode cX5_refresh 65 = .ok (.invokevirtual 74, 3) := by decide +kernel
theorem dX5_refresh_68 : decode cX5_refresh 68 = .ok (.if_icmp .ge 31, 3) := by decide +kernel
theorem dX5_refresh_71 : decode cX5_refresh 71 = .ok (.aload_n 0, 1) := by decide +kernel
theorem dX5_refresh_72 : decode cX5_refresh 72 = .ok (.getfield 36, 3) := by decide +kernel
theorem dX5_refresh_75 : decode cX5_refresh 75 = .ok (.iload 6, 2) := by decide +kernel
theorem dX5_refresh_77 : decode cX5_refresh 77 = .ok (.iload_n 3, 1) := by decide +kernel
theorem dX5_refresh_78 : decode cX5_refresh 78 = .ok (.aload_n 0, 1) := by decide +kernel
theorem dX5_refresh_79 : decode cX5_refresh 79 = .ok (.aload_n 1, 1) := by decide +kernel
theorem dX5_refresh_80 : decode cX5_refresh 80 = .ok (.iload 6, 2) := by decide +kernel
theorem dX5_refresh_82 : decode cX5_refresh 82 = .ok (.iload_n 3, 1) := by decide +kernel
theorem dX5_refresh_83 : decode cX5_refresh 83 = .ok (.iload 4, 2) := by decide +kernel
theorem dX5_refresh_85 : decode cX5_refresh 85 = .ok (.iload 5, 2) := by decide +kernel
theorem dX5_refresh_87 : decode cX5_refresh 87 = .ok (.invokevirtual 77, 3) := by decide +kernel
theorem dX5_refresh_90 : decode cX5_refresh 90 = .ok (.invokevirtual 81, 3) := by decide +kernel
theorem dX5_refresh_93 : decode cX5_refresh 93 = .ok (.iinc 6 1, 3) := by decide +kernel
theorem dX5_refresh_96 : decode cX5_refresh 96 = .ok (.goto (-34), 3) := by decide +kernel
theorem dX5_refresh_99 : decode cX5_refresh 99 = .ok (.iinc 3 1, 3) := by decide +kernel
theorem dX5_refresh_102 : decode cX5_refresh 102 = .ok (.goto (-77), 3) := by decide +kernel
theorem dX5_refresh_105 : decode cX5_refresh 105 = .ok (.aload_n 0, 1) := by decide +kernel
theorem dX5_refresh_106 : decode cX5_refresh 106 = .ok (.aload_n 1, 1) := by decide +kernel
theorem dX5_refresh_107 : decode cX5_refresh 107 = .ok (.invokevirtual 85, 3) := by decide +kernel
theorem dX5_refresh_110 : decode cX5_refresh 110 = .ok (.return_, 1) := by decide +kernel
theorem dX5_refreshCore_0 : decode cX5_refreshCore 0 = .ok (.aload_n 0, 1) := by decide +kernel
theorem dX5_refreshCore_1 : decode cX5_refreshCore 1 = .ok (.getfield 15, 3) := by decide +kernel
theorem dX5_refreshCore_4 : decode cX5_refreshCore 4 = .ok (.ifCond .eq 4, 3) := by decide +kernel
theorem dX5_refreshCore_7 : decode cX5_refreshCore 7 = .ok (.return_, 1) := by decide +kernel
theorem dX5_refreshCore_8 : decode cX5_refreshCore 8 = .ok (.aload_n 0, 1) := by decide +kernel
theorem dX5_refreshCore_9 : decode cX5_refreshCore 9 = .ok (.iconst 1, 1) := by decide +kernel
theorem dX5_refreshCore_10 : decode cX5_refreshCore 10 = .ok (.putfield 15, 3) := by decide +kernel
theorem dX5_refreshCore_13 : decode cX5_refreshCore 13 = .ok (.aload_n 0, 1) := by decide +kernel
theorem dX5_refreshCore_14 : decode cX5_refreshCore 14 = .ok (.iconst 1, 1) := by decide +kernel
theorem dX5_refreshCore_15 : decode cX5_refreshCore 15 = .ok (.aload_n 1, 1) := by decide +kernel
theorem dX5_refreshCore_16 : decode cX5_refreshCore 16 = .ok (.invokevirtual 64, 3) := by decide +kernel
theorem dX5_refreshCore_19 : decode cX5_refreshCore 19 = .ok (.ishl, 1) := by decide +kernel
theorem dX5_refreshCore_20 : decode cX5_refreshCore 20 = .ok (.iconst 1, 1) := by decide +kernel
theorem dX5_refreshCore_21 : decode cX5_refreshCore 21 = .ok (.isub, 1) := by decide +kernel
theorem dX5_refreshCore_22 : decode cX5_refreshCore 22 = .ok (.putfield 25, 3) := by decide +kernel
theorem dX5_refreshCore_25 : decode cX5_refreshCore 25 = .ok (.aload_n 1, 1) := by decide +kernel
theorem dX5_refreshCore_26 : decode cX5_refreshCore 26 = .ok (.invokevirtual 64, 3) := by decide +kernel
theorem dX5_refreshCore_29 : decode cX5_refreshCore 29 = .ok (.iconst 1, 1) := by decide +kernel
theorem dX5_refreshCore_30 : decode cX5_refreshCore 30 = .ok (.isub, 1) := by decide +kernel
theorem dX5_refreshCore_31 : decode cX5_refreshCore 31 = .ok (.istore_n 2, 1) := by decide +kernel
theorem dX5_refreshCore_32 : decode cX5_refreshCore 32 = .ok (.iload_n 2, 1) := by decide +kernel
theorem dX5_refreshCore_33 : decode cX5_refreshCore 33 = .ok (.ifCond .lt 35, 3) := by decide +kernel
theorem dX5_refreshCore_36 : decode cX5_refreshCore 36 = .ok (.aload_n 0, 1) := by decide +kernel
theorem dX5_refreshCore_37 : decode cX5_refreshCore 37 = .ok (.getfield 25, 3) := by decide +kernel
theorem dX5_refreshCore_40 : decode cX5_refreshCore 40 = .ok (.iconst 1, 1) := by decide +kernel
theorem dX5_refreshCore_41 : decode cX5_refreshCore 41 = .ok (.iload_n 2, 1) := by decide +kernel
theorem dX5_refreshCore_42 : decode cX5_refreshCore 42 = .ok (.ishl, 1) := by decide +kernel
theorem dX5_refreshCore_43 : decode cX5_refreshCore 43 = .ok (.iconst (-1), 1) := by decide +kernel
theorem dX5_refreshCore_44 : decode cX5_refreshCore 44 = .ok (.ixor, 1) := by decide +kernel
theorem dX5_refreshCore_45 : decode cX5_refreshCore 45 = .ok (.iand, 1) := by decide +kernel
theorem dX5_refreshCore_46 : decode cX5_refreshCore 46 = .ok (.istore_n 3, 1) := by decide +kernel
theorem dX5_refreshCore_47 : decode cX5_refreshCore 47 = .ok (.aload_n 0, 1) := by decide +kernel
theorem dX5_refreshCore_48 : decode cX5_refreshCore 48 = .ok (.aload_n 1, 1) := by decide +kernel
theorem dX5_refreshCore_49 : decode cX5_refreshCore 49 = .ok (.iload_n 2, 1) := by decide +kernel
theorem dX5_refreshCore_50 : decode cX5_refreshCore 50 = .ok (.iload_n 3, 1) := by decide +kernel
theorem dX5_refreshCore_51 : decode cX5_refreshCore 51 = .ok (.invokevirtual 89, 3) := by decide +kernel
theorem dX5_refreshCore_54 : decode cX5_refreshCore 54 = .ok (.ifCond .eq 8, 3) := by decide +kernel
theorem dX5_refreshCore_57 : decode cX5_refreshCore 57 = .ok (.aload_n 0, 1) := by decide +kernel
theorem dX5_refreshCore_58 : decode cX5_refreshCore 58 = .ok (.iload_n 3, 1) := by decide +kernel
theorem dX5_refreshCore_59 : decode cX5_refreshCore 59 = .ok (.putfield 25, 3) := by decide +kernel
theorem dX5_refreshCore_62 : decode cX5_refreshCore 62 = .ok (.iinc 2 (-1), 3) := by decide +kernel
theorem dX5_refreshCore_65 : decode cX5_refreshCore 65 = .ok (.goto (-33), 3) := by decide +kernel
theorem dX5_refreshCore_68 : decode cX5_refreshCore 68 = .ok (.return_, 1) := by decide +kernel
theorem dX5_className_0 : decode cX5_className 0 = .ok (.aload_n 0, 1) := by decide +kernel
theorem dX5_className_1 : decode cX5_className 1 = .ok (.getfield 45, 3) := by decide +kernel
theorem dX5_className_4 : decode cX5_className 4 = .ok (.iload_n 1, 1) := by decide +kernel
theorem dX5_className_5 : decode cX5_className 5 = .ok (.invokevirtual 93, 3) := by decide +kernel
theorem dX5_className_8 : decode cX5_className 8 = .ok (.ireturn, 1) := by decide +kernel
theorem dX5_classSize_0 : decode cX5_classSize 0 = .ok (.aload_n 0, 1) := by decide +kernel
theorem dX5_classSize_1 : decode cX5_classSize 1 = .ok (.getfield 49, 3) := by decide +kernel
theorem dX5_classSize_4 : decode cX5_classSize 4 = .ok (.iload_n 1, 1) := by decide +kernel
theorem dX5_classSize_5 : decode cX5_classSize 5 = .ok (.invokevirtual 93, 3) := by decide +kernel
theorem dX5_classSize_8 : decode cX5_classSize 8 = .ok (.ireturn, 1) := by decide +kernel
theorem dX5_classTotal_0 : decode cX5_classTotal 0 = .ok (.aload_n 0, 1) := by decide +kernel
theorem dX5_classTotal_1 : decode cX5_classTotal 1 = .ok (.getfield 22, 3) := by decide +kernel
theorem dX5_classTotal_4 : decode cX5_classTotal 4 = .ok (.ireturn, 1) := by decide +kernel
theorem dX5_classesBetween_0 : decode cX5_classesBetween 0 = .ok (.aload_n 0, 1) := by decide +kernel
theorem dX5_classesBetween_1 : decode cX5_classesBetween 1 = .ok (.getfield 58, 3) := by decide +kernel
theorem dX5_classesBetween_4 : decode cX5_classesBetween 4 = .ok (.iload_n 1, 1) := by decide +kernel
theorem dX5_classesBetween_5 : decode cX5_classesBetween 5 = .ok (.iload_n 2, 1) := by decide +kernel
theorem dX5_classesBetween_6 : decode cX5_classesBetween 6 = .ok (.invokevirtual 97, 3) := by decide +kernel
theorem dX5_classesBetween_9 : decode cX5_classesBetween 9 = .ok (.ireturn, 1) := by decide +kernel
theorem dX5_coreSize_0 : decode cX5_coreSize 0 = .ok (.aload_n 0, 1) := by decide +kernel
theorem dX5_coreSize_1 : decode cX5_coreSize 1 = .ok (.getfield 25, 3) := by decide +kernel
theorem dX5_coreSize_4 : decode cX5_coreSize 4 = .ok (.invokestatic 99, 3) := by decide +kernel
theorem dX5_coreSize_7 : decode cX5_coreSize 7 = .ok (.ireturn, 1) := by decide +kernel
theorem dX5_isInCore_0 : decode cX5_isInCore 0 = .ok (.aload_n 0, 1) := by decide +kernel
theorem dX5_isInCore_1 : decode cX5_isInCore 1 = .ok (.getfield 25, 3) := by decide +kernel
theorem dX5_isInCore_4 : decode cX5_isInCore 4 = .ok (.iload_n 1, 1) := by decide +kernel
theorem dX5_isInCore_5 : decode cX5_isInCore 5 = .ok (.ishr, 1) := by decide +kernel
theorem dX5_isInCore_6 : decode cX5_isInCore 6 = .ok (.iconst 1, 1) := by decide +kernel
theorem dX5_isInCore_7 : decode cX5_isInCore 7 = .ok (.iand, 1) := by decide +kernel
theorem dX5_isInCore_8 : decode cX5_isInCore 8 = .ok (.iconst 1, 1) := by decide +kernel
theorem dX5_isInCore_9 : decode cX5_isInCore 9 = .ok (.if_icmp .ne 7, 3) := by decide +kernel
theorem dX5_isInCore_12 : decode cX5_isInCore 12 = .ok (.iconst 1, 1) := by decide +kernel
theorem dX5_isInCore_13 : decode cX5_isInCore 13 = .ok (.goto 4, 3) := by decide +kernel
theorem dX5_isInCore_16 : decode cX5_isInCore 16 = .ok (.iconst 0, 1) := by decide +kernel
theorem dX5_isInCore_17 : decode cX5_isInCore 17 = .ok (.ireturn, 1) := by decide +kernel
theorem dX5_isRedundant_0 : decode cX5_isRedundant 0 = .ok (.aload_n 0, 1) := by decide +kernel
theorem dX5_isRedundant_1 : decode cX5_isRedundant 1 = .ok (.aload_n 1, 1) := by decide +kernel
theorem dX5_isRedundant_2 : decode cX5_isRedundant 2 = .ok (.iload_n 2, 1) := by decide +kernel
theorem dX5_isRedundant_3 : decode cX5_isRedundant 3 = .ok (.sipush 1023, 3) := by decide +kernel
theorem dX5_isRedundant_6 : decode cX5_isRedundant 6 = .ok (.iconst 1, 1) := by decide +kernel
theorem dX5_isRedundant_7 : decode cX5_isRedundant 7 = .ok (.iload_n 2, 1) := by decide +kernel
theorem dX5_isRedundant_8 : decode cX5_isRedundant 8 = .ok (.ishl, 1) := by decide +kernel
theorem dX5_isRedundant_9 : decode cX5_isRedundant 9 = .ok (.iconst (-1), 1) := by decide +kernel
theorem dX5_isRedundant_10 : decode cX5_isRedundant 10 = .ok (.ixor, 1) := by decide +kernel
theorem dX5_isRedundant_11 : decode cX5_isRedundant 11 = .ok (.iand, 1) := by decide +kernel
theorem dX5_isRedundant_12 : decode cX5_isRedundant 12 = .ok (.invokevirtual 89, 3) := by decide +kernel
theorem dX5_isRedundant_15 : decode cX5_isRedundant 15 = .ok (.ireturn, 1) := by decide +kernel
theorem dX5_spread_0 : decode cX5_spread 0 = .ok (.iconst 0, 1) := by decide +kernel
theorem dX5_spread_1 : decode cX5_spread 1 = .ok (.istore_n 3, 1) := by decide +kernel
theorem dX5_spread_2 : decode cX5_spread 2 = .ok (.iload_n 3, 1) := by decide +kernel
theorem dX5_spread_3 : decode cX5_spread 3 = .ok (.aload_n 0, 1) := by decide +kernel
theorem dX5_spread_4 : decode cX5_spread 4 = .ok (.getfield 28, 3) := by decide +kernel
theorem dX5_spread_7 : decode cX5_spread 7 = .ok (.if_icmp .ge 25, 3) := by decide +kernel
theorem dX5_spread_10 : decode cX5_spread 10 = .ok (.aload_n 0, 1) := by decide +kernel
theorem dX5_spread_11 : decode cX5_spread 11 = .ok (.getfield 52, 3) := by decide +kernel
theorem dX5_spread_14 : decode cX5_spread 14 = .ok (.aload_n 0, 1) := by decide +kernel
theorem dX5_spread_15 : decode cX5_spread 15 = .ok (.getfield 55, 3) := by decide +kernel
theorem dX5_spread_18 : decode cX5_spread 18 = .ok (.iload_n 3, 1) := by decide +kernel
theorem dX5_spread_19 : decode cX5_spread 19 = .ok (.invokevirtual 93, 3) := by decide +kernel
theorem dX5_spread_22 : decode cX5_spread 22 = .ok (.iconst (-1), 1) := by decide +kernel
theorem dX5_spread_23 : decode cX5_spread 23 = .ok (.invokevirtual 104, 3) := by decide +kernel
theorem dX5_spread_26 : decode cX5_spread 26 = .ok (.iinc 3 1, 3) := by decide +kernel
theorem dX5_spread_29 : decode cX5_spread 29 = .ok (.goto (-27), 3) := by decide +kernel
theorem dX5_spread_32 : decode cX5_spread 32 = .ok (.aload_n 0, 1) := by decide +kernel
theorem dX5_spread_33 : decode cX5_spread 33 = .ok (.iconst 0, 1) := by decide +kernel
theorem dX5_spread_34 : decode cX5_spread 34 = .ok (.putfield 28, 3) := by decide +kernel
theorem dX5_spread_37 : decode cX5_spread 37 = .ok (.aload_n 0, 1) := by decide +kernel
theorem dX5_spread_38 : decode cX5_spread 38 = .ok (.iload_n 1, 1) := by decide +kernel
theorem dX5_spread_39 : decode cX5_spread 39 = .ok (.iconst 0, 1) := by decide +kernel
theorem dX5_spread_40 : decode cX5_spread 40 = .ok (.invokevirtual 106, 3) := by decide +kernel
theorem dX5_spread_43 : decode cX5_spread 43 = .ok (.iconst 0, 1) := by decide +kernel
theorem dX5_spread_44 : decode cX5_spread 44 = .ok (.istore_n 3, 1) := by decide +kernel
theorem dX5_spread_45 : decode cX5_spread 45 = .ok (.iload_n 3, 1) := by decide +kernel
theorem dX5_spread_46 : decode cX5_spread 46 = .ok (.aload_n 0, 1) := by decide +kernel
theorem dX5_spread_47 : decode cX5_spread 47 = .ok (.getfield 28, 3) := by decide +kernel
theorem dX5_spread_50 : decode cX5_spread 50 = .ok (.if_icmp .ge 105, 3) := by decide +kernel
theorem dX5_spread_53 : decode cX5_spread 53 = .ok (.iload_n 3, 1) := by decide +kernel
theorem dX5_spread_54 : decode cX5_spread 54 = .ok (.sipush 300, 3) := by decide +kernel
theorem dX5_spread_57 : decode cX5_spread 57 = .ok (.if_icmp .ge 98, 3) := by decide +kernel
theorem dX5_spread_60 : decode cX5_spread 60 = .ok (.aload_n 0, 1) := by decide +kernel
theorem dX5_spread_61 : decode cX5_spread 61 = .ok (.getfield 55, 3) := by decide +kernel
theorem dX5_spread_64 : decode cX5_spread 64 = .ok (.iload_n 3, 1) := by decide +kernel
theorem dX5_spread_65 : decode cX5_spread 65 = .ok (.invokevirtual 93, 3) := by decide +kernel
theorem dX5_spread_68 : decode cX5_spread 68 = .ok (.istore 4, 2) := by decide +kernel
theorem dX5_spread_70 : decode cX5_spread 70 = .ok (.iconst 0, 1) := by decide +kernel
theorem dX5_spread_71 : decode cX5_spread 71 = .ok (.istore 5, 2) := by decide +kernel
theorem dX5_spread_73 : decode cX5_spread 73 = .ok (.iload 5, 2) := by decide +kernel
theorem dX5_spread_75 : decode cX5_spread 75 = .ok (.aload_n 0, 1) := by decide +kernel
theorem dX5_spread_76 : decode cX5_spread 76 = .ok (.getfield 18, 3) := by decide +kernel
theorem dX5_spread_79 : decode cX5_spread 79 = .ok (.if_icmp .ge 70, 3) := by decide +kernel
theorem dX5_spread_82 : decode cX5_spread 82 = .ok (.aload_n 0, 1) := by decide +kernel
theorem dX5_spread_83 : decode cX5_spread 83 = .ok (.getfield 36, 3) := by decide +kernel
theorem dX5_spread_86 : decode cX5_spread 86 = .ok (.iload 4, 2) := by decide +kernel
theorem dX5_spread_88 : decode cX5_spread 88 = .ok (.iload 5, 2) := by decide +kernel
theorem dX5_spread_90 : decode cX5_spread 90 = .ok (.invokevirtual 97, 3) := by decide +kernel
theorem dX5_spread_93 : decode cX5_spread 93 = .ok (.istore 6, 2) := by decide +kernel
theorem dX5_spread_95 : decode cX5_spread 95 = .ok (.iload_n 2, 1) := by decide +kernel
theorem dX5_spread_96 : decode cX5_spread 96 = .ok (.iload 5, 2) := by decide +kernel
theorem dX5_spread_98 : decode cX5_spread 98 = .ok (.iconst 2, 1) := by decide +kernel
theorem dX5_spread_99 : decode cX5_spread 99 = .ok (.idiv, 1) := by decide +kernel
theorem dX5_spread_100 : decode cX5_spread 100 = .ok (.ishr, 1) := by decide +kernel
theorem dX5_spread_101 : decode cX5_spread 101 = .ok (.iconst 1, 1) := by decide +kernel
theorem dX5_spread_102 : decode cX5_spread 102 = .ok (.iand, 1) := by decide +kernel
theorem dX5_spread_103 : decode cX5_spread 103 = .ok (.iconst 1, 1) := by decide +kernel
theorem dX5_spread_104 : decode cX5_spread 104 = .ok (.if_icmp .ne 39, 3) := by decide +kernel
theorem dX5_spread_107 : decode cX5_spread 107 = .ok (.iload 6, 2) := by decide +kernel
theorem dX5_spread_109 : decode cX5_spread 109 = .ok (.iconst (-1), 1) := by decide +kernel
theorem dX5_spread_110 : decode cX5_spread 110 = .ok (.if_icmp .eq 33, 3) := by decide +kernel
theorem dX5_spread_113 : decode cX5_spread 113 = .ok (.aload_n 0, 1) := by decide +kernel
theorem dX5_spread_114 : decode cX5_spread 114 = .ok (.getfield 52, 3) := by decide +kernel
theorem dX5_spread_117 : decode cX5_spread 117 = .ok (.iload 6, 2) := by decide +kernel
theorem dX5_spread_119 : decode cX5_spread 119 = .ok (.invokevirtual 93, 3) := by decide +kernel
theorem dX5_spread_122 : decode cX5_spread 122 = .ok (.iconst (-1), 1) := by decide +kernel
theorem dX5_spread_123 : decode cX5_spread 123 = .ok (.if_icmp .ne 20, 3) := by decide +kernel
theorem dX5_spread_126 : decode cX5_spread 126 = .ok (.aload_n 0, 1) := by decide +kernel
theorem dX5_spread_127 : decode cX5_spread 127 = .ok (.iload 6, 2) := by decide +kernel
theorem dX5_spread_129 : decode cX5_spread 129 = .ok (.aload_n 0, 1) := by decide +kernel
theorem dX5_spread_130 : decode cX5_spread 130 = .ok (.getfield 52, 3) := by decide +kernel
theorem dX5_spread_133 : decode cX5_spread 133 = .ok (.iload 4, 2) := by decide +kernel
theorem dX5_spread_135 : decode cX5_spread 135 = .ok (.invokevirtual 93, 3) := by decide +kernel
theorem dX5_spread_138 : decode cX5_spread 138 = .ok (.iconst 1, 1) := by decide +kernel
theorem dX5_spread_139 : decode cX5_spread 139 = .ok (.iadd, 1) := by decide +kernel
theorem dX5_spread_140 : decode cX5_spread 140 = .ok (.invokevirtual 106, 3) := by decide +kernel
theorem dX5_spread_143 : decode cX5_spread 143 = .ok (.iinc 5 1, 3) := by decide +kernel
theorem dX5_spread_146 : decode cX5_spread 146 = .ok (.goto (-73), 3) := by decide +kernel
theorem dX5_spread_149 : decode cX5_spread 149 = .ok (.iinc 3 1, 3) := by decide +kernel
theorem dX5_spread_152 : decode cX5_spread 152 = .ok (.goto (-107), 3) := by decide +kernel
theorem dX5_spread_155 : decode cX5_spread 155 = .ok (.return_, 1) := by decide +kernel
theorem dX5_stepsFrom_0 : decode cX5_stepsFrom 0 = .ok (.aload_n 0, 1) := by decide +kernel
theorem dX5_stepsFrom_1 : decode cX5_stepsFrom 1 = .ok (.getfield 52, 3) := by decide +kernel
theorem dX5_stepsFrom_4 : decode cX5_stepsFrom 4 = .ok (.iload_n 1, 1) := by decide +kernel
theorem dX5_stepsFrom_5 : decode cX5_stepsFrom 5 = .ok (.invokevirtual 93, 3) := by decide +kernel
theorem dX5_stepsFrom_8 : decode cX5_stepsFrom 8 = .ok (.ireturn, 1) := by decide +kernel
theorem dX5_nextInProof_0 : decode cX5_nextInProof 0 = .ok (.iconst (-1), 1) := by decide +kernel
theorem dX5_nextInProof_1 : decode cX5_nextInProof 1 = .ok (.istore_n 2, 1) := by decide +kernel
theorem dX5_nextInProof_2 : decode cX5_nextInProof 2 = .ok (.iconst 0, 1) := by decide +kernel
theorem dX5_nextInProof_3 : decode cX5_nextInProof 3 = .ok (.istore_n 3, 1) := by decide +kernel
theorem dX5_nextInProof_4 : decode cX5_nextInProof 4 = .ok (.iload_n 3, 1) := by decide +kernel
theorem dX5_nextInProof_5 : decode cX5_nextInProof 5 = .ok (.aload_n 0, 1) := by decide +kernel
theorem dX5_nextInProof_6 : decode cX5_nextInProof 6 = .ok (.getfield 18, 3) := by decide +kernel
theorem dX5_nextInProof_9 : decode cX5_nextInProof 9 = .ok (.if_icmp .ge 74, 3) := by decide +kernel
theorem dX5_nextInProof_12 : decode cX5_nextInProof 12 = .ok (.aload_n 0, 1) := by decide +kernel
theorem dX5_nextInProof_13 : decode cX5_nextInProof 13 = .ok (.getfield 36, 3) := by decide +kernel
theorem dX5_nextInProof_16 : decode cX5_nextInProof 16 = .ok (.iload_n 1, 1) := by decide +kernel
theorem dX5_nextInProof_17 : decode cX5_nextInProof 17 = .ok (.iload_n 3, 1) := by decide +kernel
theorem dX5_nextInProof_18 : decode cX5_nextInProof 18 = .ok (.invokevirtual 97, 3) := by decide +kernel
theorem dX5_nextInProof_21 : decode cX5_nextInProof 21 = .ok (.istore 4, 2) := by decide +kernel
theorem dX5_nextInProof_23 : decode cX5_nextInProof 23 = .ok (.iload 4, 2) := by decide +kernel
theorem dX5_nextInProof_25 : decode cX5_nextInProof 25 = .ok (.iconst (-1), 1) := by decide +kernel
theorem dX5_nextInProof_26 : decode cX5_nextInProof 26 = .ok (.if_icmp .eq 29, 3) := by decide +kernel
theorem dX5_nextInProof_29 : decode cX5_nextInProof 29 = .ok (.aload_n 0, 1) := by decide +kernel
theorem dX5_nextInProof_30 : decode cX5_nextInProof 30 = .ok (.getfield 52, 3) := by decide +kernel
theorem dX5_nextInProof_33 : decode cX5_nextInProof 33 = .ok (.iload 4, 2) := by decide +kernel
theorem dX5_nextInProof_35 : decode cX5_nextInProof 35 = .ok (.invokevirtual 93, 3) := by decide +kernel
theorem dX5_nextInProof_38 : decode cX5_nextInProof 38 = .ok (.aload_n 0, 1) := by decide +kernel
theorem dX5_nextInProof_39 : decode cX5_nextInProof 39 = .ok (.getfield 52, 3) := by decide +kernel
theorem dX5_nextInProof_42 : decode cX5_nextInProof 42 = .ok (.iload_n 1, 1) := by decide +kernel
theorem dX5_nextInProof_43 : decode cX5_nextInProof 43 = .ok (.invokevirtual 93, 3) := by decide +kernel
theorem dX5_nextInProof_46 : decode cX5_nextInProof 46 = .ok (.iconst 1, 1) := by decide +kernel
theorem dX5_nextInProof_47 : decode cX5_nextInProof 47 = .ok (.isub, 1) := by decide +kernel
theorem dX5_nextInProof_48 : decode cX5_nextInProof 48 = .ok (.if_icmp .ne 7, 3) := by decide +kernel
theorem dX5_nextInProof_51 : decode cX5_nextInProof 51 = .ok (.iconst 1, 1) := by decide +kernel
theorem dX5_nextInProof_52 : decode cX5_nextInProof 52 = .ok (.goto 4, 3) := by decide +kernel
theorem dX5_nextInProof_55 : decode cX5_nextInProof 55 = .ok (.iconst 0, 1) := by decide +kernel
theorem dX5_nextInProof_56 : decode cX5_nextInProof 56 = .ok (.istore 5, 2) := by decide +kernel
theorem dX5_nextInProof_58 : decode cX5_nextInProof 58 = .ok (.iload 5, 2) := by decide +kernel
theorem dX5_nextInProof_60 : decode cX5_nextInProof 60 = .ok (.ifCond .eq 17, 3) := by decide +kernel
theorem dX5_nextInProof_63 : decode cX5_nextInProof 63 = .ok (.iload_n 2, 1) := by decide +kernel
theorem dX5_nextInProof_64 : decode cX5_nextInProof 64 = .ok (.iconst (-1), 1) := by decide +kernel
theorem dX5_nextInProof_65 : decode cX5_nextInProof 65 = .ok (.if_icmp .eq 9, 3) := by decide +kernel
theorem dX5_nextInProof_68 : decode cX5_nextInProof 68 = .ok (.iload 4, 2) := by decide +kernel
theorem dX5_nextInProof_70 : decode cX5_nextInProof 70 = .ok (.iload_n 2, 1) := by decide +kernel
theorem dX5_nextInProof_71 : decode cX5_nextInProof 71 = .ok (.if_icmp .ge 6, 3) := by decide +kernel
theorem dX5_nextInProof_74 : decode cX5_nextInProof 74 = .ok (.iload 4, 2) := by decide +kernel
theorem dX5_nextInProof_76 : decode cX5_nextInProof 76 = .ok (.istore_n 2, 1) := by decide +kernel
theorem dX5_nextInProof_77 : decode cX5_nextInProof 77 = .ok (.iinc 3 1, 3) := by decide +kernel
theorem dX5_nextInProof_80 : decode cX5_nextInProof 80 = .ok (.goto (-76), 3) := by decide +kernel
theorem dX5_nextInProof_83 : decode cX5_nextInProof 83 = .ok (.iload_n 2, 1) := by decide +kernel
theorem dX5_nextInProof_84 : decode cX5_nextInProof 84 = .ok (.ireturn, 1) := by decide +kernel
theorem dX5_cellOfStep_0 : decode cX5_cellOfStep 0 = .ok (.iconst 0, 1) := by decide +kernel
theorem dX5_cellOfStep_1 : decode cX5_cellOfStep 1 = .ok (.istore_n 3, 1) := by decide +kernel
theorem dX5_cellOfStep_2 : decode cX5_cellOfStep 2 = .ok (.iload_n 3, 1) := by decide +kernel
theorem dX5_cellOfStep_3 : decode cX5_cellOfStep 3 = .ok (.aload_n 0, 1) := by decide +kernel
theorem dX5_cellOfStep_4 : decode cX5_cellOfStep 4 = .ok (.getfield 18, 3) := by decide +kernel
theorem dX5_cellOfStep_7 : decode cX5_cellOfStep 7 = .ok (.if_icmp .ge 26, 3) := by decide +kernel
theorem dX5_cellOfStep_10 : decode cX5_cellOfStep 10 = .ok (.aload_n 0, 1) := by decide +kernel
theorem dX5_cellOfStep_11 : decode cX5_cellOfStep 11 = .ok (.getfield 36, 3) := by decide +kernel
theorem dX5_cellOfStep_14 : decode cX5_cellOfStep 14 = .ok (.iload_n 1, 1) := by decide +kernel
theorem dX5_cellOfStep_15 : decode cX5_cellOfStep 15 = .ok (.iload_n 3, 1) := by decide +kernel
theorem dX5_cellOfStep_16 : decode cX5_cellOfStep 16 = .ok (.invokevirtual 97, 3) := by decide +kernel
theorem dX5_cellOfStep_19 : decode cX5_cellOfStep 19 = .ok (.iload_n 2, 1) := by decide +kernel
theorem dX5_cellOfStep_20 : decode cX5_cellOfStep 20 = .ok (.if_icmp .ne 7, 3) := by decide +kernel
theorem dX5_cellOfStep_23 : decode cX5_cellOfStep 23 = .ok (.iload_n 3, 1) := by decide +kernel
theorem dX5_cellOfStep_24 : decode cX5_cellOfStep 24 = .ok (.iconst 2, 1) := by decide +kernel
theorem dX5_cellOfStep_25 : decode cX5_cellOfStep 25 = .ok (.idiv, 1) := by decide +kernel
theorem dX5_cellOfStep_26 : decode cX5_cellOfStep 26 = .ok (.ireturn, 1) := by decide +kernel
theorem dX5_cellOfStep_27 : decode cX5_cellOfStep 27 = .ok (.iinc 3 1, 3) := by decide +kernel
theorem dX5_cellOfStep_30 : decode cX5_cellOfStep 30 = .ok (.goto (-28), 3) := by decide +kernel
theorem dX5_cellOfStep_33 : decode cX5_cellOfStep 33 = .ok (.iconst (-1), 1) := by decide +kernel
theorem dX5_cellOfStep_34 : decode cX5_cellOfStep 34 = .ok (.ireturn, 1) := by decide +kernel
theorem dX5_reach_0 : decode cX5_reach 0 = .ok (.aload_n 0, 1) := by decide +kernel
theorem dX5_reach_1 : decode cX5_reach 1 = .ok (.getfield 52, 3) := by decide +kernel
theorem dX5_reach_4 : decode cX5_reach 4 = .ok (.iload_n 1, 1) := by decide +kernel
theorem dX5_reach_5 : decode cX5_reach 5 = .ok (.iload_n 2, 1) := by decide +kernel
theorem dX5_reach_6 : decode cX5_reach 6 = .ok (.invokevirtual 104, 3) := by decide +kernel
theorem dX5_reach_9 : decode cX5_reach 9 = .ok (.aload_n 0, 1) := by decide +kernel
theorem dX5_reach_10 : decode cX5_reach 10 = .ok (.getfield 55, 3) := by decide +kernel
theorem dX5_reach_13 : decode cX5_reach 13 = .ok (.aload_n 0, 1) := by decide +kernel
theorem dX5_reach_14 : decode cX5_reach 14 = .ok (.getfield 28, 3) := by decide +kernel
theorem dX5_reach_17 : decode cX5_reach 17 = .ok (.iload_n 1, 1) := by decide +kernel
theorem dX5_reach_18 : decode cX5_reach 18 = .ok (.invokevirtual 104, 3) := by decide +kernel
theorem dX5_reach_21 : decode cX5_reach 21 = .ok (.aload_n 0, 1) := by decide +kernel
theorem dX5_reach_22 : decode cX5_reach 22 = .ok (.dup, 1) := by decide +kernel
theorem dX5_reach_23 : decode cX5_reach 23 = .ok (.getfield 28, 3) := by decide +kernel
theorem dX5_reach_26 : decode cX5_reach 26 = .ok (.iconst 1, 1) := by decide +kernel
theorem dX5_reach_27 : decode cX5_reach 27 = .ok (.iadd, 1) := by decide +kernel
theorem dX5_reach_28 : decode cX5_reach 28 = .ok (.putfield 28, 3) := by decide +kernel
theorem dX5_reach_31 : decode cX5_reach 31 = .ok (.return_, 1) := by decide +kernel
theorem dX5_isEqualBy_0 : decode cX5_isEqualBy 0 = .ok (.aload_n 0, 1) := by decide +kernel
theorem dX5_isEqualBy_1 : decode cX5_isEqualBy 1 = .ok (.aload_n 1, 1) := by decide +kernel
theorem dX5_isEqualBy_2 : decode cX5_isEqualBy 2 = .ok (.iload_n 2, 1) := by decide +kernel
theorem dX5_isEqualBy_3 : decode cX5_isEqualBy 3 = .ok (.iconst 0, 1) := by decide +kernel
theorem dX5_isEqualBy_4 : decode cX5_isEqualBy 4 = .ok (.invokevirtual 70, 3) := by decide +kernel
theorem dX5_isEqualBy_7 : decode cX5_isEqualBy 7 = .ok (.iload_n 3, 1) := by decide +kernel
theorem dX5_isEqualBy_8 : decode cX5_isEqualBy 8 = .ok (.invokevirtual 109, 3) := by decide +kernel
theorem dX5_isEqualBy_11 : decode cX5_isEqualBy 11 = .ok (.aload_n 0, 1) := by decide +kernel
theorem dX5_isEqualBy_12 : decode cX5_isEqualBy 12 = .ok (.getfield 52, 3) := by decide +kernel
theorem dX5_isEqualBy_15 : decode cX5_isEqualBy 15 = .ok (.aload_n 1, 1) := by decide +kernel
theorem dX5_isEqualBy_16 : decode cX5_isEqualBy 16 = .ok (.iload_n 2, 1) := by decide +kernel
theorem dX5_isEqualBy_17 : decode cX5_isEqualBy 17 = .ok (.iconst 1, 1) := by decide +kernel
theorem dX5_isEqualBy_18 : decode cX5_isEqualBy 18 = .ok (.invokevirtual 70, 3) := by decide +kernel
theorem dX5_isEqualBy_21 : decode cX5_isEqualBy 21 = .ok (.invokevirtual 93, 3) := by decide +kernel
theorem dX5_isEqualBy_24 : decode cX5_isEqualBy 24 = .ok (.iconst (-1), 1) := by decide +kernel
theorem dX5_isEqualBy_25 : decode cX5_isEqualBy 25 = .ok (.if_icmp .eq 7, 3) := by decide +kernel
theorem dX5_isEqualBy_28 : decode cX5_isEqualBy 28 = .ok (.iconst 1, 1) := by decide +kernel
theorem dX5_isEqualBy_29 : decode cX5_isEqualBy 29 = .ok (.goto 4, 3) := by decide +kernel
theorem dX5_isEqualBy_32 : decode cX5_isEqualBy 32 = .ok (.iconst 0, 1) := by decide +kernel
theorem dX5_isEqualBy_33 : decode cX5_isEqualBy 33 = .ok (.ireturn, 1) := by decide +kernel
theorem dX5_findClasses_0 : decode cX5_findClasses 0 = .ok (.aload_n 0, 1) := by decide +kernel
theorem dX5_findClasses_1 : decode cX5_findClasses 1 = .ok (.getfield 45, 3) := by decide +kernel
theorem dX5_findClasses_4 : decode cX5_findClasses 4 = .ok (.iconst (-1), 1) := by decide +kernel
theorem dX5_findClasses_5 : decode cX5_findClasses 5 = .ok (.invokevirtual 61, 3) := by decide +kernel
theorem dX5_findClasses_8 : decode cX5_findClasses 8 = .ok (.aload_n 0, 1) := by decide +kernel
theorem dX5_findClasses_9 : decode cX5_findClasses 9 = .ok (.getfield 58, 3) := by decide +kernel
theorem dX5_findClasses_12 : decode cX5_findClasses 12 = .ok (.iconst 0, 1) := by decide +kernel
theorem dX5_findClasses_13 : decode cX5_findClasses 13 = .ok (.invokevirtual 112, 3) := by decide +kernel
theorem dX5_findClasses_16 : decode cX5_findClasses 16 = .ok (.aload_n 0, 1) := by decide +kernel
theorem dX5_findClasses_17 : decode cX5_findClasses 17 = .ok (.iconst 0, 1) := by decide +kernel
theorem dX5_findClasses_18 : decode cX5_findClasses 18 = .ok (.putfield 22, 3) := by decide +kernel
theorem dX5_findClasses_21 : decode cX5_findClasses 21 = .ok (.iconst 0, 1) := by decide +kernel
theorem dX5_findClasses_22 : decode cX5_findClasses 22 = .ok (.istore_n 2, 1) := by decide +kernel
theorem dX5_findClasses_23 : decode cX5_findClasses 23 = .ok (.iload_n 2, 1) := by decide +kernel
theorem dX5_findClasses_24 : decode cX5_findClasses 24 = .ok (.aload_n 1, 1) := by decide +kernel
theorem dX5_findClasses_25 : decode cX5_findClasses 25 = .ok (.invokevirtual 74, 3) := by decide +kernel
theorem dX5_findClasses_28 : decode cX5_findClasses 28 = .ok (.if_icmp .ge 54, 3) := by decide +kernel
theorem dX5_findClasses_31 : decode cX5_findClasses 31 = .ok (.aload_n 0, 1) := by decide +kernel
theorem dX5_findClasses_32 : decode cX5_findClasses 32 = .ok (.getfield 45, 3) := by decide +kernel
theorem dX5_findClasses_35 : decode cX5_findClasses 35 = .ok (.iload_n 2, 1) := by decide +kernel
theorem dX5_findClasses_36 : decode cX5_findClasses 36 = .ok (.invokevirtual 93, 3) := by decide +kernel
theorem dX5_findClasses_39 : decode cX5_findClasses 39 = .ok (.iconst (-1), 1) := by decide +kernel
theorem dX5_findClasses_40 : decode cX5_findClasses 40 = .ok (.if_icmp .ne 36, 3) := by decide +kernel
theorem dX5_findClasses_43 : decode cX5_findClasses 43 = .ok (.aload_n 0, 1) := by decide +kernel
theorem dX5_findClasses_44 : decode cX5_findClasses 44 = .ok (.iload_n 2, 1) := by decide +kernel
theorem dX5_findClasses_45 : decode cX5_findClasses 45 = .ok (.sipush 1023, 3) := by decide +kernel
theorem dX5_findClasses_48 : decode cX5_findClasses 48 = .ok (.invokevirtual 109, 3) := by decide +kernel
theorem dX5_findClasses_51 : decode cX5_findClasses 51 = .ok (.aload_n 0, 1) := by decide +kernel
theorem dX5_findClasses_52 : decode cX5_findClasses 52 = .ok (.iload_n 2, 1) := by decide +kernel
theorem dX5_findClasses_53 : decode cX5_findClasses 53 = .ok (.invokevirtual 113, 3) := by decide +kernel
theorem dX5_findClasses_56 : decode cX5_findClasses 56 = .ok (.aload_n 0, 1) := by decide +kernel
theorem dX5_findClasses_57 : decode cX5_findClasses 57 = .ok (.aload_n 1, 1) := by decide +kernel
theorem dX5_findClasses_58 : decode cX5_findClasses 58 = .ok (.getfield 116, 3) := by decide +kernel
theorem dX5_findClasses_61 : decode cX5_findClasses 61 = .ok (.iload_n 2, 1) := by decide +kernel
theorem dX5_findClasses_62 : decode cX5_findClasses 62 = .ok (.invokevirtual 93, 3) := by decide +kernel
theorem dX5_findClasses_65 : decode cX5_findClasses 65 = .ok (.aload_n 1, 1) := by decide +kernel
theorem dX5_findClasses_66 : decode cX5_findClasses 66 = .ok (.getfield 119, 3) := by decide +kernel
theorem dX5_findClasses_69 : decode cX5_findClasses 69 = .ok (.iload_n 2, 1) := by decide +kernel
theorem dX5_findClasses_70 : decode cX5_findClasses 70 = .ok (.invokevirtual 93, 3) := by decide +kernel
theorem dX5_findClasses_73 : decode cX5_findClasses 73 = .ok (.invokevirtual 122, 3) := by decide +kernel
theorem dX5_findClasses_76 : decode cX5_findClasses 76 = .ok (.iinc 2 1, 3) := by decide +kernel
theorem dX5_findClasses_79 : decode cX5_findClasses 79 = .ok (.goto (-56), 3) := by decide +kernel
theorem dX5_findClasses_82 : decode cX5_findClasses 82 = .ok (.return_, 1) := by decide +kernel
theorem dX5_countClass_0 : decode cX5_countClass 0 = .ok (.aload_n 0, 1) := by decide +kernel
theorem dX5_countClass_1 : decode cX5_countClass 1 = .ok (.getfield 58, 3) := by decide +kernel
theorem dX5_countClass_4 : decode cX5_countClass 4 = .ok (.iload_n 1, 1) := by decide +kernel
theorem dX5_countClass_5 : decode cX5_countClass 5 = .ok (.iload_n 2, 1) := by decide +kernel
theorem dX5_countClass_6 : decode cX5_countClass 6 = .ok (.aload_n 0, 1) := by decide +kernel
theorem dX5_countClass_7 : decode cX5_countClass 7 = .ok (.getfield 58, 3) := by decide +kernel
theorem dX5_countClass_10 : decode cX5_countClass 10 = .ok (.iload_n 1, 1) := by decide +kernel
theorem dX5_countClass_11 : decode cX5_countClass 11 = .ok (.iload_n 2, 1) := by decide +kernel
theorem dX5_countClass_12 : decode cX5_countClass 12 = .ok (.invokevirtual 97, 3) := by decide +kernel
theorem dX5_countClass_15 : decode cX5_countClass 15 = .ok (.iconst 1, 1) := by decide +kernel
theorem dX5_countClass_16 : decode cX5_countClass 16 = .ok (.iadd, 1) := by decide +kernel
theorem dX5_countClass_17 : decode cX5_countClass 17 = .ok (.invokevirtual 81, 3) := by decide +kernel
theorem dX5_countClass_20 : decode cX5_countClass 20 = .ok (.aload_n 0, 1) := by decide +kernel
theorem dX5_countClass_21 : decode cX5_countClass 21 = .ok (.dup, 1) := by decide +kernel
theorem dX5_countClass_22 : decode cX5_countClass 22 = .ok (.getfield 22, 3) := by decide +kernel
theorem dX5_countClass_25 : decode cX5_countClass 25 = .ok (.iconst 1, 1) := by decide +kernel
theorem dX5_countClass_26 : decode cX5_countClass 26 = .ok (.iadd, 1) := by decide +kernel
theorem dX5_countClass_27 : decode cX5_countClass 27 = .ok (.putfield 22, 3) := by decide +kernel
theorem dX5_countClass_30 : decode cX5_countClass 30 = .ok (.return_, 1) := by decide +kernel
theorem dX5_nameReached_0 : decode cX5_nameReached 0 = .ok (.iconst 0, 1) := by decide +kernel
theorem dX5_nameReached_1 : decode cX5_nameReached 1 = .ok (.istore_n 2, 1) := by decide +kernel
theorem dX5_nameReached_2 : decode cX5_nameReached 2 = .ok (.iload_n 2, 1) := by decide +kernel
theorem dX5_nameReached_3 : decode cX5_nameReached 3 = .ok (.aload_n 0, 1) := by decide +kernel
theorem dX5_nameReached_4 : decode cX5_nameReached 4 = .ok (.getfield 28, 3) := by decide +kernel
theorem dX5_nameReached_7 : decode cX5_nameReached 7 = .ok (.if_icmp .ge 44, 3) := by decide +kernel
theorem dX5_nameReached_10 : decode cX5_nameReached 10 = .ok (.aload_n 0, 1) := by decide +kernel
theorem dX5_nameReached_11 : decode cX5_nameReached 11 = .ok (.getfield 45, 3) := by decide +kernel
theorem dX5_nameReached_14 : decode cX5_nameReached 14 = .ok (.aload_n 0, 1) := by decide +kernel
theorem dX5_nameReached_15 : decode cX5_nameReached 15 = .ok (.getfield 55, 3) := by decide +kernel
theorem dX5_nameReached_18 : decode cX5_nameReached 18 = .ok (.iload_n 2, 1) := by decide +kernel
theorem dX5_nameReached_19 : decode cX5_nameReached 19 = .ok (.invokevirtual 93, 3) := by decide +kernel
theorem dX5_nameReached_22 : decode cX5_nameReached 22 = .ok (.iload_n 1, 1) := by decide +kernel
theorem dX5_nameReached_23 : decode cX5_nameReached 23 = .ok (.invokevirtual 104, 3) := by decide +kernel
theorem dX5_nameReached_26 : decode cX5_nameReached 26 = .ok (.aload_n 0, 1) := by decide +kernel
theorem dX5_nameReached_27 : decode cX5_nameReached 27 = .ok (.getfield 49, 3) := by decide +kernel
theorem dX5_nameReached_30 : decode cX5_nameReached 30 = .ok (.aload_n 0, 1) := by decide +kernel
theorem dX5_nameReached_31 : decode cX5_nameReached 31 = .ok (.getfield 55, 3) := by decide +kernel
theorem dX5_nameReached_34 : decode cX5_nameReached 34 = .ok (.iload_n 2, 1) := by decide +kernel
theorem dX5_nameReached_35 : decode cX5_nameReached 35 = .ok (.invokevirtual 93, 3) := by decide +kernel
theorem dX5_nameReached_38 : decode cX5_nameReached 38 = .ok (.aload_n 0, 1) := by decide +kernel
theorem dX5_nameReached_39 : decode cX5_nameReached 39 = .ok (.getfield 28, 3) := by decide +kernel
theorem dX5_nameReached_42 : decode cX5_nameReached 42 = .ok (.invokevirtual 104, 3) := by decide +kernel
theorem dX5_nameReached_45 : decode cX5_nameReached 45 = .ok (.iinc 2 1, 3) := by decide +kernel
theorem dX5_nameReached_48 : decode cX5_nameReached 48 = .ok (.goto (-46), 3) := by decide +kernel
theorem dX5_nameReached_51 : decode cX5_nameReached 51 = .ok (.return_, 1) := by decide +kernel
theorem dX5_stepFrom_0 : decode cX5_stepFrom 0 = .ok (.aload_n 0, 1) := by decide +kernel
theorem dX5_stepFrom_1 : decode cX5_stepFrom 1 = .ok (.getfield 36, 3) := by decide +kernel
theorem dX5_stepFrom_4 : decode cX5_stepFrom 4 = .ok (.aload_n 1, 1) := by decide +kernel
theorem dX5_stepFrom_5 : decode cX5_stepFrom 5 = .ok (.getfield 125, 3) := by decide +kernel
theorem dX5_stepFrom_8 : decode cX5_stepFrom 8 = .ok (.iload_n 2, 1) := by decide +kernel
theorem dX5_stepFrom_9 : decode cX5_stepFrom 9 = .ok (.invokevirtual 93, 3) := by decide +kernel
theorem dX5_stepFrom_12 : decode cX5_stepFrom 12 = .ok (.iload_n 3, 1) := by decide +kernel
theorem dX5_stepFrom_13 : decode cX5_stepFrom 13 = .ok (.invokevirtual 97, 3) := by decide +kernel
theorem dX5_stepFrom_16 : decode cX5_stepFrom 16 = .ok (.istore 6, 2) := by decide +kernel
theorem dX5_stepFrom_18 : decode cX5_stepFrom 18 = .ok (.iload 6, 2) := by decide +kernel
theorem dX5_stepFrom_20 : decode cX5_stepFrom 20 = .ok (.iconst (-1), 1) := by decide +kernel
theorem dX5_stepFrom_21 : decode cX5_stepFrom 21 = .ok (.if_icmp .eq 18, 3) := by decide +kernel
theorem dX5_stepFrom_24 : decode cX5_stepFrom 24 = .ok (.aload_n 1, 1) := by decide +kernel
theorem dX5_stepFrom_25 : decode cX5_stepFrom 25 = .ok (.getfield 128, 3) := by decide +kernel
theorem dX5_stepFrom_28 : decode cX5_stepFrom 28 = .ok (.iload 6, 2) := by decide +kernel
theorem dX5_stepFrom_30 : decode cX5_stepFrom 30 = .ok (.aload_n 1, 1) := by decide +kernel
theorem dX5_stepFrom_31 : decode cX5_stepFrom 31 = .ok (.iload_n 2, 1) := by decide +kernel
theorem dX5_stepFrom_32 : decode cX5_stepFrom 32 = .ok (.invokevirtual 131, 3) := by decide +kernel
theorem dX5_stepFrom_35 : decode cX5_stepFrom 35 = .ok (.invokevirtual 97, 3) := by decide +kernel
theorem dX5_stepFrom_38 : decode cX5_stepFrom 38 = .ok (.ireturn, 1) := by decide +kernel
theorem dX5_stepFrom_39 : decode cX5_stepFrom 39 = .ok (.iload_n 2, 1) := by decide +kernel
theorem dX5_stepFrom_40 : decode cX5_stepFrom 40 = .ok (.istore 7, 2) := by decide +kernel
theorem dX5_stepFrom_42 : decode cX5_stepFrom 42 = .ok (.aload_n 1, 1) := by decide +kernel
theorem dX5_stepFrom_43 : decode cX5_stepFrom 43 = .ok (.getfield 134, 3) := by decide +kernel
theorem dX5_stepFrom_46 : decode cX5_stepFrom 46 = .ok (.iload 4, 2) := by decide +kernel
theorem dX5_stepFrom_48 : decode cX5_stepFrom 48 = .ok (.invokevirtual 93, 3) := by decide +kernel
theorem dX5_stepFrom_51 : decode cX5_stepFrom 51 = .ok (.iconst 1, 1) := by decide +kernel
theorem dX5_stepFrom_52 : decode cX5_stepFrom 52 = .ok (.isub, 1) := by decide +kernel
theorem dX5_stepFrom_53 : decode cX5_stepFrom 53 = .ok (.istore 8, 2) := by decide +kernel
theorem dX5_stepFrom_55 : decode cX5_stepFrom 55 = .ok (.iload 8, 2) := by decide +kernel
theorem dX5_stepFrom_57 : decode cX5_stepFrom 57 = .ok (.ifCond .lt 42, 3) := by decide +kernel
theorem dX5_stepFrom_60 : decode cX5_stepFrom 60 = .ok (.aload_n 1, 1) := by decide +kernel
theorem dX5_stepFrom_61 : decode cX5_stepFrom 61 = .ok (.iload 7, 2) := by decide +kernel
theorem dX5_stepFrom_63 : decode cX5_stepFrom 63 = .ok (.invokevirtual 131, 3) := by decide +kernel
theorem dX5_stepFrom_66 : decode cX5_stepFrom 66 = .ok (.aload_n 1, 1) := by decide +kernel
theorem dX5_stepFrom_67 : decode cX5_stepFrom 67 = .ok (.getfield 137, 3) := by decide +kernel
theorem dX5_stepFrom_70 : decode cX5_stepFrom 70 = .ok (.iload 4, 2) := by decide +kernel
theorem dX5_stepFrom_72 : decode cX5_stepFrom 72 = .ok (.iload 8, 2) := by decide +kernel
theorem dX5_stepFrom_74 : decode cX5_stepFrom 74 = .ok (.invokevirtual 97, 3) := by decide +kernel
theorem dX5_stepFrom_77 : decode cX5_stepFrom 77 = .ok (.if_icmp .eq 5, 3) := by decide +kernel
theorem dX5_stepFrom_80 : decode cX5_stepFrom 80 = .ok (.iconst (-1), 1) := by decide +kernel
theorem dX5_stepFrom_81 : decode cX5_stepFrom 81 = .ok (.ireturn, 1) := by decide +kernel
theorem dX5_stepFrom_82 : decode cX5_stepFrom 82 = .ok (.aload_n 1, 1) := by decide +kernel
theorem dX5_stepFrom_83 : decode cX5_stepFrom 83 = .ok (.getfield 125, 3) := by decide +kernel
theorem dX5_stepFrom_86 : decode cX5_stepFrom 86 = .ok (.iload 7, 2) := by decide +kernel
theorem dX5_stepFrom_88 : decode cX5_stepFrom 88 = .ok (.invokevirtual 93, 3) := by decide +kernel
theorem dX5_stepFrom_91 : decode cX5_stepFrom 91 = .ok (.istore 7, 2) := by decide +kernel
theorem dX5_stepFrom_93 : decode cX5_stepFrom 93 = .ok (.iinc 8 (-1), 3) := by decide +kernel
theorem dX5_stepFrom_96 : decode cX5_stepFrom 96 = .ok (.goto (-41), 3) := by decide +kernel
theorem dX5_stepFrom_99 : decode cX5_stepFrom 99 = .ok (.iconst 0, 1) := by decide +kernel
theorem dX5_stepFrom_100 : decode cX5_stepFrom 100 = .ok (.istore 8, 2) := by decide +kernel
theorem dX5_stepFrom_102 : decode cX5_stepFrom 102 = .ok (.iload 8, 2) := by decide +kernel
theorem dX5_stepFrom_104 : decode cX5_stepFrom 104 = .ok (.aload_n 1, 1) := by decide +kernel
theorem dX5_stepFrom_105 : decode cX5_stepFrom 105 = .ok (.getfield 134, 3) := by decide +kernel
theorem dX5_stepFrom_108 : decode cX5_stepFrom 108 = .ok (.iload 5, 2) := by decide +kernel
theorem dX5_stepFrom_110 : decode cX5_stepFrom 110 = .ok (.invokevirtual 93, 3) := by decide +kernel
theorem dX5_stepFrom_113 : decode cX5_stepFrom 113 = .ok (.if_icmp .ge 31, 3) := by decide +kernel
theorem dX5_stepFrom_116 : decode cX5_stepFrom 116 = .ok (.aload_n 1, 1) := by decide +kernel
theorem dX5_stepFrom_117 : decode cX5_stepFrom 117 = .ok (.getfield 128, 3) := by decide +kernel
theorem dX5_stepFrom_120 : decode cX5_stepFrom 120 = .ok (.iload 7, 2) := by decide +kernel
theorem dX5_stepFrom_122 : decode cX5_stepFrom 122 = .ok (.aload_n 1, 1) := by decide +kernel
theorem dX5_stepFrom_123 : decode cX5_stepFrom 123 = .ok (.getfield 137, 3) := by decide +kernel
theorem dX5_stepFrom_126 : decode cX5_stepFrom 126 = .ok (.iload 5, 2) := by decide +kernel
theorem dX5_stepFrom_128 : decode cX5_stepFrom 128 = .ok (.iload 8, 2) := by decide +kernel
theorem dX5_stepFrom_130 : decode cX5_stepFrom 130 = .ok (.invokevirtual 97, 3) := by decide +kernel
theorem dX5_stepFrom_133 : decode cX5_stepFrom 133 = .ok (.invokevirtual 97, 3) := by decide +kernel
theorem dX5_stepFrom_136 : decode cX5_stepFrom 136 = .ok (.istore 7, 2) := by decide +kernel
theorem dX5_stepFrom_138 : decode cX5_stepFrom 138 = .ok (.iinc 8 1, 3) := by decide +kernel
theorem dX5_stepFrom_141 : decode cX5_stepFrom 141 = .ok (.goto (-39), 3) := by decide +kernel
theorem dX5_stepFrom_144 : decode cX5_stepFrom 144 = .ok (.iload 7, 2) := by decide +kernel
theorem dX5_stepFrom_146 : decode cX5_stepFrom 146 = .ok (.ireturn, 1) := by decide +kernel
theorem dX6_init_0 : decode cX6_init 0 = .ok (.aload_n 0, 1) := by decide +kernel
theorem dX6_init_1 : decode cX6_init 1 = .ok (.invokespecial 3, 3) := by decide +kernel
theorem dX6_init_4 : decode cX6_init 4 = .ok (.aload_n 0, 1) := by decide +kernel
theorem dX6_init_5 : decode cX6_init 5 = .ok (.iconst 0, 1) := by decide +kernel
theorem dX6_init_6 : decode cX6_init 6 = .ok (.putfield 9, 3) := by decide +kernel
theorem dX6_init_9 : decode cX6_init 9 = .ok (.aload_n 0, 1) := by decide +kernel
theorem dX6_init_10 : decode cX6_init 10 = .ok (.new 15, 3) := by decide +kernel
theorem dX6_init_13 : decode cX6_init 13 = .ok (.dup, 1) := by decide +kernel
theorem dX6_init_14 : decode cX6_init 14 = .ok (.sipush 300, 3) := by decide +kernel
theorem dX6_init_17 : decode cX6_init 17 = .ok (.invokespecial 17, 3) := by decide +kernel
theorem dX6_init_20 : decode cX6_init 20 = .ok (.putfield 20, 3) := by decide +kernel
theorem dX6_init_23 : decode cX6_init 23 = .ok (.aload_n 0, 1) := by decide +kernel
theorem dX6_init_24 : decode cX6_init 24 = .ok (.new 15, 3) := by decide +kernel
theorem dX6_init_27 : decode cX6_init 27 = .ok (.dup, 1) := by decide +kernel
theorem dX6_init_28 : decode cX6_init 28 = .ok (.sipush 300, 3) := by decide +kernel
theorem dX6_init_31 : decode cX6_init 31 = .ok (.invokespecial 17, 3) := by decide +kernel
theorem dX6_init_34 : decode cX6_init 34 = .ok (.putfield 24, 3) := by decide +kernel
theorem dX6_init_37 : decode cX6_init 37 = .ok (.aload_n 0, 1) := by decide +kernel
theorem dX6_init_38 : decode cX6_init 38 = .ok (.new 15, 3) := by decide +kernel
theorem dX6_init_41 : decode cX6_init 41 = .ok (.dup, 1) := by decide +kernel
theorem dX6_init_42 : decode cX6_init 42 = .ok (.sipush 300, 3) := by decide +kernel
theorem dX6_init_45 : decode cX6_init 45 = .ok (.invokespecial 17, 3) := by decide +kernel
theorem dX6_init_48 : decode cX6_init 48 = .ok (.putfield 27, 3) := by decide +kernel
theorem dX6_init_51 : decode cX6_init 51 = .ok (.aload_n 0, 1) := by decide +kernel
theorem dX6_init_52 : decode cX6_init 52 = .ok (.new 30, 3) := by decide +kernel
theorem dX6_init_55 : decode cX6_init 55 = .ok (.dup, 1) := by decide +kernel
theorem dX6_init_56 : decode cX6_init 56 = .ok (.sipush 300, 3) := by decide +kernel
theorem dX6_init_59 : decode cX6_init 59 = .ok (.bipush 7, 2) := by decide +kernel
theorem dX6_init_61 : decode cX6_init 61 = .ok (.invokespecial 32, 3) := by decide +kernel
theorem dX6_init_64 : decode cX6_init 64 = .ok (.putfield 35, 3) := by decide +kernel
theorem dX6_init_67 : decode cX6_init 67 = .ok (.aload_n 0, 1) := by decide +kernel
theorem dX6_init_68 : decode cX6_init 68 = .ok (.new 15, 3) := by decide +kernel
theorem dX6_init_71 : decode cX6_init 71 = .ok (.dup, 1) := by decide +kernel
theorem dX6_init_72 : decode cX6_init 72 = .ok (.sipush 300, 3) := by decide +kernel
theorem dX6_init_75 : decode cX6_init 75 = .ok (.invokespecial 17, 3) := by decide +kernel
theorem dX6_init_78 : decode cX6_init 78 = .ok (.putfield 39, 3) := by decide +kernel
theorem dX6_init_81 : decode cX6_init 81 = .ok (.aload_n 0, 1) := by decide +kernel
theorem dX6_init_82 : decode cX6_init 82 = .ok (.new 30, 3) := by decide +kernel
theorem dX6_init_85 : decode cX6_init 85 = .ok (.dup, 1) := by decide +kernel
theorem dX6_init_86 : decode cX6_init 86 = .ok (.sipush 300, 3) := by decide +kernel
theorem dX6_init_89 : decode cX6_init 89 = .ok (.bipush 14, 2) := by decide +kernel
theorem dX6_init_91 : decode cX6_init 91 = .ok (.invokespecial 32, 3) := by decide +kernel
theorem dX6_init_94 : decode cX6_init 94 = .ok (.putfield 42, 3) := by decide +kernel
theorem dX6_init_97 : decode cX6_init 97 = .ok (.return_, 1) := by decide +kernel
theorem dX6_rebuild_0 : decode cX6_rebuild 0 = .ok (.aload_n 0, 1) := by decide +kernel
theorem dX6_rebuild_1 : decode cX6_rebuild 1 = .ok (.iconst 0, 1) := by decide +kernel
theorem dX6_rebuild_2 : decode cX6_rebuild 2 = .ok (.putfield 9, 3) := by decide +kernel
theorem dX6_rebuild_5 : decode cX6_rebuild 5 = .ok (.iconst 0, 1) := by decide +kernel
theorem dX6_rebuild_6 : decode cX6_rebuild 6 = .ok (.istore_n 2, 1) := by decide +kernel
theorem dX6_rebuild_7 : decode cX6_rebuild 7 = .ok (.iload_n 2, 1) := by decide +kernel
theorem dX6_rebuild_8 : decode cX6_rebuild 8 = .ok (.aload_n 1, 1) := by decide +kernel
theorem dX6_rebuild_9 : decode cX6_rebuild 9 = .ok (.invokevirtual 45, 3) := by decide +kernel
theorem dX6_rebuild_12 : decode cX6_rebuild 12 = .ok (.if_icmp .ge 17, 3) := by decide +kernel
theorem dX6_rebuild_15 : decode cX6_rebuild 15 = .ok (.aload_n 0, 1) := by decide +kernel
theorem dX6_rebuild_16 : decode cX6_rebuild 16 = .ok (.iload_n 2, 1) := by decide +kernel
theorem dX6_rebuild_17 : decode cX6_rebuild 17 = .ok (.iload_n 2, 1) := by decide +kernel
theorem dX6_rebuild_18 : decode cX6_rebuild 18 = .ok (.iconst 0, 1) := by decide +kernel
theorem dX6_rebuild_19 : decode cX6_rebuild 19 = .ok (.iconst (-1), 1) := by decide +kernel
theorem dX6_rebuild_20 : decode cX6_rebuild 20 = .ok (.invokevirtual 51, 3) := by decide +kernel
theorem dX6_rebuild_23 : decode cX6_rebuild 23 = .ok (.iinc 2 1, 3) := by decide +kernel
theorem dX6_rebuild_26 : decode cX6_rebuild 26 = .ok (.goto (-19), 3) := by decide +kernel
theorem dX6_rebuild_29 : decode cX6_rebuild 29 = .ok (.iconst 0, 1) := by decide +kernel
theorem dX6_rebuild_30 : decode cX6_rebuild 30 = .ok (.istore_n 2, 1) := by decide +kernel
theorem dX6_rebuild_31 : decode cX6_rebuild 31 = .ok (.iload_n 2, 1) := by decide +kernel
theorem dX6_rebuild_32 : decode cX6_rebuild 32 = .ok (.aload_n 1, 1) := by decide +kernel
theorem dX6_rebuild_33 : decode cX6_rebuild 33 = .ok (.invokevirtual 55, 3) := by decide +kernel
theorem dX6_rebuild_36 : decode cX6_rebuild 36 = .ok (.if_icmp .ge 24, 3) := by decide +kernel
theorem dX6_rebuild_39 : decode cX6_rebuild 39 = .ok (.aload_n 0, 1) := by decide +kernel
theorem dX6_rebuild_40 : decode cX6_rebuild 40 = .ok (.aload_n 1, 1) := by decide +kernel
theorem dX6_rebuild_41 : decode cX6_rebuild 41 = .ok (.iload_n 2, 1) := by decide +kernel
theorem dX6_rebuild_42 : decode cX6_rebuild 42 = .ok (.invokevirtual 58, 3) := by decide +kernel
theorem dX6_rebuild_45 : decode cX6_rebuild 45 = .ok (.iload_n 2, 1) := by decide +kernel
theorem dX6_rebuild_46 : decode cX6_rebuild 46 = .ok (.aload_n 1, 1) := by decide +kernel
theorem dX6_rebuild_47 : decode cX6_rebuild 47 = .ok (.iload_n 2, 1) := by decide +kernel
theorem dX6_rebuild_48 : decode cX6_rebuild 48 = .ok (.invokevirtual 62, 3) := by decide +kernel
theorem dX6_rebuild_51 : decode cX6_rebuild 51 = .ok (.invokevirtual 65, 3) := by decide +kernel
theorem dX6_rebuild_54 : decode cX6_rebuild 54 = .ok (.iinc 2 1, 3) := by decide +kernel
theorem dX6_rebuild_57 : decode cX6_rebuild 57 = .ok (.goto (-26), 3) := by decide +kernel
theorem dX6_rebuild_60 : decode cX6_rebuild 60 = .ok (.aload_n 1, 1) := by decide +kernel
theorem dX6_rebuild_61 : decode cX6_rebuild 61 = .ok (.invokevirtual 45, 3) := by decide +kernel
theorem dX6_rebuild_64 : decode cX6_rebuild 64 = .ok (.istore_n 2, 1) := by decide +kernel
theorem dX6_rebuild_65 : decode cX6_rebuild 65 = .ok (.iload_n 2, 1) := by decide +kernel
theorem dX6_rebuild_66 : decode cX6_rebuild 66 = .ok (.aload_n 0, 1) := by decide +kernel
theorem dX6_rebuild_67 : decode cX6_rebuild 67 = .ok (.getfield 9, 3) := by decide +kernel
theorem dX6_rebuild_70 : decode cX6_rebuild 70 = .ok (.if_icmp .ge 59, 3) := by decide +kernel
theorem dX6_rebuild_73 : decode cX6_rebuild 73 = .ok (.iload_n 2, 1) := by decide +kernel
theorem dX6_rebuild_74 : decode cX6_rebuild 74 = .ok (.sipush 300, 3) := by decide +kernel
theorem dX6_rebuild_77 : decode cX6_rebuild 77 = .ok (.if_icmp .ge 52, 3) := by decide +kernel
theorem dX6_rebuild_80 : decode cX6_rebuild 80 = .ok (.iconst 0, 1) := by decide +kernel
theorem dX6_rebuild_81 : decode cX6_rebuild 81 = .ok (.istore_n 3, 1) := by decide +kernel
theorem dX6_rebuild_82 : decode cX6_rebuild 82 = .ok (.iload_n 3, 1) := by decide +kernel
theorem dX6_rebuild_83 : decode cX6_rebuild 83 = .ok (.aload_n 1, 1) := by decide +kernel
theorem dX6_rebuild_84 : decode cX6_rebuild 84 = .ok (.invokevirtual 55, 3) := by decide +kernel
theorem dX6_rebuild_87 : decode cX6_rebuild 87 = .ok (.if_icmp .ge 36, 3) := by decide +kernel
theorem dX6_rebuild_90 : decode cX6_rebuild 90 = .ok (.aload_n 1, 1) := by decide +kernel
theorem dX6_rebuild_91 : decode cX6_rebuild 91 = .ok (.iload_n 3, 1) := by decide +kernel
theorem dX6_rebuild_92 : decode cX6_rebuild 92 = .ok (.invokevirtual 58, 3) := by decide +kernel
theorem dX6_rebuild_95 : decode cX6_rebuild 95 = .ok (.aload_n 0, 1) := by decide +kernel
theorem dX6_rebuild_96 : decode cX6_rebuild 96 = .ok (.getfield 24, 3) := by decide +kernel
theorem dX6_rebuild_99 : decode cX6_rebuild 99 = .ok (.iload_n 2, 1) := by decide +kernel
theorem dX6_rebuild_100 : decode cX6_rebuild 100 = .ok (.invokevirtual 69, 3) := by decide +kernel
theorem dX6_rebuild_103 : decode cX6_rebuild 103 = .ok (.if_icmp .ne 14, 3) := by decide +kernel
theorem dX6_rebuild_106 : decode cX6_rebuild 106 = .ok (.aload_n 0, 1) := by decide +kernel
theorem dX6_rebuild_107 : decode cX6_rebuild 107 = .ok (.iload_n 2, 1) := by decide +kernel
theorem dX6_rebuild_108 : decode cX6_rebuild 108 = .ok (.iload_n 3, 1) := by decide +kernel
theorem dX6_rebuild_109 : decode cX6_rebuild 109 = .ok (.aload_n 1, 1) := by decide +kernel
theorem dX6_rebuild_110 : decode cX6_rebuild 110 = .ok (.iload_n 3, 1) := by decide +kernel
theorem dX6_rebuild_111 : decode cX6_rebuild 111 = .ok (.invokevirtual 62, 3) := by decide +kernel
theorem dX6_rebuild_114 : decode cX6_rebuild 114 = .ok (.invokevirtual 65, 3) := by decide +kernel
theorem dX6_rebuild_117 : decode cX6_rebuild 117 = .ok (.iinc 3 1, 3) := by decide +kernel
theorem dX6_rebuild_120 : decode cX6_rebuild 120 = .ok (.goto (-38), 3) := by decide +kernel
theorem dX6_rebuild_123 : decode cX6_rebuild 123 = .ok (.iinc 2 1, 3) := by decide +kernel
theorem dX6_rebuild_126 : decode cX6_rebuild 126 = .ok (.goto (-61), 3) := by decide +kernel
theorem dX6_rebuild_129 : decode cX6_rebuild 129 = .ok (.return_, 1) := by decide +kernel
theorem dX6_total_0 : decode cX6_total 0 = .ok (.aload_n 0, 1) := by decide +kernel
theorem dX6_total_1 : decode cX6_total 1 = .ok (.getfield 9, 3) := by decide +kernel
theorem dX6_total_4 : decode cX6_total 4 = .ok (.ireturn, 1) := by decide +kernel
theorem dX6_last_0 : decode cX6_last 0 = .ok (.aload_n 0, 1) := by decide +kernel
theorem dX6_last_1 : decode cX6_last 1 = .ok (.getfield 35, 3) := by decide +kernel
theorem dX6_last_4 : decode cX6_last 4 = .ok (.iload_n 1, 1) := by decide +kernel
theorem dX6_last_5 : decode cX6_last 5 = .ok (.aload_n 0, 1) := by decide +kernel
theorem dX6_last_6 : decode cX6_last 6 = .ok (.getfield 27, 3) := by decide +kernel
theorem dX6_last_9 : decode cX6_last 9 = .ok (.iload_n 1, 1) := by decide +kernel
theorem dX6_last_10 : decode cX6_last 10 = .ok (.invokevirtual 69, 3) := by decide +kernel
theorem dX6_last_13 : decode cX6_last 13 = .ok (.iconst 1, 1) := by decide +kernel
theorem dX6_last_14 : decode cX6_last 14 = .ok (.isub, 1) := by decide +kernel
theorem dX6_last_15 : decode cX6_last 15 = .ok (.invokevirtual 72, 3) := by decide +kernel
theorem dX6_last_18 : decode cX6_last 18 = .ok (.ireturn, 1) := by decide +kernel
theorem dX6_leads_0 : decode cX6_leads 0 = .ok (.aload_n 0, 1) := by decide +kernel
theorem dX6_leads_1 : decode cX6_leads 1 = .ok (.getfield 20, 3) := by decide +kernel
theorem dX6_leads_4 : decode cX6_leads 4 = .ok (.iload_n 1, 1) := by decide +kernel
theorem dX6_leads_5 : decode cX6_leads 5 = .ok (.invokevirtual 69, 3) := by decide +kernel
theorem dX6_leads_8 : decode cX6_leads 8 = .ok (.iload_n 2, 1) := by decide +kernel
theorem dX6_leads_9 : decode cX6_leads 9 = .ok (.if_icmp .ne 19, 3) := by decide +kernel
theorem dX6_leads_12 : decode cX6_leads 12 = .ok (.aload_n 0, 1) := by decide +kernel
theorem dX6_leads_13 : decode cX6_leads 13 = .ok (.getfield 24, 3) := by decide +kernel
theorem dX6_leads_16 : decode cX6_leads 16 = .ok (.iload_n 1, 1) := by decide +kernel
theorem dX6_leads_17 : decode cX6_leads 17 = .ok (.invokevirtual 69, 3) := by decide +kernel
theorem dX6_leads_20 : decode cX6_leads 20 = .ok (.iload_n 3, 1) := by decide +kernel
theorem dX6_leads_21 : decode cX6_leads 21 = .ok (.if_icmp .ne 7, 3) := by decide +kernel
theorem dX6_leads_24 : decode cX6_leads 24 = .ok (.iconst 1, 1) := by decide +kernel
theorem dX6_leads_25 : decode cX6_leads 25 = .ok (.goto 4, 3) := by decide +kernel
theorem dX6_leads_28 : decode cX6_leads 28 = .ok (.iconst 0, 1) := by decide +kernel
theorem dX6_leads_29 : decode cX6_leads 29 = .ok (.ireturn, 1) := by decide +kernel
theorem dX6_enter_0 : decode cX6_enter 0 = .ok (.aload_n 0, 1) := by decide +kernel
theorem dX6_enter_1 : decode cX6_enter 1 = .ok (.getfield 20, 3) := by decide +kernel
theorem dX6_enter_4 : decode cX6_enter 4 = .ok (.aload_n 0, 1) := by decide +kernel
theorem dX6_enter_5 : decode cX6_enter 5 = .ok (.getfield 9, 3) := by decide +kernel
theorem dX6_enter_8 : decode cX6_enter 8 = .ok (.iload_n 1, 1) := by decide +kernel
theorem dX6_enter_9 : decode cX6_enter 9 = .ok (.invokevirtual 75, 3) := by decide +kernel
theorem dX6_enter_12 : decode cX6_enter 12 = .ok (.aload_n 0, 1) := by decide +kernel
theorem dX6_enter_13 : decode cX6_enter 13 = .ok (.getfield 24, 3) := by decide +kernel
theorem dX6_enter_16 : decode cX6_enter 16 = .ok (.aload_n 0, 1) := by decide +kernel
theorem dX6_enter_17 : decode cX6_enter 17 = .ok (.getfield 9, 3) := by decide +kernel
theorem dX6_enter_20 : decode cX6_enter 20 = .ok (.iload_n 2, 1) := by decide +kernel
theorem dX6_enter_21 : decode cX6_enter 21 = .ok (.invokevirtual 75, 3) := by decide +kernel
theorem dX6_enter_24 : decode cX6_enter 24 = .ok (.aload_n 0, 1) := by decide +kernel
theorem dX6_enter_25 : decode cX6_enter 25 = .ok (.getfield 27, 3) := by decide +kernel
theorem dX6_enter_28 : decode cX6_enter 28 = .ok (.aload_n 0, 1) := by decide +kernel
theorem dX6_enter_29 : decode cX6_enter 29 = .ok (.getfield 9, 3) := by decide +kernel
theorem dX6_enter_32 : decode cX6_enter 32 = .ok (.iload_n 3, 1) := by decide +kernel
theorem dX6_enter_33 : decode cX6_enter 33 = .ok (.invokevirtual 75, 3) := by decide +kernel
theorem dX6_enter_36 : decode cX6_enter 36 = .ok (.aload_n 0, 1) := by decide +kernel
theorem dX6_enter_37 : decode cX6_enter 37 = .ok (.getfield 39, 3) := by decide +kernel
theorem dX6_enter_40 : decode cX6_enter 40 = .ok (.aload_n 0, 1) := by decide +kernel
theorem dX6_enter_41 : decode cX6_enter 41 = .ok (.getfield 9, 3) := by decide +kernel
theorem dX6_enter_44 : decode cX6_enter 44 = .ok (.iload 4, 2) := by decide +kernel
theorem dX6_enter_46 : decode cX6_enter 46 = .ok (.invokevirtual 75, 3) := by decide +kernel
theorem dX6_enter_49 : decode cX6_enter 49 = .ok (.iconst 0, 1) := by decide +kernel
theorem dX6_enter_50 : decode cX6_enter 50 = .ok (.istore 5, 2) := by decide +kernel
theorem dX6_enter_52 : decode cX6_enter 52 = .ok (.iload 5, 2) := by decide +kernel
theorem dX6_enter_54 : decode cX6_enter 54 = .ok (.bipush 14, 2) := by decide +kernel
theorem dX6_enter_56 : decode cX6_enter 56 = .ok (.if_icmp .ge 23, 3) := by decide +kernel
theorem dX6_enter_59 : decode cX6_enter 59 = .ok (.aload_n 0, 1) := by decide +kernel
theorem dX6_enter_60 : decode cX6_enter 60 = .ok (.getfield 42, 3) := by decide +kernel
theorem dX6_enter_63 : decode cX6_enter 63 = .ok (.aload_n 0, 1) := by decide +kernel
theorem dX6_enter_64 : decode cX6_enter 64 = .ok (.getfield 9, 3) := by decide +kernel
theorem dX6_enter_67 : decode cX6_enter 67 = .ok (.iload 5, 2) := by decide +kernel
theorem dX6_enter_69 : decode cX6_enter 69 = .ok (.iconst (-1), 1) := by decide +kernel
theorem dX6_enter_70 : decode cX6_enter 70 = .ok (.invokevirtual 78, 3) := by decide +kernel
theorem dX6_enter_73 : decode cX6_enter 73 = .ok (.iinc 5 1, 3) := by decide +kernel
theorem dX6_enter_76 : decode cX6_enter 76 = .ok (.goto (-24), 3) := by decide +kernel
theorem dX6_enter_79 : decode cX6_enter 79 = .ok (.aload_n 0, 1) := by decide +kernel
theorem dX6_enter_80 : decode cX6_enter 80 = .ok (.dup, 1) := by decide +kernel
theorem dX6_enter_81 : decode cX6_enter 81 = .ok (.getfield 9, 3) := by decide +kernel
theorem dX6_enter_84 : decode cX6_enter 84 = .ok (.iconst 1, 1) := by decide +kernel
theorem dX6_enter_85 : decode cX6_enter 85 = .ok (.iadd, 1) := by decide +kernel
theorem dX6_enter_86 : decode cX6_enter 86 = .ok (.putfield 9, 3) := by decide +kernel
theorem dX6_enter_89 : decode cX6_enter 89 = .ok (.return_, 1) := by decide +kernel
theorem dX6_enterLonger_0 : decode cX6_enterLonger 0 = .ok (.aload_n 0, 1) := by decide +kernel
theorem dX6_enterLonger_1 : decode cX6_enterLonger 1 = .ok (.getfield 27, 3) := by decide +kernel
theorem dX6_enterLonger_4 : decode cX6_enterLonger 4 = .ok (.iload_n 1, 1) := by decide +kernel
theorem dX6_enterLonger_5 : decode cX6_enterLonger 5 = .ok (.invokevirtual 69, 3) := by decide +kernel
theorem dX6_enterLonger_8 : decode cX6_enterLonger 8 = .ok (.istore 4, 2) := by decide +kernel
theorem dX6_enterLonger_10 : decode cX6_enterLonger 10 = .ok (.iconst 0, 1) := by decide +kernel
theorem dX6_enterLonger_11 : decode cX6_enterLonger 11 = .ok (.istore 5, 2) := by decide +kernel
theorem dX6_enterLonger_13 : decode cX6_enterLonger 13 = .ok (.iload 5, 2) := by decide +kernel
theorem dX6_enterLonger_15 : decode cX6_enterLonger 15 = .ok (.iload 4, 2) := by decide +kernel
theorem dX6_enterLonger_17 : decode cX6_enterLonger 17 = .ok (.if_icmp .ge 32, 3) := by decide +kernel
theorem dX6_enterLonger_20 : decode cX6_enterLonger 20 = .ok (.aload_n 0, 1) := by decide +kernel
theorem dX6_enterLonger_21 : decode cX6_enterLonger 21 = .ok (.getfield 35, 3) := by decide +kernel
theorem dX6_enterLonger_24 : decode cX6_enterLonger 24 = .ok (.aload_n 0, 1) := by decide +kernel
theorem dX6_enterLonger_25 : decode cX6_enterLonger 25 = .ok (.getfield 9, 3) := by decide +kernel
theorem dX6_enterLonger_28 : decode cX6_enterLonger 28 = .ok (.iload 5, 2) := by decide +kernel
theorem dX6_enterLonger_30 : decode cX6_enterLonger 30 = .ok (.aload_n 0, 1) := by decide +kernel
theorem dX6_enterLonger_31 : decode cX6_enterLonger 31 = .ok (.getfield 35, 3) := by decide +kernel
theorem dX6_enterLonger_34 : decode cX6_enterLonger 34 = .ok (.iload_n 1, 1) := by decide +kernel
theorem dX6_enterLonger_35 : decode cX6_enterLonger 35 = .ok (.iload 5, 2) := by decide +kernel
theorem dX6_enterLonger_37 : decode cX6_enterLonger 37 = .ok (.invokevirtual 72, 3) := by decide +kernel
theorem dX6_enterLonger_40 : decode cX6_enterLonger 40 = .ok (.invokevirtual 78, 3) := by decide +kernel
theorem dX6_enterLonger_43 : decode cX6_enterLonger 43 = .ok (.iinc 5 1, 3) := by decide +kernel
theorem dX6_enterLonger_46 : decode cX6_enterLonger 46 = .ok (.goto (-33), 3) := by decide +kernel
theorem dX6_enterLonger_49 : decode cX6_enterLonger 49 = .ok (.aload_n 0, 1) := by decide +kernel
theorem dX6_enterLonger_50 : decode cX6_enterLonger 50 = .ok (.getfield 35, 3) := by decide +kernel
theorem dX6_enterLonger_53 : decode cX6_enterLonger 53 = .ok (.aload_n 0, 1) := by decide +kernel
theorem dX6_enterLonger_54 : decode cX6_enterLonger 54 = .ok (.getfield 9, 3) := by decide +kernel
theorem dX6_enterLonger_57 : decode cX6_enterLonger 57 = .ok (.iload 4, 2) := by decide +kernel
theorem dX6_enterLonger_59 : decode cX6_enterLonger 59 = .ok (.iload_n 2, 1) := by decide +kernel
theorem dX6_enterLonger_60 : decode cX6_enterLonger 60 = .ok (.invokevirtual 78, 3) := by decide +kernel
theorem dX6_enterLonger_63 : decode cX6_enterLonger 63 = .ok (.aload_n 0, 1) := by decide +kernel
theorem dX6_enterLonger_64 : decode cX6_enterLonger 64 = .ok (.getfield 42, 3) := by decide +kernel
theorem dX6_enterLonger_67 : decode cX6_enterLonger 67 = .ok (.iload_n 1, 1) := by decide +kernel
theorem dX6_enterLonger_68 : decode cX6_enterLonger 68 = .ok (.iload_n 2, 1) := by decide +kernel
theorem dX6_enterLonger_69 : decode cX6_enterLonger 69 = .ok (.aload_n 0, 1) := by decide +kernel
theorem dX6_enterLonger_70 : decode cX6_enterLonger 70 = .ok (.getfield 9, 3) := by decide +kernel
theorem dX6_enterLonger_73 : decode cX6_enterLonger 73 = .ok (.invokevirtual 78, 3) := by decide +kernel
theorem dX6_enterLonger_76 : decode cX6_enterLonger 76 = .ok (.aload_n 0, 1) := by decide +kernel
theorem dX6_enterLonger_77 : decode cX6_enterLonger 77 = .ok (.aload_n 0, 1) := by decide +kernel
theorem dX6_enterLonger_78 : decode cX6_enterLonger 78 = .ok (.getfield 20, 3) := by decide +kernel
theorem dX6_enterLonger_81 : decode cX6_enterLonger 81 = .ok (.iload_n 1, 1) := by decide +kernel
theorem dX6_enterLonger_82 : decode cX6_enterLonger 82 = .ok (.invokevirtual 69, 3) := by decide +kernel
theorem dX6_enterLonger_85 : decode cX6_enterLonger 85 = .ok (.iload_n 3, 1) := by decide +kernel
theorem dX6_enterLonger_86 : decode cX6_enterLonger 86 = .ok (.iload 4, 2) := by decide +kernel
theorem dX6_enterLonger_88 : decode cX6_enterLonger 88 = .ok (.iconst 1, 1) := by decide +kernel
theorem dX6_enterLonger_89 : decode cX6_enterLonger 89 = .ok (.iadd, 1) := by decide +kernel
theorem dX6_enterLonger_90 : decode cX6_enterLonger 90 = .ok (.iload_n 1, 1) := by decide +kernel
theorem dX6_enterLonger_91 : decode cX6_enterLonger 91 = .ok (.invokevirtual 51, 3) := by decide +kernel
theorem dX6_enterLonger_94 : decode cX6_enterLonger 94 = .ok (.return_, 1) := by decide +kernel
theorem dX7_init_0 : decode cX7_init 0 = .ok (.aload_n 0, 1) := by decide +kernel
theorem dX7_init_1 : decode cX7_init 1 = .ok (.invokespecial 3, 3) := by decide +kernel
theorem dX7_init_4 : decode cX7_init 4 = .ok (.aload_n 0, 1) := by decide +kernel
theorem dX7_init_5 : decode cX7_init 5 = .ok (.new 9, 3) := by decide +kernel
theorem dX7_init_8 : decode cX7_init 8 = .ok (.dup, 1) := by decide +kernel
theorem dX7_init_9 : decode cX7_init 9 = .ok (.invokespecial 11, 3) := by decide +kernel
theorem dX7_init_12 : decode cX7_init 12 = .ok (.putfield 12, 3) := by decide +kernel
theorem dX7_init_15 : decode cX7_init 15 = .ok (.aload_n 0, 1) := by decide +kernel
theorem dX7_init_16 : decode cX7_init 16 = .ok (.new 18, 3) := by decide +kernel
theorem dX7_init_19 : decode cX7_init 19 = .ok (.dup, 1) := by decide +kernel
theorem dX7_init_20 : decode cX7_init 20 = .ok (.invokespecial 20, 3) := by decide +kernel
theorem dX7_init_23 : decode cX7_init 23 = .ok (.putfield 21, 3) := by decide +kernel
theorem dX7_init_26 : decode cX7_init 26 = .ok (.aload_n 0, 1) := by decide +kernel
theorem dX7_init_27 : decode cX7_init 27 = .ok (.iconst 0, 1) := by decide +kernel
theorem dX7_init_28 : decode cX7_init 28 = .ok (.putfield 25, 3) := by decide +kernel
theorem dX7_init_31 : decode cX7_init 31 = .ok (.aload_n 0, 1) := by decide +kernel
theorem dX7_init_32 : decode cX7_init 32 = .ok (.iconst 0, 1) := by decide +kernel
theorem dX7_init_33 : decode cX7_init 33 = .ok (.putfield 29, 3) := by decide +kernel
theorem dX7_init_36 : decode cX7_init 36 = .ok (.aload_n 0, 1) := by decide +kernel
theorem dX7_init_37 : decode cX7_init 37 = .ok (.iconst 0, 1) := by decide +kernel
theorem dX7_init_38 : decode cX7_init 38 = .ok (.putfield 32, 3) := by decide +kernel
theorem dX7_init_41 : decode cX7_init 41 = .ok (.aload_n 0, 1) := by decide +kernel
theorem dX7_init_42 : decode cX7_init 42 = .ok (.iconst 0, 1) := by decide +kernel
theorem dX7_init_43 : decode cX7_init 43 = .ok (.putfield 35, 3) := by decide +kernel
theorem dX7_init_46 : decode cX7_init 46 = .ok (.return_, 1) := by decide +kernel
theorem dX7_read_0 : decode cX7_read 0 = .ok (.aload_n 0, 1) := by decide +kernel
theorem dX7_read_1 : decode cX7_read 1 = .ok (.getfield 12, 3) := by decide +kernel
theorem dX7_read_4 : decode cX7_read 4 = .ok (.aload_n 2, 1) := by decide +kernel
theorem dX7_read_5 : decode cX7_read 5 = .ok (.invokevirtual 38, 3) := by decide +kernel
theorem dX7_read_8 : decode cX7_read 8 = .ok (.aload_n 0, 1) := by decide +kernel
theorem dX7_read_9 : decode cX7_read 9 = .ok (.getfield 21, 3) := by decide +kernel
theorem dX7_read_12 : decode cX7_read 12 = .ok (.aload_n 3, 1) := by decide +kernel
theorem dX7_read_13 : decode cX7_read 13 = .ok (.invokevirtual 42, 3) := by decide +kernel
theorem dX7_read_16 : decode cX7_read 16 = .ok (.aload_n 0, 1) := by decide +kernel
theorem dX7_read_17 : decode cX7_read 17 = .ok (.iconst 0, 1) := by decide +kernel
theorem dX7_read_18 : decode cX7_read 18 = .ok (.putfield 25, 3) := by decide +kernel
theorem dX7_read_21 : decode cX7_read 21 = .ok (.iconst 0, 1) := by decide +kernel
theorem dX7_read_22 : decode cX7_read 22 = .ok (.istore 4, 2) := by decide +kernel
theorem dX7_read_24 : decode cX7_read 24 = .ok (.iload 4, 2) := by decide +kernel
theorem dX7_read_26 : decode cX7_read 26 = .ok (.aload_n 1, 1) := by decide +kernel
theorem dX7_read_27 : decode cX7_read 27 = .ok (.invokevirtual 45, 3) := by decide +kernel
theorem dX7_read_30 : decode cX7_read 30 = .ok (.if_icmp .ge 25, 3) := by decide +kernel
theorem dX7_read_33 : decode cX7_read 33 = .ok (.aload_n 0, 1) := by decide +kernel
theorem dX7_read_34 : decode cX7_read 34 = .ok (.aload_n 1, 1) := by decide +kernel
theorem dX7_read_35 : decode cX7_read 35 = .ok (.iload 4, 2) := by decide +kernel
theorem dX7_read_37 : decode cX7_read 37 = .ok (.invokevirtual 51, 3) := by decide +kernel
theorem dX7_read_40 : decode cX7_read 40 = .ok (.invokevirtual 55, 3) := by decide +kernel
theorem dX7_read_43 : decode cX7_read 43 = .ok (.ifCond .ne 6, 3) := by decide +kernel
theorem dX7_read_46 : decode cX7_read 46 = .ok (.iload 4, 2) := by decide +kernel
theorem dX7_read_48 : decode cX7_read 48 = .ok (.ireturn, 1) := by decide +kernel
theorem dX7_read_49 : decode cX7_read 49 = .ok (.iinc 4 1, 3) := by decide +kernel
theorem dX7_read_52 : decode cX7_read 52 = .ok (.goto (-28), 3) := by decide +kernel
theorem dX7_read_55 : decode cX7_read 55 = .ok (.aload_n 1, 1) := by decide +kernel
theorem dX7_read_56 : decode cX7_read 56 = .ok (.invokevirtual 45, 3) := by decide +kernel
theorem dX7_read_59 : decode cX7_read 59 = .ok (.ireturn, 1) := by decide +kernel
theorem dX7_isComplete_0 : decode cX7_isComplete 0 = .ok (.aload_n 0, 1) := by decide +kernel
theorem dX7_isComplete_1 : decode cX7_isComplete 1 = .ok (.getfield 25, 3) := by decide +kernel
theorem dX7_isComplete_4 : decode cX7_isComplete 4 = .ok (.iconst 2, 1) := by decide +kernel
theorem dX7_isComplete_5 : decode cX7_isComplete 5 = .ok (.if_icmp .eq 22, 3) := by decide +kernel
theorem dX7_isComplete_8 : decode cX7_isComplete 8 = .ok (.aload_n 0, 1) := by decide +kernel
theorem dX7_isComplete_9 : decode cX7_isComplete 9 = .ok (.getfield 25, 3) := by decide +kernel
theorem dX7_isComplete_12 : decode cX7_isComplete 12 = .ok (.iconst 5, 1) := by decide +kernel
theorem dX7_isComplete_13 : decode cX7_isComplete 13 = .ok (.if_icmp .ne 18, 3) := by decide +kernel
theorem dX7_isComplete_16 : decode cX7_isComplete 16 = .ok (.aload_n 0, 1) := by decide +kernel
theorem dX7_isComplete_17 : decode cX7_isComplete 17 = .ok (.getfield 32, 3) := by decide +kernel
theorem dX7_isComplete_20 : decode cX7_isComplete 20 = .ok (.aload_n 0, 1) := by decide +kernel
theorem dX7_isComplete_21 : decode cX7_isComplete 21 = .ok (.getfield 35, 3) := by decide +kernel
theorem dX7_isComplete_24 : decode cX7_isComplete 24 = .ok (.if_icmp .ne 7, 3) := by decide +kernel
theorem dX7_isComplete_27 : decode cX7_isComplete 27 = .ok (.iconst 1, 1) := by decide +kernel
theorem dX7_isComplete_28 : decode cX7_isComplete 28 = .ok (.goto 4, 3) := by decide +kernel
theorem dX7_isComplete_31 : decode cX7_isComplete 31 = .ok (.iconst 0, 1) := by decide +kernel
theorem dX7_isComplete_32 : decode cX7_isComplete 32 = .ok (.ireturn, 1) := by decide +kernel
theorem dX7_graphRead_0 : decode cX7_graphRead 0 = .ok (.aload_n 0, 1) := by decide +kernel
theorem dX7_graphRead_1 : decode cX7_graphRead 1 = .ok (.getfield 12, 3) := by decide +kernel
theorem dX7_graphRead_4 : decode cX7_graphRead 4 = .ok (.areturn, 1) := by decide +kernel
theorem dX7_cellsRead_0 : decode cX7_cellsRead 0 = .ok (.aload_n 0, 1) := by decide +kernel
theorem dX7_cellsRead_1 : decode cX7_cellsRead 1 = .ok (.getfield 21, 3) := by decide +kernel
theorem dX7_cellsRead_4 : decode cX7_cellsRead 4 = .ok (.areturn, 1) := by decide +kernel
theorem dX7_accepts_0 : decode cX7_accepts 0 = .ok (.aload_n 0, 1) := by decide +kernel
theorem dX7_accepts_1 : decode cX7_accepts 1 = .ok (.getfield 25, 3) := by decide +kernel
theorem dX7_accepts_4 : decode cX7_accepts 4 = .ok (.tableswitch 118 0 4 #[36, 64, 73, 79, 109], 36) := by decide +kernel
theorem dX7_accepts_40 : decode cX7_accepts 40 = .ok (.aload_n 0, 1) := by decide +kernel
theorem dX7_accepts_41 : decode cX7_accepts 41 = .ok (.iload_n 1, 1) := by decide +kernel
theorem dX7_accepts_42 : decode cX7_accepts 42 = .ok (.bipush 48, 2) := by decide +kernel
theorem dX7_accepts_44 : decode cX7_accepts 44 = .ok (.isub, 1) := by decide +kernel
theorem dX7_accepts_45 : decode cX7_accepts 45 = .ok (.invokevirtual 59, 3) := by decide +kernel
theorem dX7_accepts_48 : decode cX7_accepts 48 = .ok (.ifCond .ne 14, 3) := by decide +kernel
theorem dX7_accepts_51 : decode cX7_accepts 51 = .ok (.aload_n 0, 1) := by decide +kernel
theorem dX7_accepts_52 : decode cX7_accepts 52 = .ok (.iload_n 1, 1) := by decide +kernel
theorem dX7_accepts_53 : decode cX7_accepts 53 = .ok (.bipush 97, 2) := by decide +kernel
theorem dX7_accepts_55 : decode cX7_accepts 55 = .ok (.isub, 1) := by decide +kernel
theorem dX7_accepts_56 : decode cX7_accepts 56 = .ok (.invokevirtual 62, 3) := by decide +kernel
theorem dX7_accepts_59 : decode cX7_accepts 59 = .ok (.ifCond .eq 7, 3) := by decide +kernel
theorem dX7_accepts_62 : decode cX7_accepts 62 = .ok (.iconst 1, 1) := by decide +kernel
theorem dX7_accepts_63 : decode cX7_accepts 63 = .ok (.goto 4, 3) := by decide +kernel
theorem dX7_accepts_66 : decode cX7_accepts 66 = .ok (.iconst 0, 1) := by decide +kernel
theorem dX7_accepts_67 : decode cX7_accepts 67 = .ok (.ireturn, 1) := by decide +kernel
theorem dX7_accepts_68 : decode cX7_accepts 68 = .ok (.aload_n 0, 1) := by decide +kernel
theorem dX7_accepts_69 : decode cX7_accepts 69 = .ok (.iload_n 1, 1) := by decide +kernel
theorem dX7_accepts_70 : decode cX7_accepts 70 = .ok (.bipush 48, 2) := by decide +kernel
theorem dX7_accepts_72 : decode cX7_accepts 72 = .ok (.isub, 1) := by decide +kernel
theorem dX7_accepts_73 : decode cX7_accepts 73 = .ok (.invokevirtual 65, 3) := by decide +kernel
theorem dX7_accepts_76 : decode cX7_accepts 76 = .ok (.ireturn, 1) := by decide +kernel
theorem dX7_accepts_77 : decode cX7_accepts 77 = .ok (.aload_n 0, 1) := by decide +kernel
theorem dX7_accepts_78 : decode cX7_accepts 78 = .ok (.iload_n 1, 1) := by decide +kernel
theorem dX7_accepts_79 : decode cX7_accepts 79 = .ok (.invokevirtual 68, 3) := by decide +kernel
theorem dX7_accepts_82 : decode cX7_accepts 82 = .ok (.ireturn, 1) := by decide +kernel
theorem dX7_accepts_83 : decode cX7_accepts 83 = .ok (.aload_n 0, 1) := by decide +kernel
theorem dX7_accepts_84 : decode cX7_accepts 84 = .ok (.iconst 0, 1) := by decide +kernel
theorem dX7_accepts_85 : decode cX7_accepts 85 = .ok (.aload_n 0, 1) := by decide +kernel
theorem dX7_accepts_86 : decode cX7_accepts 86 = .ok (.getfield 32, 3) := by decide +kernel
theorem dX7_accepts_89 : decode cX7_accepts 89 = .ok (.iload_n 1, 1) := by decide +kernel
theorem dX7_accepts_90 : decode cX7_accepts 90 = .ok (.bipush 97, 2) := by decide +kernel
theorem dX7_accepts_92 : decode cX7_accepts 92 = .ok (.isub, 1) := by decide +kernel
theorem dX7_accepts_93 : decode cX7_accepts 93 = .ok (.invokevirtual 71, 3) := by decide +kernel
theorem dX7_accepts_96 : decode cX7_accepts 96 = .ok (.ifCond .ne 11, 3) := by decide +kernel
theorem dX7_accepts_99 : decode cX7_accepts 99 = .ok (.aload_n 0, 1) := by decide +kernel
theorem dX7_accepts_100 : decode cX7_accepts 100 = .ok (.iload_n 1, 1) := by decide +kernel
theorem dX7_accepts_101 : decode cX7_accepts 101 = .ok (.invokevirtual 75, 3) := by decide +kernel
theorem dX7_accepts_104 : decode cX7_accepts 104 = .ok (.ifCond .eq 7, 3) := by decide +kernel
theorem dX7_accepts_107 : decode cX7_accepts 107 = .ok (.iconst 1, 1) := by decide +kernel
theorem dX7_accepts_108 : decode cX7_accepts 108 = .ok (.goto 4, 3) := by decide +kernel
theorem dX7_accepts_111 : decode cX7_accepts 111 = .ok (.iconst 0, 1) := by decide +kernel
theorem dX7_accepts_112 : decode cX7_accepts 112 = .ok (.ireturn, 1) := by decide +kernel
theorem dX7_accepts_113 : decode cX7_accepts 113 = .ok (.aload_n 0, 1) := by decide +kernel
theorem dX7_accepts_114 : decode cX7_accepts 114 = .ok (.iload_n 1, 1) := by decide +kernel
theorem dX7_accepts_115 : decode cX7_accepts 115 = .ok (.bipush 97, 2) := by decide +kernel
theorem dX7_accepts_117 : decode cX7_accepts 117 = .ok (.isub, 1) := by decide +kernel
theorem dX7_accepts_118 : decode cX7_accepts 118 = .ok (.invokevirtual 78, 3) := by decide +kernel
theorem dX7_accepts_121 : decode cX7_accepts 121 = .ok (.ireturn, 1) := by decide +kernel
theorem dX7_accepts_122 : decode cX7_accepts 122 = .ok (.aload_n 0, 1) := by decide +kernel
theorem dX7_accepts_123 : decode cX7_accepts 123 = .ok (.iconst 1, 1) := by decide +kernel
theorem dX7_accepts_124 : decode cX7_accepts 124 = .ok (.aload_n 0, 1) := by decide +kernel
theorem dX7_accepts_125 : decode cX7_accepts 125 = .ok (.getfield 32, 3) := by decide +kernel
theorem dX7_accepts_128 : decode cX7_accepts 128 = .ok (.iload_n 1, 1) := by decide +kernel
theorem dX7_accepts_129 : decode cX7_accepts 129 = .ok (.bipush 97, 2) := by decide +kernel
theorem dX7_accepts_131 : decode cX7_accepts 131 = .ok (.isub, 1) := by decide +kernel
theorem dX7_accepts_132 : decode cX7_accepts 132 = .ok (.invokevirtual 71, 3) := by decide +kernel
theorem dX7_accepts_135 : decode cX7_accepts 135 = .ok (.ifCond .ne 11, 3) := by decide +kernel
theorem dX7_accepts_138 : decode cX7_accepts 138 = .ok (.aload_n 0, 1) := by decide +kernel
theorem dX7_accepts_139 : decode cX7_accepts 139 = .ok (.iload_n 1, 1) := by decide +kernel
theorem dX7_accepts_140 : decode cX7_accepts 140 = .ok (.invokevirtual 68, 3) := by decide +kernel
theorem dX7_accepts_143 : decode cX7_accepts 143 = .ok (.ifCond .eq 7, 3) := by decide +kernel
theorem dX7_accepts_146 : decode cX7_accepts 146 = .ok (.iconst 1, 1) := by decide +kernel
theorem dX7_accepts_147 : decode cX7_accepts 147 = .ok (.goto 4, 3) := by decide +kernel
theorem dX7_accepts_150 : decode cX7_accepts 150 = .ok (.iconst 0, 1) := by decide +kernel
theorem dX7_accepts_151 : decode cX7_accepts 151 = .ok (.ireturn, 1) := by decide +kernel
theorem dX7_beginsArrow_0 : decode cX7_beginsArrow 0 = .ok (.iload_n 1, 1) := by decide +kernel
theorem dX7_beginsArrow_1 : decode cX7_beginsArrow 1 = .ok (.ifCond .lt 28, 3) := by decide +kernel
theorem dX7_beginsArrow_4 : decode cX7_beginsArrow 4 = .ok (.iload_n 1, 1) := by decide +kernel
theorem dX7_beginsArrow_5 : decode cX7_beginsArrow 5 = .ok (.aload_n 0, 1) := by decide +kernel
theorem dX7_beginsArrow_6 : decode cX7_beginsArrow 6 = .ok (.getfield 12, 3) := by decide +kernel
theorem dX7_beginsArrow_9 : decode cX7_beginsArrow 9 = .ok (.invokevirtual 81, 3) := by decide +kernel
theorem dX7_beginsArrow_12 : decode cX7_beginsArrow 12 = .ok (.iconst 1, 1) := by decide +kernel
theorem dX7_beginsArrow_13 : decode cX7_beginsArrow 13 = .ok (.isub, 1) := by decide +kernel
theorem dX7_beginsArrow_14 : decode cX7_beginsArrow 14 = .ok (.if_icmp .ge 15, 3) := by decide +kernel
theorem dX7_beginsArrow_17 : decode cX7_beginsArrow 17 = .ok (.aload_n 0, 1) := by decide +kernel
theorem dX7_beginsArrow_18 : decode cX7_beginsArrow 18 = .ok (.getfield 12, 3) := by decide +kernel
theorem dX7_beginsArrow_21 : decode cX7_beginsArrow 21 = .ok (.invokevirtual 84, 3) := by decide +kernel
theorem dX7_beginsArrow_24 : decode cX7_beginsArrow 24 = .ok (.bipush 14, 2) := by decide +kernel
theorem dX7_beginsArrow_26 : decode cX7_beginsArrow 26 = .ok (.if_icmp .lt 5, 3) := by decide +kernel
theorem dX7_beginsArrow_29 : decode cX7_beginsArrow 29 = .ok (.iconst 0, 1) := by decide +kernel
theorem dX7_beginsArrow_30 : decode cX7_beginsArrow 30 = .ok (.ireturn, 1) := by decide +kernel
theorem dX7_beginsArrow_31 : decode cX7_beginsArrow 31 = .ok (.aload_n 0, 1) := by decide +kernel
theorem dX7_beginsArrow_32 : decode cX7_beginsArrow 32 = .ok (.iload_n 1, 1) := by decide +kernel
theorem dX7_beginsArrow_33 : decode cX7_beginsArrow 33 = .ok (.putfield 29, 3) := by decide +kernel
theorem dX7_beginsArrow_36 : decode cX7_beginsArrow 36 = .ok (.aload_n 0, 1) := by decide +kernel
theorem dX7_beginsArrow_37 : decode cX7_beginsArrow 37 = .ok (.iconst 1, 1) := by decide +kernel
theorem dX7_beginsArrow_38 : decode cX7_beginsArrow 38 = .ok (.putfield 25, 3) := by decide +kernel
theorem dX7_beginsArrow_41 : decode cX7_beginsArrow 41 = .ok (.iconst 1, 1) := by decide +kernel
theorem dX7_beginsArrow_42 : decode cX7_beginsArrow 42 = .ok (.ireturn, 1) := by decide +kernel
theorem dX7_endsArrow_0 : decode cX7_endsArrow 0 = .ok (.iload_n 1, 1) := by decide +kernel
theorem dX7_endsArrow_1 : decode cX7_endsArrow 1 = .ok (.aload_n 0, 1) := by decide +kernel
theorem dX7_endsArrow_2 : decode cX7_endsArrow 2 = .ok (.getfield 29, 3) := by decide +kernel
theorem dX7_endsArrow_5 : decode cX7_endsArrow 5 = .ok (.if_icmp .le 14, 3) := by decide +kernel
theorem dX7_endsArrow_8 : decode cX7_endsArrow 8 = .ok (.aload_n 0, 1) := by decide +kernel
theorem dX7_endsArrow_9 : decode cX7_endsArrow 9 = .ok (.getfield 12, 3) := by decide +kernel
theorem dX7_endsArrow_12 : decode cX7_endsArrow 12 = .ok (.iload_n 1, 1) := by decide +kernel
theorem dX7_endsArrow_13 : decode cX7_endsArrow 13 = .ok (.invokevirtual 87, 3) := by decide +kernel
theorem dX7_endsArrow_16 : decode cX7_endsArrow 16 = .ok (.ifCond .ne 5, 3) := by decide +kernel
theorem dX7_endsArrow_19 : decode cX7_endsArrow 19 = .ok (.iconst 0, 1) := by decide +kernel
theorem dX7_endsArrow_20 : decode cX7_endsArrow 20 = .ok (.ireturn, 1) := by decide +kernel
theorem dX7_endsArrow_21 : decode cX7_endsArrow 21 = .ok (.aload_n 0, 1) := by decide +kernel
theorem dX7_endsArrow_22 : decode cX7_endsArrow 22 = .ok (.getfield 12, 3) := by decide +kernel
theorem dX7_endsArrow_25 : decode cX7_endsArrow 25 = .ok (.aload_n 0, 1) := by decide +kernel
theorem dX7_endsArrow_26 : decode cX7_endsArrow 26 = .ok (.getfield 29, 3) := by decide +kernel
theorem dX7_endsArrow_29 : decode cX7_endsArrow 29 = .ok (.iload_n 1, 1) := by decide +kernel
theorem dX7_endsArrow_30 : decode cX7_endsArrow 30 = .ok (.invokevirtual 90, 3) := by decide +kernel
theorem dX7_endsArrow_33 : decode cX7_endsArrow 33 = .ok (.pop, 1) := by decide +kernel
theorem dX7_endsArrow_34 : decode cX7_endsArrow 34 = .ok (.aload_n 0, 1) := by decide +kernel
theorem dX7_endsArrow_35 : decode cX7_endsArrow 35 = .ok (.iconst 2, 1) := by decide +kernel
theorem dX7_endsArrow_36 : decode cX7_endsArrow 36 = .ok (.putfield 25, 3) := by decide +kernel
theorem dX7_endsArrow_39 : decode cX7_endsArrow 39 = .ok (.iconst 1, 1) := by decide +kernel
theorem dX7_endsArrow_40 : decode cX7_endsArrow 40 = .ok (.ireturn, 1) := by decide +kernel
theorem dX7_beginsCell_0 : decode cX7_beginsCell 0 = .ok (.aload_n 0, 1) := by decide +kernel
theorem dX7_beginsCell_1 : decode cX7_beginsCell 1 = .ok (.getfield 12, 3) := by decide +kernel
theorem dX7_beginsCell_4 : decode cX7_beginsCell 4 = .ok (.iload_n 1, 1) := by decide +kernel
theorem dX7_beginsCell_5 : decode cX7_beginsCell 5 = .ok (.invokevirtual 94, 3) := by decide +kernel
theorem dX7_beginsCell_8 : decode cX7_beginsCell 8 = .ok (.ifCond .eq 15, 3) := by decide +kernel
theorem dX7_beginsCell_11 : decode cX7_beginsCell 11 = .ok (.aload_n 0, 1) := by decide +kernel
theorem dX7_beginsCell_12 : decode cX7_beginsCell 12 = .ok (.getfield 21, 3) := by decide +kernel
theorem dX7_beginsCell_15 : decode cX7_beginsCell 15 = .ok (.invokevirtual 97, 3) := by decide +kernel
theorem dX7_beginsCell_18 : decode cX7_beginsCell 18 = .ok (.bipush 10, 2) := by decide +kernel
theorem dX7_beginsCell_20 : decode cX7_beginsCell 20 = .ok (.if_icmp .lt 5, 3) := by decide +kernel
theorem dX7_beginsCell_23 : decode cX7_beginsCell 23 = .ok (.iconst 0, 1) := by decide +kernel
theorem dX7_beginsCell_24 : decode cX7_beginsCell 24 = .ok (.ireturn, 1) := by decide +kernel
theorem dX7_beginsCell_25 : decode cX7_beginsCell 25 = .ok (.aload_n 0, 1) := by decide +kernel
theorem dX7_beginsCell_26 : decode cX7_beginsCell 26 = .ok (.aload_n 0, 1) := by decide +kernel
theorem dX7_beginsCell_27 : decode cX7_beginsCell 27 = .ok (.getfield 12, 3) := by decide +kernel
theorem dX7_beginsCell_30 : decode cX7_beginsCell 30 = .ok (.iload_n 1, 1) := by decide +kernel
theorem dX7_beginsCell_31 : decode cX7_beginsCell 31 = .ok (.invokevirtual 100, 3) := by decide +kernel
theorem dX7_beginsCell_34 : decode cX7_beginsCell 34 = .ok (.putfield 29, 3) := by decide +kernel
theorem dX7_beginsCell_37 : decode cX7_beginsCell 37 = .ok (.aload_n 0, 1) := by decide +kernel
theorem dX7_beginsCell_38 : decode cX7_beginsCell 38 = .ok (.getfield 21, 3) := by decide +kernel
theorem dX7_beginsCell_41 : decode cX7_beginsCell 41 = .ok (.aload_n 0, 1) := by decide +kernel
theorem dX7_beginsCell_42 : decode cX7_beginsCell 42 = .ok (.getfield 29, 3) := by decide +kernel
theorem dX7_beginsCell_45 : decode cX7_beginsCell 45 = .ok (.invokevirtual 102, 3) := by decide +kernel
theorem dX7_beginsCell_48 : decode cX7_beginsCell 48 = .ok (.pop, 1) := by decide +kernel
theorem dX7_beginsCell_49 : decode cX7_beginsCell 49 = .ok (.aload_n 0, 1) := by decide +kernel
theorem dX7_beginsCell_50 : decode cX7_beginsCell 50 = .ok (.iconst 3, 1) := by decide +kernel
theorem dX7_beginsCell_51 : decode cX7_beginsCell 51 = .ok (.putfield 25, 3) := by decide +kernel
theorem dX7_beginsCell_54 : decode cX7_beginsCell 54 = .ok (.aload_n 0, 1) := by decide +kernel
theorem dX7_beginsCell_55 : decode cX7_beginsCell 55 = .ok (.iconst 0, 1) := by decide +kernel
theorem dX7_beginsCell_56 : decode cX7_beginsCell 56 = .ok (.aload_n 0, 1) := by decide +kernel
theorem dX7_beginsCell_57 : decode cX7_beginsCell 57 = .ok (.getfield 29, 3) := by decide +kernel
theorem dX7_beginsCell_60 : decode cX7_beginsCell 60 = .ok (.iload_n 1, 1) := by decide +kernel
theorem dX7_beginsCell_61 : decode cX7_beginsCell 61 = .ok (.invokevirtual 71, 3) := by decide +kernel
theorem dX7_beginsCell_64 : decode cX7_beginsCell 64 = .ok (.ireturn, 1) := by decide +kernel
theorem dX7_beginsSecond_0 : decode cX7_beginsSecond 0 = .ok (.aload_n 0, 1) := by decide +kernel
theorem dX7_beginsSecond_1 : decode cX7_beginsSecond 1 = .ok (.iconst 1, 1) := by decide +kernel
theorem dX7_beginsSecond_2 : decode cX7_beginsSecond 2 = .ok (.aload_n 0, 1) := by decide +kernel
theorem dX7_beginsSecond_3 : decode cX7_beginsSecond 3 = .ok (.getfield 29, 3) := by decide +kernel
theorem dX7_beginsSecond_6 : decode cX7_beginsSecond 6 = .ok (.iload_n 1, 1) := by decide +kernel
theorem dX7_beginsSecond_7 : decode cX7_beginsSecond 7 = .ok (.invokevirtual 71, 3) := by decide +kernel
theorem dX7_beginsSecond_10 : decode cX7_beginsSecond 10 = .ok (.ifCond .ne 5, 3) := by decide +kernel
theorem dX7_beginsSecond_13 : decode cX7_beginsSecond 13 = .ok (.iconst 0, 1) := by decide +kernel
theorem dX7_beginsSecond_14 : decode cX7_beginsSecond 14 = .ok (.ireturn, 1) := by decide +kernel
theorem dX7_beginsSecond_15 : decode cX7_beginsSecond 15 = .ok (.aload_n 0, 1) := by decide +kernel
theorem dX7_beginsSecond_16 : decode cX7_beginsSecond 16 = .ok (.iconst 5, 1) := by decide +kernel
theorem dX7_beginsSecond_17 : decode cX7_beginsSecond 17 = .ok (.putfield 25, 3) := by decide +kernel
theorem dX7_beginsSecond_20 : decode cX7_beginsSecond 20 = .ok (.iconst 1, 1) := by decide +kernel
theorem dX7_beginsSecond_21 : decode cX7_beginsSecond 21 = .ok (.ireturn, 1) := by decide +kernel
theorem dX7_goesOn_0 : decode cX7_goesOn 0 = .ok (.aload_n 0, 1) := by decide +kernel
theorem dX7_goesOn_1 : decode cX7_goesOn 1 = .ok (.getfield 12, 3) := by decide +kernel
theorem dX7_goesOn_4 : decode cX7_goesOn 4 = .ok (.iload_n 3, 1) := by decide +kernel
theorem dX7_goesOn_5 : decode cX7_goesOn 5 = .ok (.invokevirtual 94, 3) := by decide +kernel
theorem dX7_goesOn_8 : decode cX7_goesOn 8 = .ok (.ifCond .eq 15, 3) := by decide +kernel
theorem dX7_goesOn_11 : decode cX7_goesOn 11 = .ok (.aload_n 0, 1) := by decide +kernel
theorem dX7_goesOn_12 : decode cX7_goesOn 12 = .ok (.getfield 12, 3) := by decide +kernel
theorem dX7_goesOn_15 : decode cX7_goesOn 15 = .ok (.iload_n 3, 1) := by decide +kernel
theorem dX7_goesOn_16 : decode cX7_goesOn 16 = .ok (.invokevirtual 100, 3) := by decide +kernel
theorem dX7_goesOn_19 : decode cX7_goesOn 19 = .ok (.iload_n 2, 1) := by decide +kernel
theorem dX7_goesOn_20 : decode cX7_goesOn 20 = .ok (.if_icmp .eq 5, 3) := by decide +kernel
theorem dX7_goesOn_23 : decode cX7_goesOn 23 = .ok (.iconst 0, 1) := by decide +kernel
theorem dX7_goesOn_24 : decode cX7_goesOn 24 = .ok (.ireturn, 1) := by decide +kernel
theorem dX7_goesOn_25 : decode cX7_goesOn 25 = .ok (.aload_n 0, 1) := by decide +kernel
theorem dX7_goesOn_26 : decode cX7_goesOn 26 = .ok (.getfield 21, 3) := by decide +kernel
theorem dX7_goesOn_29 : decode cX7_goesOn 29 = .ok (.iload_n 1, 1) := by decide +kernel
theorem dX7_goesOn_30 : decode cX7_goesOn 30 = .ok (.iload_n 3, 1) := by decide +kernel
theorem dX7_goesOn_31 : decode cX7_goesOn 31 = .ok (.invokevirtual 105, 3) := by decide +kernel
theorem dX7_goesOn_34 : decode cX7_goesOn 34 = .ok (.aload_n 0, 1) := by decide +kernel
theorem dX7_goesOn_35 : decode cX7_goesOn 35 = .ok (.aload_n 0, 1) := by decide +kernel
theorem dX7_goesOn_36 : decode cX7_goesOn 36 = .ok (.getfield 12, 3) := by decide +kernel
theorem dX7_goesOn_39 : decode cX7_goesOn 39 = .ok (.iload_n 3, 1) := by decide +kernel
theorem dX7_goesOn_40 : decode cX7_goesOn 40 = .ok (.invokevirtual 109, 3) := by decide +kernel
theorem dX7_goesOn_43 : decode cX7_goesOn 43 = .ok (.putfield 32, 3) := by decide +kernel
theorem dX7_goesOn_46 : decode cX7_goesOn 46 = .ok (.iconst 1, 1) := by decide +kernel
theorem dX7_goesOn_47 : decode cX7_goesOn 47 = .ok (.ireturn, 1) := by decide +kernel
theorem dX7_endsFirst_0 : decode cX7_endsFirst 0 = .ok (.iload_n 1, 1) := by decide +kernel
theorem dX7_endsFirst_1 : decode cX7_endsFirst 1 = .ok (.bipush 61, 2) := by decide +kernel
theorem dX7_endsFirst_3 : decode cX7_endsFirst 3 = .ok (.if_icmp .eq 5, 3) := by decide +kernel
theorem dX7_endsFirst_6 : decode cX7_endsFirst 6 = .ok (.iconst 0, 1) := by decide +kernel
theorem dX7_endsFirst_7 : decode cX7_endsFirst 7 = .ok (.ireturn, 1) := by decide +kernel
theorem dX7_endsFirst_8 : decode cX7_endsFirst 8 = .ok (.aload_n 0, 1) := by decide +kernel
theorem dX7_endsFirst_9 : decode cX7_endsFirst 9 = .ok (.aload_n 0, 1) := by decide +kernel
theorem dX7_endsFirst_10 : decode cX7_endsFirst 10 = .ok (.getfield 32, 3) := by decide +kernel
theorem dX7_endsFirst_13 : decode cX7_endsFirst 13 = .ok (.putfield 35, 3) := by decide +kernel
theorem dX7_endsFirst_16 : decode cX7_endsFirst 16 = .ok (.aload_n 0, 1) := by decide +kernel
theorem dX7_endsFirst_17 : decode cX7_endsFirst 17 = .ok (.iconst 4, 1) := by decide +kernel
theorem dX7_endsFirst_18 : decode cX7_endsFirst 18 = .ok (.putfield 25, 3) := by decide +kernel
theorem dX7_endsFirst_21 : decode cX7_endsFirst 21 = .ok (.iconst 1, 1) := by decide +kernel
theorem dX7_endsFirst_22 : decode cX7_endsFirst 22 = .ok (.ireturn, 1) := by decide +kernel
theorem dX7_endsItem_0 : decode cX7_endsItem 0 = .ok (.iload_n 1, 1) := by decide +kernel
theorem dX7_endsItem_1 : decode cX7_endsItem 1 = .ok (.bipush 59, 2) := by decide +kernel
theorem dX7_endsItem_3 : decode cX7_endsItem 3 = .ok (.if_icmp .ne 10, 3) := by decide +kernel
theorem dX7_endsItem_6 : decode cX7_endsItem 6 = .ok (.aload_n 0, 1) := by decide +kernel
theorem dX7_endsItem_7 : decode cX7_endsItem 7 = .ok (.invokevirtual 112, 3) := by decide +kernel
theorem dX7_endsItem_10 : decode cX7_endsItem 10 = .ok (.ifCond .ne 5, 3) := by decide +kernel
theorem dX7_endsItem_13 : decode cX7_endsItem 13 = .ok (.iconst 0, 1) := by decide +kernel
theorem dX7_endsItem_14 : decode cX7_endsItem 14 = .ok (.ireturn, 1) := by decide +kernel
theorem dX7_endsItem_15 : decode cX7_endsItem 15 = .ok (.aload_n 0, 1) := by decide +kernel
theorem dX7_endsItem_16 : decode cX7_endsItem 16 = .ok (.iconst 0, 1) := by decide +kernel
theorem dX7_endsItem_17 : decode cX7_endsItem 17 = .ok (.putfield 25, 3) := by decide +kernel
theorem dX7_endsItem_20 : decode cX7_endsItem 20 = .ok (.iconst 1, 1) := by decide +kernel
theorem dX7_endsItem_21 : decode cX7_endsItem 21 = .ok (.ireturn, 1) := by decide +kernel
theorem dX8_init_0 : decode cX8_init 0 = .ok (.aload_n 0, 1) := by decide +kernel
theorem dX8_init_1 : decode cX8_init 1 = .ok (.invokespecial 3, 3) := by decide +kernel
theorem dX8_init_4 : decode cX8_init 4 = .ok (.aload_n 0, 1) := by decide +kernel
theorem dX8_init_5 : decode cX8_init 5 = .ok (.iload_n 1, 1) := by decide +kernel
theorem dX8_init_6 : decode cX8_init 6 = .ok (.ifCond .le 7, 3) := by decide +kernel
theorem dX8_init_9 : decode cX8_init 9 = .ok (.iload_n 1, 1) := by decide +kernel
theorem dX8_init_10 : decode cX8_init 10 = .ok (.goto 4, 3) := by decide +kernel
theorem dX8_init_13 : decode cX8_init 13 = .ok (.iconst 0, 1) := by decide +kernel
theorem dX8_init_14 : decode cX8_init 14 = .ok (.newarray .int, 2) := by decide +kernel
theorem dX8_init_16 : decode cX8_init 16 = .ok (.putfield 9, 3) := by decide +kernel
theorem dX8_init_19 : decode cX8_init 19 = .ok (.return_, 1) := by decide +kernel
theorem dX8_get_0 : decode cX8_get 0 = .ok (.iload_n 1, 1) := by decide +kernel
theorem dX8_get_1 : decode cX8_get 1 = .ok (.ifCond .lt 21, 3) := by decide +kernel
theorem dX8_get_4 : decode cX8_get 4 = .ok (.iload_n 1, 1) := by decide +kernel
theorem dX8_get_5 : decode cX8_get 5 = .ok (.aload_n 0, 1) := by decide +kernel
theorem dX8_get_6 : decode cX8_get 6 = .ok (.getfield 9, 3) := by decide +kernel
theorem dX8_get_9 : decode cX8_get 9 = .ok (.arraylength, 1) := by decide +kernel
theorem dX8_get_10 : decode cX8_get 10 = .ok (.if_icmp .ge 12, 3) := by decide +kernel
theorem dX8_get_13 : decode cX8_get 13 = .ok (.aload_n 0, 1) := by decide +kernel
theorem dX8_get_14 : decode cX8_get 14 = .ok (.getfield 9, 3) := by decide +kernel
theorem dX8_get_17 : decode cX8_get 17 = .ok (.iload_n 1, 1) := by decide +kernel
theorem dX8_get_18 : decode cX8_get 18 = .ok (.iaload, 1) := by decide +kernel
theorem dX8_get_19 : decode cX8_get 19 = .ok (.goto 4, 3) := by decide +kernel
theorem dX8_get_22 : decode cX8_get 22 = .ok (.iconst (-1), 1) := by decide +kernel
theorem dX8_get_23 : decode cX8_get 23 = .ok (.ireturn, 1) := by decide +kernel
theorem dX8_set_0 : decode cX8_set 0 = .ok (.iload_n 1, 1) := by decide +kernel
theorem dX8_set_1 : decode cX8_set 1 = .ok (.ifCond .lt 19, 3) := by decide +kernel
theorem dX8_set_4 : decode cX8_set 4 = .ok (.iload_n 1, 1) := by decide +kernel
theorem dX8_set_5 : decode cX8_set 5 = .ok (.aload_n 0, 1) := by decide +kernel
theorem dX8_set_6 : decode cX8_set 6 = .ok (.getfield 9, 3) := by decide +kernel
theorem dX8_set_9 : decode cX8_set 9 = .ok (.arraylength, 1) := by decide +kernel
theorem dX8_set_10 : decode cX8_set 10 = .ok (.if_icmp .ge 10, 3) := by decide +kernel
theorem dX8_set_13 : decode cX8_set 13 = .ok (.aload_n 0, 1) := by decide +kernel
theorem dX8_set_14 : decode cX8_set 14 = .ok (.getfield 9, 3) := by decide +kernel
theorem dX8_set_17 : decode cX8_set 17 = .ok (.iload_n 1, 1) := by decide +kernel
theorem dX8_set_18 : decode cX8_set 18 = .ok (.iload_n 2, 1) := by decide +kernel
theorem dX8_set_19 : decode cX8_set 19 = .ok (.iastore, 1) := by decide +kernel
theorem dX8_set_20 : decode cX8_set 20 = .ok (.return_, 1) := by decide +kernel
theorem dX8_fill_0 : decode cX8_fill 0 = .ok (.iconst 0, 1) := by decide +kernel
theorem dX8_fill_1 : decode cX8_fill 1 = .ok (.istore_n 2, 1) := by decide +kernel
theorem dX8_fill_2 : decode cX8_fill 2 = .ok (.iload_n 2, 1) := by decide +kernel
theorem dX8_fill_3 : decode cX8_fill 3 = .ok (.aload_n 0, 1) := by decide +kernel
theorem dX8_fill_4 : decode cX8_fill 4 = .ok (.getfield 9, 3) := by decide +kernel
theorem dX8_fill_7 : decode cX8_fill 7 = .ok (.arraylength, 1) := by decide +kernel
theorem dX8_fill_8 : decode cX8_fill 8 = .ok (.if_icmp .ge 16, 3) := by decide +kernel
theorem dX8_fill_11 : decode cX8_fill 11 = .ok (.aload_n 0, 1) := by decide +kernel
theorem dX8_fill_12 : decode cX8_fill 12 = .ok (.getfield 9, 3) := by decide +kernel
theorem dX8_fill_15 : decode cX8_fill 15 = .ok (.iload_n 2, 1) := by decide +kernel
theorem dX8_fill_16 : decode cX8_fill 16 = .ok (.iload_n 1, 1) := by decide +kernel
theorem dX8_fill_17 : decode cX8_fill 17 = .ok (.iastore, 1) := by decide +kernel
theorem dX8_fill_18 : decode cX8_fill 18 = .ok (.iinc 2 1, 3) := by decide +kernel
theorem dX8_fill_21 : decode cX8_fill 21 = .ok (.goto (-19), 3) := by decide +kernel
theorem dX8_fill_24 : decode cX8_fill 24 = .ok (.return_, 1) := by decide +kernel
theorem dX8_copyFrom_0 : decode cX8_copyFrom 0 = .ok (.iconst 0, 1) := by decide +kernel
theorem dX8_copyFrom_1 : decode cX8_copyFrom 1 = .ok (.istore_n 2, 1) := by decide +kernel
theorem dX8_copyFrom_2 : decode cX8_copyFrom 2 = .ok (.iload_n 2, 1) := by decide +kernel
theorem dX8_copyFrom_3 : decode cX8_copyFrom 3 = .ok (.aload_n 0, 1) := by decide +kernel
theorem dX8_copyFrom_4 : decode cX8_copyFrom 4 = .ok (.getfield 9, 3) := by decide +kernel
theorem dX8_copyFrom_7 : decode cX8_copyFrom 7 = .ok (.arraylength, 1) := by decide +kernel
theorem dX8_copyFrom_8 : decode cX8_copyFrom 8 = .ok (.if_icmp .ge 20, 3) := by decide +kernel
theorem dX8_copyFrom_11 : decode cX8_copyFrom 11 = .ok (.aload_n 0, 1) := by decide +kernel
theorem dX8_copyFrom_12 : decode cX8_copyFrom 12 = .ok (.getfield 9, 3) := by decide +kernel
theorem dX8_copyFrom_15 : decode cX8_copyFrom 15 = .ok (.iload_n 2, 1) := by decide +kernel
theorem dX8_copyFrom_16 : decode cX8_copyFrom 16 = .ok (.aload_n 1, 1) := by decide +kernel
theorem dX8_copyFrom_17 : decode cX8_copyFrom 17 = .ok (.iload_n 2, 1) := by decide +kernel
theorem dX8_copyFrom_18 : decode cX8_copyFrom 18 = .ok (.invokevirtual 15, 3) := by decide +kernel
theorem dX8_copyFrom_21 : decode cX8_copyFrom 21 = .ok (.iastore, 1) := by decide +kernel
theorem dX8_copyFrom_22 : decode cX8_copyFrom 22 = .ok (.iinc 2 1, 3) := by decide +kernel
theorem dX8_copyFrom_25 : decode cX8_copyFrom 25 = .ok (.goto (-23), 3) := by decide +kernel
theorem dX8_copyFrom_28 : decode cX8_copyFrom 28 = .ok (.return_, 1) := by decide +kernel
theorem dJxe99ae_isNaN_b9ae7_0 : decode cJxe99ae_isNaN_b9ae7 0 = .ok (.dload_n 0, 1) := by decide +kernel
theorem dJxe99ae_isNaN_b9ae7_1 : decode cJxe99ae_isNaN_b9ae7 1 = .ok (.dload_n 0, 1) := by decide +kernel
theorem dJxe99ae_isNaN_b9ae7_2 : decode cJxe99ae_isNaN_b9ae7 2 = .ok (.dcmp .l, 1) := by decide +kernel
theorem dJxe99ae_isNaN_b9ae7_3 : decode cJxe99ae_isNaN_b9ae7 3 = .ok (.ifCond .eq 7, 3) := by decide +kernel
theorem dJxe99ae_isNaN_b9ae7_6 : decode cJxe99ae_isNaN_b9ae7 6 = .ok (.iconst 1, 1) := by decide +kernel
theorem dJxe99ae_isNaN_b9ae7_7 : decode cJxe99ae_isNaN_b9ae7 7 = .ok (.goto 4, 3) := by decide +kernel
theorem dJxe99ae_isNaN_b9ae7_10 : decode cJxe99ae_isNaN_b9ae7 10 = .ok (.iconst 0, 1) := by decide +kernel
theorem dJxe99ae_isNaN_b9ae7_11 : decode cJxe99ae_isNaN_b9ae7 11 = .ok (.ireturn, 1) := by decide +kernel
theorem dJxe99ae_doubleToLongBits_ccdee_0 : decode cJxe99ae_doubleToLongBits_ccdee 0 = .ok (.dload_n 0, 1) := by decide +kernel
theorem dJxe99ae_doubleToLongBits_ccdee_1 : decode cJxe99ae_doubleToLongBits_ccdee 1 = .ok (.invokestatic 122, 3) := by decide +kernel
theorem dJxe99ae_doubleToLongBits_ccdee_4 : decode cJxe99ae_doubleToLongBits_ccdee 4 = .ok (.ifCond .ne 8, 3) := by decide +kernel
theorem dJxe99ae_doubleToLongBits_ccdee_7 : decode cJxe99ae_doubleToLongBits_ccdee 7 = .ok (.dload_n 0, 1) := by decide +kernel
theorem dJxe99ae_doubleToLongBits_ccdee_8 : decode cJxe99ae_doubleToLongBits_ccdee 8 = .ok (.invokestatic 134, 3) := by decide +kernel
theorem dJxe99ae_doubleToLongBits_ccdee_11 : decode cJxe99ae_doubleToLongBits_ccdee 11 = .ok (.lreturn, 1) := by decide +kernel
theorem dJxe99ae_doubleToLongBits_ccdee_12 : decode cJxe99ae_doubleToLongBits_ccdee 12 = .ok (.ldc2_w 137, 3) := by decide +kernel
theorem dJxe99ae_doubleToLongBits_ccdee_15 : decode cJxe99ae_doubleToLongBits_ccdee 15 = .ok (.lreturn, 1) := by decide +kernel
theorem dJxf58ca_isNaN_12338_0 : decode cJxf58ca_isNaN_12338 0 = .ok (.fload_n 0, 1) := by decide +kernel
theorem dJxf58ca_isNaN_12338_1 : decode cJxf58ca_isNaN_12338 1 = .ok (.fload_n 0, 1) := by decide +kernel
theorem dJxf58ca_isNaN_12338_2 : decode cJxf58ca_isNaN_12338 2 = .ok (.fcmp .l, 1) := by decide +kernel
theorem dJxf58ca_isNaN_12338_3 : decode cJxf58ca_isNaN_12338 3 = .ok (.ifCond .eq 7, 3) := by decide +kernel
theorem dJxf58ca_isNaN_12338_6 : decode cJxf58ca_isNaN_12338 6 = .ok (.iconst 1, 1) := by decide +kernel
theorem dJxf58ca_isNaN_12338_7 : decode cJxf58ca_isNaN_12338 7 = .ok (.goto 4, 3) := by decide +kernel
theorem dJxf58ca_isNaN_12338_10 : decode cJxf58ca_isNaN_12338 10 = .ok (.iconst 0, 1) := by decide +kernel
theorem dJxf58ca_isNaN_12338_11 : decode cJxf58ca_isNaN_12338 11 = .ok (.ireturn, 1) := by decide +kernel
theorem dJxf58ca_floatToIntBits_5c35a_0 : decode cJxf58ca_floatToIntBits_5c35a 0 = .ok (.fload_n 0, 1) := by decide +kernel
theorem dJxf58ca_floatToIntBits_5c35a_1 : decode cJxf58ca_floatToIntBits_5c35a 1 = .ok (.invokestatic 59, 3) := by decide +kernel
theorem dJxf58ca_floatToIntBits_5c35a_4 : decode cJxf58ca_floatToIntBits_5c35a 4 = .ok (.ifCond .ne 8, 3) := by decide +kernel
theorem dJxf58ca_floatToIntBits_5c35a_7 : decode cJxf58ca_floatToIntBits_5c35a 7 = .ok (.fload_n 0, 1) := by decide +kernel
theorem dJxf58ca_floatToIntBits_5c35a_8 : decode cJxf58ca_floatToIntBits_5c35a 8 = .ok (.invokestatic 74, 3) := by decide +kernel
theorem dJxf58ca_floatToIntBits_5c35a_11 : decode cJxf58ca_floatToIntBits_5c35a 11 = .ok (.ireturn, 1) := by decide +kernel
theorem dJxf58ca_floatToIntBits_5c35a_12 : decode cJxf58ca_floatToIntBits_5c35a 12 = .ok (.ldc 77, 2) := by decide +kernel
theorem dJxf58ca_floatToIntBits_5c35a_14 : decode cJxf58ca_floatToIntBits_5c35a 14 = .ok (.ireturn, 1) := by decide +kernel
theorem dJ6_bitCount_0f7a4_0 : decode cJ6_bitCount_0f7a4 0 = .ok (.iload_n 0, 1) := by decide +kernel
theorem dJ6_bitCount_0f7a4_1 : decode cJ6_bitCount_0f7a4 1 = .ok (.iload_n 0, 1) := by decide +kernel
theorem dJ6_bitCount_0f7a4_2 : decode cJ6_bitCount_0f7a4 2 = .ok (.iconst 1, 1) := by decide +kernel
theorem dJ6_bitCount_0f7a4_3 : decode cJ6_bitCount_0f7a4 3 = .ok (.iushr, 1) := by decide +kernel
theorem dJ6_bitCount_0f7a4_4 : decode cJ6_bitCount_0f7a4 4 = .ok (.ldc_w 265, 3) := by decide +kernel
theorem dJ6_bitCount_0f7a4_7 : decode cJ6_bitCount_0f7a4 7 = .ok (.iand, 1) := by decide +kernel
theorem dJ6_bitCount_0f7a4_8 : decode cJ6_bitCount_0f7a4 8 = .ok (.isub, 1) := by decide +kernel
theorem dJ6_bitCount_0f7a4_9 : decode cJ6_bitCount_0f7a4 9 = .ok (.istore_n 0, 1) := by decide +kernel
theorem dJ6_bitCount_0f7a4_10 : decode cJ6_bitCount_0f7a4 10 = .ok (.iload_n 0, 1) := by decide +kernel
theorem dJ6_bitCount_0f7a4_11 : decode cJ6_bitCount_0f7a4 11 = .ok (.ldc_w 266, 3) := by decide +kernel
theorem dJ6_bitCount_0f7a4_14 : decode cJ6_bitCount_0f7a4 14 = .ok (.iand, 1) := by decide +kernel
theorem dJ6_bitCount_0f7a4_15 : decode cJ6_bitCount_0f7a4 15 = .ok (.iload_n 0, 1) := by decide +kernel
theorem dJ6_bitCount_0f7a4_16 : decode cJ6_bitCount_0f7a4 16 = .ok (.iconst 2, 1) := by decide +kernel
theorem dJ6_bitCount_0f7a4_17 : decode cJ6_bitCount_0f7a4 17 = .ok (.iushr, 1) := by decide +kernel
theorem dJ6_bitCount_0f7a4_18 : decode cJ6_bitCount_0f7a4 18 = .ok (.ldc_w 266, 3) := by decide +kernel
theorem dJ6_bitCount_0f7a4_21 : decode cJ6_bitCount_0f7a4 21 = .ok (.iand, 1) := by decide +kernel
theorem dJ6_bitCount_0f7a4_22 : decode cJ6_bitCount_0f7a4 22 = .ok (.iadd, 1) := by decide +kernel
theorem dJ6_bitCount_0f7a4_23 : decode cJ6_bitCount_0f7a4 23 = .ok (.istore_n 0, 1) := by decide +kernel
theorem dJ6_bitCount_0f7a4_24 : decode cJ6_bitCount_0f7a4 24 = .ok (.iload_n 0, 1) := by decide +kernel
theorem dJ6_bitCount_0f7a4_25 : decode cJ6_bitCount_0f7a4 25 = .ok (.iload_n 0, 1) := by decide +kernel
theorem dJ6_bitCount_0f7a4_26 : decode cJ6_bitCount_0f7a4 26 = .ok (.iconst 4, 1) := by decide +kernel
theorem dJ6_bitCount_0f7a4_27 : decode cJ6_bitCount_0f7a4 27 = .ok (.iushr, 1) := by decide +kernel
theorem dJ6_bitCount_0f7a4_28 : decode cJ6_bitCount_0f7a4 28 = .ok (.iadd, 1) := by decide +kernel
theorem dJ6_bitCount_0f7a4_29 : decode cJ6_bitCount_0f7a4 29 = .ok (.ldc_w 267, 3) := by decide +kernel
theorem dJ6_bitCount_0f7a4_32 : decode cJ6_bitCount_0f7a4 32 = .ok (.iand, 1) := by decide +kernel
theorem dJ6_bitCount_0f7a4_33 : decode cJ6_bitCount_0f7a4 33 = .ok (.istore_n 0, 1) := by decide +kernel
theorem dJ6_bitCount_0f7a4_34 : decode cJ6_bitCount_0f7a4 34 = .ok (.iload_n 0, 1) := by decide +kernel
theorem dJ6_bitCount_0f7a4_35 : decode cJ6_bitCount_0f7a4 35 = .ok (.iload_n 0, 1) := by decide +kernel
theorem dJ6_bitCount_0f7a4_36 : decode cJ6_bitCount_0f7a4 36 = .ok (.bipush 8, 2) := by decide +kernel
theorem dJ6_bitCount_0f7a4_38 : decode cJ6_bitCount_0f7a4 38 = .ok (.iushr, 1) := by decide +kernel
theorem dJ6_bitCount_0f7a4_39 : decode cJ6_bitCount_0f7a4 39 = .ok (.iadd, 1) := by decide +kernel
theorem dJ6_bitCount_0f7a4_40 : decode cJ6_bitCount_0f7a4 40 = .ok (.istore_n 0, 1) := by decide +kernel
theorem dJ6_bitCount_0f7a4_41 : decode cJ6_bitCount_0f7a4 41 = .ok (.iload_n 0, 1) := by decide +kernel
theorem dJ6_bitCount_0f7a4_42 : decode cJ6_bitCount_0f7a4 42 = .ok (.iload_n 0, 1) := by decide +kernel
theorem dJ6_bitCount_0f7a4_43 : decode cJ6_bitCount_0f7a4 43 = .ok (.bipush 16, 2) := by decide +kernel
theorem dJ6_bitCount_0f7a4_45 : decode cJ6_bitCount_0f7a4 45 = .ok (.iushr, 1) := by decide +kernel
theorem dJ6_bitCount_0f7a4_46 : decode cJ6_bitCount_0f7a4 46 = .ok (.iadd, 1) := by decide +kernel
theorem dJ6_bitCount_0f7a4_47 : decode cJ6_bitCount_0f7a4 47 = .ok (.istore_n 0, 1) := by decide +kernel
theorem dJ6_bitCount_0f7a4_48 : decode cJ6_bitCount_0f7a4 48 = .ok (.iload_n 0, 1) := by decide +kernel
theorem dJ6_bitCount_0f7a4_49 : decode cJ6_bitCount_0f7a4 49 = .ok (.bipush 63, 2) := by decide +kernel
theorem dJ6_bitCount_0f7a4_51 : decode cJ6_bitCount_0f7a4 51 = .ok (.iand, 1) := by decide +kernel
theorem dJ6_bitCount_0f7a4_52 : decode cJ6_bitCount_0f7a4 52 = .ok (.ireturn, 1) := by decide +kernel

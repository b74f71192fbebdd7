/-! the law's wrappers: models and contracts (made by wip/whole/mkwrap.py) -/
theorem lk_L_7 : lkV RL 7 yX9_begin cX9_begin 3 (some .int) 1 := ⟨⟨bw_mem (w := Cond.methodLink RL 7 yX9_begin) 835 (by decide +kernel) rfl, bw_mem (w := Cond.initialized RX9) 92 (by decide +kernel) rfl, bw_mem (w := Cond.code yX9_begin cX9_begin 3 (some .int)) 838 (by decide +kernel) rfl, by decide +kernel⟩, bw_mem (w := Cond.instanceMethod yX9_begin) 836 (by decide +kernel) rfl, bw_mem (w := Cond.selects RX9 yX9_begin yX9_begin) 837 (by decide +kernel) rfl⟩
theorem kcl_13 : Cond.classLink RL 13 "java/lang/IllegalArgumentException" ∈ BW := bw_mem (w := Cond.classLink RL 13 "java/lang/IllegalArgumentException") 834 (by decide +kernel) rfl
theorem lk_L_15 : lkV RL 15 yX9_addArrow cX9_addArrow 4 (some .int) 2 := ⟨⟨bw_mem (w := Cond.methodLink RL 15 yX9_addArrow) 849 (by decide +kernel) rfl, bw_mem (w := Cond.initialized RX9) 92 (by decide +kernel) rfl, bw_mem (w := Cond.code yX9_addArrow cX9_addArrow 4 (some .int)) 852 (by decide +kernel) rfl, by decide +kernel⟩, bw_mem (w := Cond.instanceMethod yX9_addArrow) 850 (by decide +kernel) rfl, bw_mem (w := Cond.selects RX9 yX9_addArrow yX9_addArrow) 851 (by decide +kernel) rfl⟩
theorem kcl_19 : Cond.classLink RL 19 "java/lang/IndexOutOfBoundsException" ∈ BW := bw_mem (w := Cond.classLink RL 19 "java/lang/IndexOutOfBoundsException") 847 (by decide +kernel) rfl
theorem kcl_21 : Cond.classLink RL 21 "java/lang/IllegalStateException" ∈ BW := bw_mem (w := Cond.classLink RL 21 "java/lang/IllegalStateException") 848 (by decide +kernel) rfl
theorem lk_L_23 : lkV RL 23 yX9_dropArrow cX9_dropArrow 2 (some .int) 0 := ⟨⟨bw_mem (w := Cond.methodLink RL 23 yX9_dropArrow) 898 (by decide +kernel) rfl, bw_mem (w := Cond.initialized RX9) 92 (by decide +kernel) rfl, bw_mem (w := Cond.code yX9_dropArrow cX9_dropArrow 2 (some .int)) 901 (by decide +kernel) rfl, by decide +kernel⟩, bw_mem (w := Cond.instanceMethod yX9_dropArrow) 899 (by decide +kernel) rfl, bw_mem (w := Cond.selects RX9 yX9_dropArrow yX9_dropArrow) 900 (by decide +kernel) rfl⟩
theorem lk_L_27 : lkV RL 27 yX9_addCell cX9_addCell 4 (some .int) 2 := ⟨⟨bw_mem (w := Cond.methodLink RL 27 yX9_addCell) 922 (by decide +kernel) rfl, bw_mem (w := Cond.initialized RX9) 92 (by decide +kernel) rfl, bw_mem (w := Cond.code yX9_addCell cX9_addCell 4 (some .int)) 925 (by decide +kernel) rfl, by decide +kernel⟩, bw_mem (w := Cond.instanceMethod yX9_addCell) 923 (by decide +kernel) rfl, bw_mem (w := Cond.selects RX9 yX9_addCell yX9_addCell) 924 (by decide +kernel) rfl⟩
theorem lk_L_30 : lkV RL 30 yX9_dropCell cX9_dropCell 2 (some .int) 1 := ⟨⟨bw_mem (w := Cond.methodLink RL 30 yX9_dropCell) 941 (by decide +kernel) rfl, bw_mem (w := Cond.initialized RX9) 92 (by decide +kernel) rfl, bw_mem (w := Cond.code yX9_dropCell cX9_dropCell 2 (some .int)) 944 (by decide +kernel) rfl, by decide +kernel⟩, bw_mem (w := Cond.instanceMethod yX9_dropCell) 942 (by decide +kernel) rfl, bw_mem (w := Cond.selects RX9 yX9_dropCell yX9_dropCell) 943 (by decide +kernel) rfl⟩
theorem lk_L_33 : lkV RL 33 yX9_append cX9_append 2 (some .int) 1 := ⟨⟨bw_mem (w := Cond.methodLink RL 33 yX9_append) 952 (by decide +kernel) rfl, bw_mem (w := Cond.initialized RX9) 92 (by decide +kernel) rfl, bw_mem (w := Cond.code yX9_append cX9_append 2 (some .int)) 955 (by decide +kernel) rfl, by decide +kernel⟩, bw_mem (w := Cond.instanceMethod yX9_append) 953 (by decide +kernel) rfl, bw_mem (w := Cond.selects RX9 yX9_append yX9_append) 954 (by decide +kernel) rfl⟩
theorem lk_L_36 : lkV RL 36 yX9_load cX9_load 4 (some .int) 0 := ⟨⟨bw_mem (w := Cond.methodLink RL 36 yX9_load) 966 (by decide +kernel) rfl, bw_mem (w := Cond.initialized RX9) 92 (by decide +kernel) rfl, bw_mem (w := Cond.code yX9_load cX9_load 4 (some .int)) 969 (by decide +kernel) rfl, by decide +kernel⟩, bw_mem (w := Cond.instanceMethod yX9_load) 967 (by decide +kernel) rfl, bw_mem (w := Cond.selects RX9 yX9_load yX9_load) 968 (by decide +kernel) rfl⟩
theorem lk_L_39 : lkV RL 39 yX9_path cX9_path 3 (some .int) 2 := ⟨⟨bw_mem (w := Cond.methodLink RL 39 yX9_path) 985 (by decide +kernel) rfl, bw_mem (w := Cond.initialized RX9) 92 (by decide +kernel) rfl, bw_mem (w := Cond.code yX9_path cX9_path 3 (some .int)) 802 (by decide +kernel) rfl, by decide +kernel⟩, bw_mem (w := Cond.instanceMethod yX9_path) 800 (by decide +kernel) rfl, bw_mem (w := Cond.selects RX9 yX9_path yX9_path) 801 (by decide +kernel) rfl⟩
theorem lk_L_42 : lkV RL 42 yX9_arrowOf cX9_arrowOf 3 (some .int) 2 := ⟨⟨bw_mem (w := Cond.methodLink RL 42 yX9_arrowOf) 989 (by decide +kernel) rfl, bw_mem (w := Cond.initialized RX9) 92 (by decide +kernel) rfl, bw_mem (w := Cond.code yX9_arrowOf cX9_arrowOf 3 (some .int)) 992 (by decide +kernel) rfl, by decide +kernel⟩, bw_mem (w := Cond.instanceMethod yX9_arrowOf) 990 (by decide +kernel) rfl, bw_mem (w := Cond.selects RX9 yX9_arrowOf yX9_arrowOf) 991 (by decide +kernel) rfl⟩
theorem lk_L_45 : lkV RL 45 yX9_between cX9_between 4 (some .int) 3 := ⟨⟨bw_mem (w := Cond.methodLink RL 45 yX9_between) 997 (by decide +kernel) rfl, bw_mem (w := Cond.initialized RX9) 92 (by decide +kernel) rfl, bw_mem (w := Cond.code yX9_between cX9_between 4 (some .int)) 1000 (by decide +kernel) rfl, by decide +kernel⟩, bw_mem (w := Cond.instanceMethod yX9_between) 998 (by decide +kernel) rfl, bw_mem (w := Cond.selects RX9 yX9_between yX9_between) 999 (by decide +kernel) rfl⟩
theorem lk_L_49 : lkV RL 49 yX9_distance cX9_distance 3 (some .int) 2 := ⟨⟨bw_mem (w := Cond.methodLink RL 49 yX9_distance) 1012 (by decide +kernel) rfl, bw_mem (w := Cond.initialized RX9) 92 (by decide +kernel) rfl, bw_mem (w := Cond.code yX9_distance cX9_distance 3 (some .int)) 1015 (by decide +kernel) rfl, by decide +kernel⟩, bw_mem (w := Cond.instanceMethod yX9_distance) 1013 (by decide +kernel) rfl, bw_mem (w := Cond.selects RX9 yX9_distance yX9_distance) 1014 (by decide +kernel) rfl⟩
theorem lk_L_52 : lkV RL 52 yX9_proof cX9_proof 7 (some .int) 4 := ⟨⟨bw_mem (w := Cond.methodLink RL 52 yX9_proof) 1028 (by decide +kernel) rfl, bw_mem (w := Cond.initialized RX9) 92 (by decide +kernel) rfl, bw_mem (w := Cond.code yX9_proof cX9_proof 7 (some .int)) 1031 (by decide +kernel) rfl, by decide +kernel⟩, bw_mem (w := Cond.instanceMethod yX9_proof) 1029 (by decide +kernel) rfl, bw_mem (w := Cond.selects RX9 yX9_proof yX9_proof) 1030 (by decide +kernel) rfl⟩
theorem lk_L_56 : lkV RL 56 yX9_cell cX9_cell 3 (some .int) 2 := ⟨⟨bw_mem (w := Cond.methodLink RL 56 yX9_cell) 1045 (by decide +kernel) rfl, bw_mem (w := Cond.initialized RX9) 92 (by decide +kernel) rfl, bw_mem (w := Cond.code yX9_cell cX9_cell 3 (some .int)) 769 (by decide +kernel) rfl, by decide +kernel⟩, bw_mem (w := Cond.instanceMethod yX9_cell) 767 (by decide +kernel) rfl, bw_mem (w := Cond.selects RX9 yX9_cell yX9_cell) 768 (by decide +kernel) rfl⟩
theorem lk_L_59 : lkV RL 59 yX9_count cX9_count 2 (some .int) 1 := ⟨⟨bw_mem (w := Cond.methodLink RL 59 yX9_count) 1049 (by decide +kernel) rfl, bw_mem (w := Cond.initialized RX9) 92 (by decide +kernel) rfl, bw_mem (w := Cond.code yX9_count cX9_count 2 (some .int)) 641 (by decide +kernel) rfl, by decide +kernel⟩, bw_mem (w := Cond.instanceMethod yX9_count) 639 (by decide +kernel) rfl, bw_mem (w := Cond.selects RX9 yX9_count yX9_count) 640 (by decide +kernel) rfl⟩
theorem lk_L_62 : lkV RL 62 yX9_setSize cX9_setSize 5 (some .int) 2 := ⟨⟨bw_mem (w := Cond.methodLink RL 62 yX9_setSize) 1053 (by decide +kernel) rfl, bw_mem (w := Cond.initialized RX9) 92 (by decide +kernel) rfl, bw_mem (w := Cond.code yX9_setSize cX9_setSize 5 (some .int)) 1056 (by decide +kernel) rfl, by decide +kernel⟩, bw_mem (w := Cond.instanceMethod yX9_setSize) 1054 (by decide +kernel) rfl, bw_mem (w := Cond.selects RX9 yX9_setSize yX9_setSize) 1055 (by decide +kernel) rfl⟩
theorem lk_L_65 : lkV RL 65 yX9_setFunction cX9_setFunction 4 (some .int) 2 := ⟨⟨bw_mem (w := Cond.methodLink RL 65 yX9_setFunction) 1065 (by decide +kernel) rfl, bw_mem (w := Cond.initialized RX9) 92 (by decide +kernel) rfl, bw_mem (w := Cond.code yX9_setFunction cX9_setFunction 4 (some .int)) 1068 (by decide +kernel) rfl, by decide +kernel⟩, bw_mem (w := Cond.instanceMethod yX9_setFunction) 1066 (by decide +kernel) rfl, bw_mem (w := Cond.selects RX9 yX9_setFunction yX9_setFunction) 1067 (by decide +kernel) rfl⟩
theorem lk_L_68 : lkV RL 68 yX9_apply cX9_apply 3 (some .int) 2 := ⟨⟨bw_mem (w := Cond.methodLink RL 68 yX9_apply) 1082 (by decide +kernel) rfl, bw_mem (w := Cond.initialized RX9) 92 (by decide +kernel) rfl, bw_mem (w := Cond.code yX9_apply cX9_apply 3 (some .int)) 1085 (by decide +kernel) rfl, by decide +kernel⟩, bw_mem (w := Cond.instanceMethod yX9_apply) 1083 (by decide +kernel) rfl, bw_mem (w := Cond.selects RX9 yX9_apply yX9_apply) 1084 (by decide +kernel) rfl⟩
theorem lk_L_71 : lkV RL 71 yX9_imageShare cX9_imageShare 3 (some .int) 1 := ⟨⟨bw_mem (w := Cond.methodLink RL 71 yX9_imageShare) 1091 (by decide +kernel) rfl, bw_mem (w := Cond.initialized RX9) 92 (by decide +kernel) rfl, bw_mem (w := Cond.code yX9_imageShare cX9_imageShare 3 (some .int)) 1094 (by decide +kernel) rfl, by decide +kernel⟩, bw_mem (w := Cond.instanceMethod yX9_imageShare) 1092 (by decide +kernel) rfl, bw_mem (w := Cond.selects RX9 yX9_imageShare yX9_imageShare) 1093 (by decide +kernel) rfl⟩
theorem lk_L_74 : lkV RL 74 yX9_separate cX9_separate 5 (some .int) 2 := ⟨⟨bw_mem (w := Cond.methodLink RL 74 yX9_separate) 1102 (by decide +kernel) rfl, bw_mem (w := Cond.initialized RX9) 92 (by decide +kernel) rfl, bw_mem (w := Cond.code yX9_separate cX9_separate 5 (some .int)) 1105 (by decide +kernel) rfl, by decide +kernel⟩, bw_mem (w := Cond.instanceMethod yX9_separate) 1103 (by decide +kernel) rfl, bw_mem (w := Cond.selects RX9 yX9_separate yX9_separate) 1104 (by decide +kernel) rfl⟩
theorem lk_L_77 : lkV RL 77 yX9_isProduct cX9_isProduct 5 (some .boolean) 2 := ⟨⟨bw_mem (w := Cond.methodLink RL 77 yX9_isProduct) 1123 (by decide +kernel) rfl, bw_mem (w := Cond.initialized RX9) 92 (by decide +kernel) rfl, bw_mem (w := Cond.code yX9_isProduct cX9_isProduct 5 (some .boolean)) 1126 (by decide +kernel) rfl, by decide +kernel⟩, bw_mem (w := Cond.instanceMethod yX9_isProduct) 1124 (by decide +kernel) rfl, bw_mem (w := Cond.selects RX9 yX9_isProduct yX9_isProduct) 1125 (by decide +kernel) rfl⟩
theorem lk_L_81 : lkV RL 81 yX9_isPullback cX9_isPullback 7 (some .boolean) 4 := ⟨⟨bw_mem (w := Cond.methodLink RL 81 yX9_isPullback) 1147 (by decide +kernel) rfl, bw_mem (w := Cond.initialized RX9) 92 (by decide +kernel) rfl, bw_mem (w := Cond.code yX9_isPullback cX9_isPullback 7 (some .boolean)) 1150 (by decide +kernel) rfl, by decide +kernel⟩, bw_mem (w := Cond.instanceMethod yX9_isPullback) 1148 (by decide +kernel) rfl, bw_mem (w := Cond.selects RX9 yX9_isPullback yX9_isPullback) 1149 (by decide +kernel) rfl⟩
theorem lk_L_85 : lkV RL 85 yX9_isEqualizer cX9_isEqualizer 5 (some .boolean) 3 := ⟨⟨bw_mem (w := Cond.methodLink RL 85 yX9_isEqualizer) 1163 (by decide +kernel) rfl, bw_mem (w := Cond.initialized RX9) 92 (by decide +kernel) rfl, bw_mem (w := Cond.code yX9_isEqualizer cX9_isEqualizer 5 (some .boolean)) 1166 (by decide +kernel) rfl, by decide +kernel⟩, bw_mem (w := Cond.instanceMethod yX9_isEqualizer) 1164 (by decide +kernel) rfl, bw_mem (w := Cond.selects RX9 yX9_isEqualizer yX9_isEqualizer) 1165 (by decide +kernel) rfl⟩
def f_L_begin (fu : Nat) (l1 : Int32) (M : Mem) : Option (Int32 × Mem) :=
  (f_X9_begin fu l1 M).bind (fun r => match r with
    | (Sum.inl x, M1) => some ((0 : Int32), mL M1 23 0 0 x.toInt64)
    | (Sum.inr z, M1) => if z = 1 then some ((1 : Int32), M1) else none)
set_option maxHeartbeats 4000000 in
set_option maxRecDepth 100000 in
theorem k_L_begin (l : Launch) (G : GE) (hl : l.stackTraces = false) (hG : GOK G) (fu : Nat) (l1 : Int32) (M : Mem) (res : Int32 × Mem) (hk0 : (9, 0) ∈ gids G) (hko : (23, 0) ∈ gids G) (hm : f_L_begin fu l1 M = some res) : CTW l G yL_begin cL_begin 4 [(0, 9, 12, 13)] 7 [vR 9 0, vI l1, vR 23 0] M res.1 res.2 := by
  refine ctw_of [(0, vR 9 0), (1, vI l1), (2, vR 23 0)] (by decide +kernel) hl hG (Nat.le_of_ble_eq_true rfl) rfl (List.forall_mem_cons.mpr ⟨Or.inl hk0, List.forall_mem_cons.mpr ⟨trivial, List.forall_mem_cons.mpr ⟨Or.inl hko, fun _ h => nomatch h⟩⟩⟩) (fun X hX C hT => ?_)
  subst hX
  unfold f_L_begin at hm
  obtain ⟨⟨x | z, M1⟩, hr, hm⟩ := bnd_some hm
  · refine g_aload_n C 2 dL_begin_0 rfl rfl ?_
    refine g_iconst (v := 0) C dL_begin_1 rfl ?_
    refine g_aload_n C 0 dL_begin_2 rfl rfl ?_
    refine g_iload_n C 1 dL_begin_3 rfl rfl ?_
    refine g_callVi_k (As := [vI l1]) (rest := [vI (0 : Int32), vR 23 0]) C lk_L_7 (k_X9_begin X.2.1 G hl hG fu l1 M (Sum.inl x, M1) hk0 hr) (by decide) rfl rfl rfl (Nat.le_of_ble_eq_true rfl) ⟨Nat.le_of_ble_eq_true rfl, Nat.le_of_ble_eq_true rfl⟩ ⟨by rw [hT.2.1]; exact Nat.zero_le _, by rw [hT.2.2]; exact Nat.zero_le _⟩ dL_begin_4 ?_
    refine g_i2l C dL_begin_7 ?_
    refine g_last C (by decide) (by decide : inb (0 : Int32) 1) dL_begin_8 ?_
    refine g_goto (tgt := 15) C dL_begin_9 (by decide) ?_
    refine g_iconst (v := 0) C dL_begin_15 rfl ?_
    obtain rfl := Option.some.inj hm
    exact g_iretW C hT dL_begin_16
  · refine g_aload_n C 2 dL_begin_0 rfl rfl ?_
    refine g_iconst (v := 0) C dL_begin_1 rfl ?_
    refine g_aload_n C 0 dL_begin_2 rfl rfl ?_
    refine g_iload_n C 1 dL_begin_3 rfl rfl ?_
    by_cases hz0 : z = 1
    · have hm := ift hm hz0
      subst hz0
      obtain rfl := Option.some.inj hm
      exact g_callVh (E := "java/lang/IllegalArgumentException") (As := [vI l1]) (rest := [vI (0 : Int32), vR 23 0]) C hT lk_L_7 (k_X9_begin X.2.1 G hl hG fu l1 M (Sum.inr 1, M1) hk0 hr) (by decide) rfl rfl rfl (Nat.le_of_ble_eq_true rfl) ⟨Nat.le_of_ble_eq_true rfl, Nat.le_of_ble_eq_true rfl⟩ ⟨Nat.le_refl _, Nat.le_refl _⟩ dL_begin_4 [] { startPc := 0, endPc := 9, handlerPc := 12, catchType := 13 } [] rfl (fun _ h => nomatch h) rfl (by decide) kcl_13 (by decide +kernel) false (i := 3) (by decide) dL_begin_12 (by decide) dL_begin_13 rfl dL_begin_14
    have hm := ife hm hz0
    cases hm
def f_L_addArrow (fu : Nat) (l1 : Int32) (l2 : Int32) (M : Mem) : Option (Int32 × Mem) :=
  (f_X9_addArrow fu l1 l2 M).bind (fun r => match r with
    | (Sum.inl x, M1) => some ((0 : Int32), mL M1 23 0 0 x.toInt64)
    | (Sum.inr z, M1) => if z = 0 then some ((1 : Int32), M1) else if z = 1 then some ((2 : Int32), M1) else if z = 2 then some ((3 : Int32), M1) else none)
set_option maxHeartbeats 4000000 in
set_option maxRecDepth 100000 in
theorem k_L_addArrow (l : Launch) (G : GE) (hl : l.stackTraces = false) (hG : GOK G) (fu : Nat) (l1 : Int32) (l2 : Int32) (M : Mem) (res : Int32 × Mem) (hk0 : (9, 0) ∈ gids G) (hko : (23, 0) ∈ gids G) (hm : f_L_addArrow fu l1 l2 M = some res) : CTW l G yL_addArrow cL_addArrow 5 [(0, 10, 13, 19), (0, 10, 17, 13), (0, 10, 21, 21)] 8 [vR 9 0, vI l1, vI l2, vR 23 0] M res.1 res.2 := by
  refine ctw_of [(0, vR 9 0), (1, vI l1), (2, vI l2), (3, vR 23 0)] (by decide +kernel) hl hG (Nat.le_of_ble_eq_true rfl) rfl (List.forall_mem_cons.mpr ⟨Or.inl hk0, List.forall_mem_cons.mpr ⟨trivial, List.forall_mem_cons.mpr ⟨trivial, List.forall_mem_cons.mpr ⟨Or.inl hko, fun _ h => nomatch h⟩⟩⟩⟩) (fun X hX C hT => ?_)
  subst hX
  unfold f_L_addArrow at hm
  obtain ⟨⟨x | z, M1⟩, hr, hm⟩ := bnd_some hm
  · refine g_aload_n C 3 dL_addArrow_0 rfl rfl ?_
    refine g_iconst (v := 0) C dL_addArrow_1 rfl ?_
    refine g_aload_n C 0 dL_addArrow_2 rfl rfl ?_
    refine g_iload_n C 1 dL_addArrow_3 rfl rfl ?_
    refine g_iload_n C 2 dL_addArrow_4 rfl rfl ?_
    refine g_callVi_k (As := [vI l1, vI l2]) (rest := [vI (0 : Int32), vR 23 0]) C lk_L_15 (k_X9_addArrow X.2.1 G hl hG fu l1 l2 M (Sum.inl x, M1) hk0 hr) (by decide) rfl rfl rfl (Nat.le_of_ble_eq_true rfl) ⟨Nat.le_of_ble_eq_true rfl, Nat.le_of_ble_eq_true rfl⟩ ⟨by rw [hT.2.1]; exact Nat.zero_le _, by rw [hT.2.2]; exact Nat.zero_le _⟩ dL_addArrow_5 ?_
    refine g_i2l C dL_addArrow_8 ?_
    refine g_last C (by decide) (by decide : inb (0 : Int32) 1) dL_addArrow_9 ?_
    refine g_goto (tgt := 25) C dL_addArrow_10 (by decide) ?_
    refine g_iconst (v := 0) C dL_addArrow_25 rfl ?_
    obtain rfl := Option.some.inj hm
    exact g_iretW C hT dL_addArrow_26
  · refine g_aload_n C 3 dL_addArrow_0 rfl rfl ?_
    refine g_iconst (v := 0) C dL_addArrow_1 rfl ?_
    refine g_aload_n C 0 dL_addArrow_2 rfl rfl ?_
    refine g_iload_n C 1 dL_addArrow_3 rfl rfl ?_
    refine g_iload_n C 2 dL_addArrow_4 rfl rfl ?_
    by_cases hz0 : z = 0
    · have hm := ift hm hz0
      subst hz0
      obtain rfl := Option.some.inj hm
      exact g_callVh (E := "java/lang/IndexOutOfBoundsException") (As := [vI l1, vI l2]) (rest := [vI (0 : Int32), vR 23 0]) C hT lk_L_15 (k_X9_addArrow X.2.1 G hl hG fu l1 l2 M (Sum.inr 0, M1) hk0 hr) (by decide) rfl rfl rfl (Nat.le_of_ble_eq_true rfl) ⟨Nat.le_of_ble_eq_true rfl, Nat.le_of_ble_eq_true rfl⟩ ⟨Nat.le_refl _, Nat.le_refl _⟩ dL_addArrow_5 [] { startPc := 0, endPc := 10, handlerPc := 13, catchType := 19 } [{ startPc := 0, endPc := 10, handlerPc := 17, catchType := 13 }, { startPc := 0, endPc := 10, handlerPc := 21, catchType := 21 }] rfl (fun _ h => nomatch h) rfl (by decide) kcl_19 (by decide +kernel) true (i := 4) (by decide) dL_addArrow_13 (by decide) dL_addArrow_15 rfl dL_addArrow_16
    have hm := ife hm hz0
    by_cases hz1 : z = 1
    · have hm := ift hm hz1
      subst hz1
      obtain rfl := Option.some.inj hm
      exact g_callVh (E := "java/lang/IllegalArgumentException") (As := [vI l1, vI l2]) (rest := [vI (0 : Int32), vR 23 0]) C hT lk_L_15 (k_X9_addArrow X.2.1 G hl hG fu l1 l2 M (Sum.inr 1, M1) hk0 hr) (by decide) rfl rfl rfl (Nat.le_of_ble_eq_true rfl) ⟨Nat.le_of_ble_eq_true rfl, Nat.le_of_ble_eq_true rfl⟩ ⟨Nat.le_refl _, Nat.le_refl _⟩ dL_addArrow_5 [{ startPc := 0, endPc := 10, handlerPc := 13, catchType := 19 }] { startPc := 0, endPc := 10, handlerPc := 17, catchType := 13 } [{ startPc := 0, endPc := 10, handlerPc := 21, catchType := 21 }] rfl (List.forall_mem_cons.mpr ⟨⟨by decide, "java/lang/IndexOutOfBoundsException", kcl_19, by decide +kernel⟩, fun _ h => nomatch h⟩) rfl (by decide) kcl_13 (by decide +kernel) true (i := 4) (by decide) dL_addArrow_17 (by decide) dL_addArrow_19 rfl dL_addArrow_20
    have hm := ife hm hz1
    by_cases hz2 : z = 2
    · have hm := ift hm hz2
      subst hz2
      obtain rfl := Option.some.inj hm
      exact g_callVh (E := "java/lang/IllegalStateException") (As := [vI l1, vI l2]) (rest := [vI (0 : Int32), vR 23 0]) C hT lk_L_15 (k_X9_addArrow X.2.1 G hl hG fu l1 l2 M (Sum.inr 2, M1) hk0 hr) (by decide) rfl rfl rfl (Nat.le_of_ble_eq_true rfl) ⟨Nat.le_of_ble_eq_true rfl, Nat.le_of_ble_eq_true rfl⟩ ⟨Nat.le_refl _, Nat.le_refl _⟩ dL_addArrow_5 [{ startPc := 0, endPc := 10, handlerPc := 13, catchType := 19 }, { startPc := 0, endPc := 10, handlerPc := 17, catchType := 13 }] { startPc := 0, endPc := 10, handlerPc := 21, catchType := 21 } [] rfl (List.forall_mem_cons.mpr ⟨⟨by decide, "java/lang/IndexOutOfBoundsException", kcl_19, by decide +kernel⟩, List.forall_mem_cons.mpr ⟨⟨by decide, "java/lang/IllegalArgumentException", kcl_13, by decide +kernel⟩, fun _ h => nomatch h⟩⟩) rfl (by decide) kcl_21 (by decide +kernel) true (i := 4) (by decide) dL_addArrow_21 (by decide) dL_addArrow_23 rfl dL_addArrow_24
    have hm := ife hm hz2
    cases hm
def f_L_dropArrow (fu : Nat)  (M : Mem) : Option (Int32 × Mem) :=
  (f_X9_dropArrow fu  M).bind (fun r => match r with
    | (Sum.inl x, M1) => some ((0 : Int32), mL M1 23 0 0 x.toInt64)
    | (Sum.inr z, M1) => if z = 2 then some ((1 : Int32), M1) else none)
set_option maxHeartbeats 4000000 in
set_option maxRecDepth 100000 in
theorem k_L_dropArrow (l : Launch) (G : GE) (hl : l.stackTraces = false) (hG : GOK G) (fu : Nat)  (M : Mem) (res : Int32 × Mem) (hk0 : (9, 0) ∈ gids G) (hko : (23, 0) ∈ gids G) (hm : f_L_dropArrow fu  M = some res) : CTW l G yL_dropArrow cL_dropArrow 3 [(0, 8, 11, 21)] 7 [vR 9 0, vR 23 0] M res.1 res.2 := by
  refine ctw_of [(0, vR 9 0), (1, vR 23 0)] (by decide +kernel) hl hG (Nat.le_of_ble_eq_true rfl) rfl (List.forall_mem_cons.mpr ⟨Or.inl hk0, List.forall_mem_cons.mpr ⟨Or.inl hko, fun _ h => nomatch h⟩⟩) (fun X hX C hT => ?_)
  subst hX
  unfold f_L_dropArrow at hm
  obtain ⟨⟨x | z, M1⟩, hr, hm⟩ := bnd_some hm
  · refine g_aload_n C 1 dL_dropArrow_0 rfl rfl ?_
    refine g_iconst (v := 0) C dL_dropArrow_1 rfl ?_
    refine g_aload_n C 0 dL_dropArrow_2 rfl rfl ?_
    refine g_callVi_k (As := []) (rest := [vI (0 : Int32), vR 23 0]) C lk_L_23 (k_X9_dropArrow X.2.1 G hl hG fu  M (Sum.inl x, M1) hk0 hr) (by decide) rfl rfl rfl (Nat.le_of_ble_eq_true rfl) ⟨Nat.le_of_ble_eq_true rfl, Nat.le_of_ble_eq_true rfl⟩ ⟨by rw [hT.2.1]; exact Nat.zero_le _, by rw [hT.2.2]; exact Nat.zero_le _⟩ dL_dropArrow_3 ?_
    refine g_i2l C dL_dropArrow_6 ?_
    refine g_last C (by decide) (by decide : inb (0 : Int32) 1) dL_dropArrow_7 ?_
    refine g_goto (tgt := 14) C dL_dropArrow_8 (by decide) ?_
    refine g_iconst (v := 0) C dL_dropArrow_14 rfl ?_
    obtain rfl := Option.some.inj hm
    exact g_iretW C hT dL_dropArrow_15
  · refine g_aload_n C 1 dL_dropArrow_0 rfl rfl ?_
    refine g_iconst (v := 0) C dL_dropArrow_1 rfl ?_
    refine g_aload_n C 0 dL_dropArrow_2 rfl rfl ?_
    by_cases hz0 : z = 2
    · have hm := ift hm hz0
      subst hz0
      obtain rfl := Option.some.inj hm
      exact g_callVh (E := "java/lang/IllegalStateException") (As := []) (rest := [vI (0 : Int32), vR 23 0]) C hT lk_L_23 (k_X9_dropArrow X.2.1 G hl hG fu  M (Sum.inr 2, M1) hk0 hr) (by decide) rfl rfl rfl (Nat.le_of_ble_eq_true rfl) ⟨Nat.le_of_ble_eq_true rfl, Nat.le_of_ble_eq_true rfl⟩ ⟨Nat.le_refl _, Nat.le_refl _⟩ dL_dropArrow_3 [] { startPc := 0, endPc := 8, handlerPc := 11, catchType := 21 } [] rfl (fun _ h => nomatch h) rfl (by decide) kcl_21 (by decide +kernel) false (i := 2) (by decide) dL_dropArrow_11 (by decide) dL_dropArrow_12 rfl dL_dropArrow_13
    have hm := ife hm hz0
    cases hm
def f_L_addCell (fu : Nat) (l1 : Int32) (l2 : Int32) (M : Mem) : Option (Int32 × Mem) :=
  (f_X9_addCell fu l1 l2 M).bind (fun r => match r with
    | (Sum.inl x, M1) => some ((0 : Int32), mL M1 23 0 0 x.toInt64)
    | (Sum.inr z, M1) => if z = 0 then some ((1 : Int32), M1) else if z = 1 then some ((2 : Int32), M1) else if z = 2 then some ((3 : Int32), M1) else none)
set_option maxHeartbeats 4000000 in
set_option maxRecDepth 100000 in
theorem k_L_addCell (l : Launch) (G : GE) (hl : l.stackTraces = false) (hG : GOK G) (fu : Nat) (l1 : Int32) (l2 : Int32) (M : Mem) (res : Int32 × Mem) (hk0 : (9, 0) ∈ gids G) (hko : (23, 0) ∈ gids G) (hm : f_L_addCell fu l1 l2 M = some res) : CTW l G yL_addCell cL_addCell 5 [(0, 10, 13, 19), (0, 10, 17, 13), (0, 10, 21, 21)] 9 [vR 9 0, vI l1, vI l2, vR 23 0] M res.1 res.2 := by
  refine ctw_of [(0, vR 9 0), (1, vI l1), (2, vI l2), (3, vR 23 0)] (by decide +kernel) hl hG (Nat.le_of_ble_eq_true rfl) rfl (List.forall_mem_cons.mpr ⟨Or.inl hk0, List.forall_mem_cons.mpr ⟨trivial, List.forall_mem_cons.mpr ⟨trivial, List.forall_mem_cons.mpr ⟨Or.inl hko, fun _ h => nomatch h⟩⟩⟩⟩) (fun X hX C hT => ?_)
  subst hX
  unfold f_L_addCell at hm
  obtain ⟨⟨x | z, M1⟩, hr, hm⟩ := bnd_some hm
  · refine g_aload_n C 3 dL_addCell_0 rfl rfl ?_
    refine g_iconst (v := 0) C dL_addCell_1 rfl ?_
    refine g_aload_n C 0 dL_addCell_2 rfl rfl ?_
    refine g_iload_n C 1 dL_addCell_3 rfl rfl ?_
    refine g_iload_n C 2 dL_addCell_4 rfl rfl ?_
    refine g_callVi_k (As := [vI l1, vI l2]) (rest := [vI (0 : Int32), vR 23 0]) C lk_L_27 (k_X9_addCell X.2.1 G hl hG fu l1 l2 M (Sum.inl x, M1) hk0 hr) (by decide) rfl rfl rfl (Nat.le_of_ble_eq_true rfl) ⟨Nat.le_of_ble_eq_true rfl, Nat.le_of_ble_eq_true rfl⟩ ⟨by rw [hT.2.1]; exact Nat.zero_le _, by rw [hT.2.2]; exact Nat.zero_le _⟩ dL_addCell_5 ?_
    refine g_i2l C dL_addCell_8 ?_
    refine g_last C (by decide) (by decide : inb (0 : Int32) 1) dL_addCell_9 ?_
    refine g_goto (tgt := 25) C dL_addCell_10 (by decide) ?_
    refine g_iconst (v := 0) C dL_addCell_25 rfl ?_
    obtain rfl := Option.some.inj hm
    exact g_iretW C hT dL_addCell_26
  · refine g_aload_n C 3 dL_addCell_0 rfl rfl ?_
    refine g_iconst (v := 0) C dL_addCell_1 rfl ?_
    refine g_aload_n C 0 dL_addCell_2 rfl rfl ?_
    refine g_iload_n C 1 dL_addCell_3 rfl rfl ?_
    refine g_iload_n C 2 dL_addCell_4 rfl rfl ?_
    by_cases hz0 : z = 0
    · have hm := ift hm hz0
      subst hz0
      obtain rfl := Option.some.inj hm
      exact g_callVh (E := "java/lang/IndexOutOfBoundsException") (As := [vI l1, vI l2]) (rest := [vI (0 : Int32), vR 23 0]) C hT lk_L_27 (k_X9_addCell X.2.1 G hl hG fu l1 l2 M (Sum.inr 0, M1) hk0 hr) (by decide) rfl rfl rfl (Nat.le_of_ble_eq_true rfl) ⟨Nat.le_of_ble_eq_true rfl, Nat.le_of_ble_eq_true rfl⟩ ⟨Nat.le_refl _, Nat.le_refl _⟩ dL_addCell_5 [] { startPc := 0, endPc := 10, handlerPc := 13, catchType := 19 } [{ startPc := 0, endPc := 10, handlerPc := 17, catchType := 13 }, { startPc := 0, endPc := 10, handlerPc := 21, catchType := 21 }] rfl (fun _ h => nomatch h) rfl (by decide) kcl_19 (by decide +kernel) true (i := 4) (by decide) dL_addCell_13 (by decide) dL_addCell_15 rfl dL_addCell_16
    have hm := ife hm hz0
    by_cases hz1 : z = 1
    · have hm := ift hm hz1
      subst hz1
      obtain rfl := Option.some.inj hm
      exact g_callVh (E := "java/lang/IllegalArgumentException") (As := [vI l1, vI l2]) (rest := [vI (0 : Int32), vR 23 0]) C hT lk_L_27 (k_X9_addCell X.2.1 G hl hG fu l1 l2 M (Sum.inr 1, M1) hk0 hr) (by decide) rfl rfl rfl (Nat.le_of_ble_eq_true rfl) ⟨Nat.le_of_ble_eq_true rfl, Nat.le_of_ble_eq_true rfl⟩ ⟨Nat.le_refl _, Nat.le_refl _⟩ dL_addCell_5 [{ startPc := 0, endPc := 10, handlerPc := 13, catchType := 19 }] { startPc := 0, endPc := 10, handlerPc := 17, catchType := 13 } [{ startPc := 0, endPc := 10, handlerPc := 21, catchType := 21 }] rfl (List.forall_mem_cons.mpr ⟨⟨by decide, "java/lang/IndexOutOfBoundsException", kcl_19, by decide +kernel⟩, fun _ h => nomatch h⟩) rfl (by decide) kcl_13 (by decide +kernel) true (i := 4) (by decide) dL_addCell_17 (by decide) dL_addCell_19 rfl dL_addCell_20
    have hm := ife hm hz1
    by_cases hz2 : z = 2
    · have hm := ift hm hz2
      subst hz2
      obtain rfl := Option.some.inj hm
      exact g_callVh (E := "java/lang/IllegalStateException") (As := [vI l1, vI l2]) (rest := [vI (0 : Int32), vR 23 0]) C hT lk_L_27 (k_X9_addCell X.2.1 G hl hG fu l1 l2 M (Sum.inr 2, M1) hk0 hr) (by decide) rfl rfl rfl (Nat.le_of_ble_eq_true rfl) ⟨Nat.le_of_ble_eq_true rfl, Nat.le_of_ble_eq_true rfl⟩ ⟨Nat.le_refl _, Nat.le_refl _⟩ dL_addCell_5 [{ startPc := 0, endPc := 10, handlerPc := 13, catchType := 19 }, { startPc := 0, endPc := 10, handlerPc := 17, catchType := 13 }] { startPc := 0, endPc := 10, handlerPc := 21, catchType := 21 } [] rfl (List.forall_mem_cons.mpr ⟨⟨by decide, "java/lang/IndexOutOfBoundsException", kcl_19, by decide +kernel⟩, List.forall_mem_cons.mpr ⟨⟨by decide, "java/lang/IllegalArgumentException", kcl_13, by decide +kernel⟩, fun _ h => nomatch h⟩⟩) rfl (by decide) kcl_21 (by decide +kernel) true (i := 4) (by decide) dL_addCell_21 (by decide) dL_addCell_23 rfl dL_addCell_24
    have hm := ife hm hz2
    cases hm
def f_L_dropCell (fu : Nat) (l1 : Int32) (M : Mem) : Option (Int32 × Mem) :=
  (f_X9_dropCell fu l1 M).bind (fun r => match r with
    | (Sum.inl x, M1) => some ((0 : Int32), mL M1 23 0 0 x.toInt64)
    | (Sum.inr z, M1) => if z = 0 then some ((1 : Int32), M1) else none)
set_option maxHeartbeats 4000000 in
set_option maxRecDepth 100000 in
theorem k_L_dropCell (l : Launch) (G : GE) (hl : l.stackTraces = false) (hG : GOK G) (fu : Nat) (l1 : Int32) (M : Mem) (res : Int32 × Mem) (hk0 : (9, 0) ∈ gids G) (hko : (23, 0) ∈ gids G) (hm : f_L_dropCell fu l1 M = some res) : CTW l G yL_dropCell cL_dropCell 4 [(0, 9, 12, 19)] 8 [vR 9 0, vI l1, vR 23 0] M res.1 res.2 := by
  refine ctw_of [(0, vR 9 0), (1, vI l1), (2, vR 23 0)] (by decide +kernel) hl hG (Nat.le_of_ble_eq_true rfl) rfl (List.forall_mem_cons.mpr ⟨Or.inl hk0, List.forall_mem_cons.mpr ⟨trivial, List.forall_mem_cons.mpr ⟨Or.inl hko, fun _ h => nomatch h⟩⟩⟩) (fun X hX C hT => ?_)
  subst hX
  unfold f_L_dropCell at hm
  obtain ⟨⟨x | z, M1⟩, hr, hm⟩ := bnd_some hm
  · refine g_aload_n C 2 dL_dropCell_0 rfl rfl ?_
    refine g_iconst (v := 0) C dL_dropCell_1 rfl ?_
    refine g_aload_n C 0 dL_dropCell_2 rfl rfl ?_
    refine g_iload_n C 1 dL_dropCell_3 rfl rfl ?_
    refine g_callVi_k (As := [vI l1]) (rest := [vI (0 : Int32), vR 23 0]) C lk_L_30 (k_X9_dropCell X.2.1 G hl hG fu l1 M (Sum.inl x, M1) hk0 hr) (by decide) rfl rfl rfl (Nat.le_of_ble_eq_true rfl) ⟨Nat.le_of_ble_eq_true rfl, Nat.le_of_ble_eq_true rfl⟩ ⟨by rw [hT.2.1]; exact Nat.zero_le _, by rw [hT.2.2]; exact Nat.zero_le _⟩ dL_dropCell_4 ?_
    refine g_i2l C dL_dropCell_7 ?_
    refine g_last C (by decide) (by decide : inb (0 : Int32) 1) dL_dropCell_8 ?_
    refine g_goto (tgt := 15) C dL_dropCell_9 (by decide) ?_
    refine g_iconst (v := 0) C dL_dropCell_15 rfl ?_
    obtain rfl := Option.some.inj hm
    exact g_iretW C hT dL_dropCell_16
  · refine g_aload_n C 2 dL_dropCell_0 rfl rfl ?_
    refine g_iconst (v := 0) C dL_dropCell_1 rfl ?_
    refine g_aload_n C 0 dL_dropCell_2 rfl rfl ?_
    refine g_iload_n C 1 dL_dropCell_3 rfl rfl ?_
    by_cases hz0 : z = 0
    · have hm := ift hm hz0
      subst hz0
      obtain rfl := Option.some.inj hm
      exact g_callVh (E := "java/lang/IndexOutOfBoundsException") (As := [vI l1]) (rest := [vI (0 : Int32), vR 23 0]) C hT lk_L_30 (k_X9_dropCell X.2.1 G hl hG fu l1 M (Sum.inr 0, M1) hk0 hr) (by decide) rfl rfl rfl (Nat.le_of_ble_eq_true rfl) ⟨Nat.le_of_ble_eq_true rfl, Nat.le_of_ble_eq_true rfl⟩ ⟨Nat.le_refl _, Nat.le_refl _⟩ dL_dropCell_4 [] { startPc := 0, endPc := 9, handlerPc := 12, catchType := 19 } [] rfl (fun _ h => nomatch h) rfl (by decide) kcl_19 (by decide +kernel) false (i := 3) (by decide) dL_dropCell_12 (by decide) dL_dropCell_13 rfl dL_dropCell_14
    have hm := ife hm hz0
    cases hm
def f_L_append (fu : Nat) (l1 : Int32) (M : Mem) : Option (Int32 × Mem) :=
  (f_X9_append fu l1 M).bind (fun r => match r with
    | (Sum.inl x, M1) => some ((0 : Int32), mL M1 23 0 0 x.toInt64)
    | (Sum.inr z, M1) => if z = 1 then some ((1 : Int32), M1) else if z = 2 then some ((2 : Int32), M1) else none)
set_option maxHeartbeats 4000000 in
set_option maxRecDepth 100000 in
theorem k_L_append (l : Launch) (G : GE) (hl : l.stackTraces = false) (hG : GOK G) (fu : Nat) (l1 : Int32) (M : Mem) (res : Int32 × Mem) (hk0 : (9, 0) ∈ gids G) (hko : (23, 0) ∈ gids G) (hm : f_L_append fu l1 M = some res) : CTW l G yL_append cL_append 4 [(0, 9, 12, 13), (0, 9, 15, 21)] 7 [vR 9 0, vI l1, vR 23 0] M res.1 res.2 := by
  refine ctw_of [(0, vR 9 0), (1, vI l1), (2, vR 23 0)] (by decide +kernel) hl hG (Nat.le_of_ble_eq_true rfl) rfl (List.forall_mem_cons.mpr ⟨Or.inl hk0, List.forall_mem_cons.mpr ⟨trivial, List.forall_mem_cons.mpr ⟨Or.inl hko, fun _ h => nomatch h⟩⟩⟩) (fun X hX C hT => ?_)
  subst hX
  unfold f_L_append at hm
  obtain ⟨⟨x | z, M1⟩, hr, hm⟩ := bnd_some hm
  · refine g_aload_n C 2 dL_append_0 rfl rfl ?_
    refine g_iconst (v := 0) C dL_append_1 rfl ?_
    refine g_aload_n C 0 dL_append_2 rfl rfl ?_
    refine g_iload_n C 1 dL_append_3 rfl rfl ?_
    refine g_callVi_k (As := [vI l1]) (rest := [vI (0 : Int32), vR 23 0]) C lk_L_33 (k_X9_append X.2.1 G hl hG fu l1 M (Sum.inl x, M1) hk0 hr) (by decide) rfl rfl rfl (Nat.le_of_ble_eq_true rfl) ⟨Nat.le_of_ble_eq_true rfl, Nat.le_of_ble_eq_true rfl⟩ ⟨by rw [hT.2.1]; exact Nat.zero_le _, by rw [hT.2.2]; exact Nat.zero_le _⟩ dL_append_4 ?_
    refine g_i2l C dL_append_7 ?_
    refine g_last C (by decide) (by decide : inb (0 : Int32) 1) dL_append_8 ?_
    refine g_goto (tgt := 18) C dL_append_9 (by decide) ?_
    refine g_iconst (v := 0) C dL_append_18 rfl ?_
    obtain rfl := Option.some.inj hm
    exact g_iretW C hT dL_append_19
  · refine g_aload_n C 2 dL_append_0 rfl rfl ?_
    refine g_iconst (v := 0) C dL_append_1 rfl ?_
    refine g_aload_n C 0 dL_append_2 rfl rfl ?_
    refine g_iload_n C 1 dL_append_3 rfl rfl ?_
    by_cases hz0 : z = 1
    · have hm := ift hm hz0
      subst hz0
      obtain rfl := Option.some.inj hm
      exact g_callVh (E := "java/lang/IllegalArgumentException") (As := [vI l1]) (rest := [vI (0 : Int32), vR 23 0]) C hT lk_L_33 (k_X9_append X.2.1 G hl hG fu l1 M (Sum.inr 1, M1) hk0 hr) (by decide) rfl rfl rfl (Nat.le_of_ble_eq_true rfl) ⟨Nat.le_of_ble_eq_true rfl, Nat.le_of_ble_eq_true rfl⟩ ⟨Nat.le_refl _, Nat.le_refl _⟩ dL_append_4 [] { startPc := 0, endPc := 9, handlerPc := 12, catchType := 13 } [{ startPc := 0, endPc := 9, handlerPc := 15, catchType := 21 }] rfl (fun _ h => nomatch h) rfl (by decide) kcl_13 (by decide +kernel) false (i := 3) (by decide) dL_append_12 (by decide) dL_append_13 rfl dL_append_14
    have hm := ife hm hz0
    by_cases hz1 : z = 2
    · have hm := ift hm hz1
      subst hz1
      obtain rfl := Option.some.inj hm
      exact g_callVh (E := "java/lang/IllegalStateException") (As := [vI l1]) (rest := [vI (0 : Int32), vR 23 0]) C hT lk_L_33 (k_X9_append X.2.1 G hl hG fu l1 M (Sum.inr 2, M1) hk0 hr) (by decide) rfl rfl rfl (Nat.le_of_ble_eq_true rfl) ⟨Nat.le_of_ble_eq_true rfl, Nat.le_of_ble_eq_true rfl⟩ ⟨Nat.le_refl _, Nat.le_refl _⟩ dL_append_4 [{ startPc := 0, endPc := 9, handlerPc := 12, catchType := 13 }] { startPc := 0, endPc := 9, handlerPc := 15, catchType := 21 } [] rfl (List.forall_mem_cons.mpr ⟨⟨by decide, "java/lang/IllegalArgumentException", kcl_13, by decide +kernel⟩, fun _ h => nomatch h⟩) rfl (by decide) kcl_21 (by decide +kernel) false (i := 3) (by decide) dL_append_15 (by decide) dL_append_16 rfl dL_append_17
    have hm := ife hm hz1
    cases hm
def f_L_load (fu : Nat)  (M : Mem) : Option (Int32 × Mem) :=
  (f_X9_load fu  M).bind (fun r => match r with
    | (Sum.inl x, M1) => some ((0 : Int32), mL M1 23 0 0 x.toInt64)
    | (Sum.inr z, M1) => if z = 1 then some ((1 : Int32), M1) else if z = 2 then some ((2 : Int32), M1) else none)
set_option maxHeartbeats 4000000 in
set_option maxRecDepth 100000 in
theorem k_L_load (l : Launch) (G : GE) (hl : l.stackTraces = false) (hG : GOK G) (fu : Nat)  (M : Mem) (res : Int32 × Mem) (hk0 : (9, 0) ∈ gids G) (hko : (23, 0) ∈ gids G) (hm : f_L_load fu  M = some res) : CTW l G yL_load cL_load 3 [(0, 8, 11, 13), (0, 8, 14, 21)] 7 [vR 9 0, vR 23 0] M res.1 res.2 := by
  refine ctw_of [(0, vR 9 0), (1, vR 23 0)] (by decide +kernel) hl hG (Nat.le_of_ble_eq_true rfl) rfl (List.forall_mem_cons.mpr ⟨Or.inl hk0, List.forall_mem_cons.mpr ⟨Or.inl hko, fun _ h => nomatch h⟩⟩) (fun X hX C hT => ?_)
  subst hX
  unfold f_L_load at hm
  obtain ⟨⟨x | z, M1⟩, hr, hm⟩ := bnd_some hm
  · refine g_aload_n C 1 dL_load_0 rfl rfl ?_
    refine g_iconst (v := 0) C dL_load_1 rfl ?_
    refine g_aload_n C 0 dL_load_2 rfl rfl ?_
    refine g_callVi_k (As := []) (rest := [vI (0 : Int32), vR 23 0]) C lk_L_36 (k_X9_load X.2.1 G hl hG fu  M (Sum.inl x, M1) hk0 hr) (by decide) rfl rfl rfl (Nat.le_of_ble_eq_true rfl) ⟨Nat.le_of_ble_eq_true rfl, Nat.le_of_ble_eq_true rfl⟩ ⟨by rw [hT.2.1]; exact Nat.zero_le _, by rw [hT.2.2]; exact Nat.zero_le _⟩ dL_load_3 ?_
    refine g_i2l C dL_load_6 ?_
    refine g_last C (by decide) (by decide : inb (0 : Int32) 1) dL_load_7 ?_
    refine g_goto (tgt := 17) C dL_load_8 (by decide) ?_
    refine g_iconst (v := 0) C dL_load_17 rfl ?_
    obtain rfl := Option.some.inj hm
    exact g_iretW C hT dL_load_18
  · refine g_aload_n C 1 dL_load_0 rfl rfl ?_
    refine g_iconst (v := 0) C dL_load_1 rfl ?_
    refine g_aload_n C 0 dL_load_2 rfl rfl ?_
    by_cases hz0 : z = 1
    · have hm := ift hm hz0
      subst hz0
      obtain rfl := Option.some.inj hm
      exact g_callVh (E := "java/lang/IllegalArgumentException") (As := []) (rest := [vI (0 : Int32), vR 23 0]) C hT lk_L_36 (k_X9_load X.2.1 G hl hG fu  M (Sum.inr 1, M1) hk0 hr) (by decide) rfl rfl rfl (Nat.le_of_ble_eq_true rfl) ⟨Nat.le_of_ble_eq_true rfl, Nat.le_of_ble_eq_true rfl⟩ ⟨Nat.le_refl _, Nat.le_refl _⟩ dL_load_3 [] { startPc := 0, endPc := 8, handlerPc := 11, catchType := 13 } [{ startPc := 0, endPc := 8, handlerPc := 14, catchType := 21 }] rfl (fun _ h => nomatch h) rfl (by decide) kcl_13 (by decide +kernel) false (i := 2) (by decide) dL_load_11 (by decide) dL_load_12 rfl dL_load_13
    have hm := ife hm hz0
    by_cases hz1 : z = 2
    · have hm := ift hm hz1
      subst hz1
      obtain rfl := Option.some.inj hm
      exact g_callVh (E := "java/lang/IllegalStateException") (As := []) (rest := [vI (0 : Int32), vR 23 0]) C hT lk_L_36 (k_X9_load X.2.1 G hl hG fu  M (Sum.inr 2, M1) hk0 hr) (by decide) rfl rfl rfl (Nat.le_of_ble_eq_true rfl) ⟨Nat.le_of_ble_eq_true rfl, Nat.le_of_ble_eq_true rfl⟩ ⟨Nat.le_refl _, Nat.le_refl _⟩ dL_load_3 [{ startPc := 0, endPc := 8, handlerPc := 11, catchType := 13 }] { startPc := 0, endPc := 8, handlerPc := 14, catchType := 21 } [] rfl (List.forall_mem_cons.mpr ⟨⟨by decide, "java/lang/IllegalArgumentException", kcl_13, by decide +kernel⟩, fun _ h => nomatch h⟩) rfl (by decide) kcl_21 (by decide +kernel) false (i := 2) (by decide) dL_load_14 (by decide) dL_load_15 rfl dL_load_16
    have hm := ife hm hz1
    cases hm
def f_L_path (fu : Nat) (l1 : Int32) (l2 : Int32) (M : Mem) : Option (Int32 × Mem) :=
  (f_X9_path fu l1 l2 M).bind (fun r => match r with
    | (Sum.inl x, M1) => some ((0 : Int32), mL M1 23 0 0 x.toInt64)
    | (Sum.inr z, M1) => if z = 0 then some ((1 : Int32), M1) else if z = 1 then some ((2 : Int32), M1) else none)
set_option maxHeartbeats 4000000 in
set_option maxRecDepth 100000 in
theorem k_L_path (l : Launch) (G : GE) (hl : l.stackTraces = false) (hG : GOK G) (fu : Nat) (l1 : Int32) (l2 : Int32) (M : Mem) (res : Int32 × Mem) (hk0 : (9, 0) ∈ gids G) (hko : (23, 0) ∈ gids G) (hm : f_L_path fu l1 l2 M = some res) : CTW l G yL_path cL_path 5 [(0, 10, 13, 19), (0, 10, 17, 13)] 8 [vR 9 0, vI l1, vI l2, vR 23 0] M res.1 res.2 := by
  refine ctw_of [(0, vR 9 0), (1, vI l1), (2, vI l2), (3, vR 23 0)] (by decide +kernel) hl hG (Nat.le_of_ble_eq_true rfl) rfl (List.forall_mem_cons.mpr ⟨Or.inl hk0, List.forall_mem_cons.mpr ⟨trivial, List.forall_mem_cons.mpr ⟨trivial, List.forall_mem_cons.mpr ⟨Or.inl hko, fun _ h => nomatch h⟩⟩⟩⟩) (fun X hX C hT => ?_)
  subst hX
  unfold f_L_path at hm
  obtain ⟨⟨x | z, M1⟩, hr, hm⟩ := bnd_some hm
  · refine g_aload_n C 3 dL_path_0 rfl rfl ?_
    refine g_iconst (v := 0) C dL_path_1 rfl ?_
    refine g_aload_n C 0 dL_path_2 rfl rfl ?_
    refine g_iload_n C 1 dL_path_3 rfl rfl ?_
    refine g_iload_n C 2 dL_path_4 rfl rfl ?_
    refine g_callVi_k (As := [vI l1, vI l2]) (rest := [vI (0 : Int32), vR 23 0]) C lk_L_39 (k_X9_path X.2.1 G hl hG fu l1 l2 M (Sum.inl x, M1) hk0 hr) (by decide) rfl rfl rfl (Nat.le_of_ble_eq_true rfl) ⟨Nat.le_of_ble_eq_true rfl, Nat.le_of_ble_eq_true rfl⟩ ⟨by rw [hT.2.1]; exact Nat.zero_le _, by rw [hT.2.2]; exact Nat.zero_le _⟩ dL_path_5 ?_
    refine g_i2l C dL_path_8 ?_
    refine g_last C (by decide) (by decide : inb (0 : Int32) 1) dL_path_9 ?_
    refine g_goto (tgt := 21) C dL_path_10 (by decide) ?_
    refine g_iconst (v := 0) C dL_path_21 rfl ?_
    obtain rfl := Option.some.inj hm
    exact g_iretW C hT dL_path_22
  · refine g_aload_n C 3 dL_path_0 rfl rfl ?_
    refine g_iconst (v := 0) C dL_path_1 rfl ?_
    refine g_aload_n C 0 dL_path_2 rfl rfl ?_
    refine g_iload_n C 1 dL_path_3 rfl rfl ?_
    refine g_iload_n C 2 dL_path_4 rfl rfl ?_
    by_cases hz0 : z = 0
    · have hm := ift hm hz0
      subst hz0
      obtain rfl := Option.some.inj hm
      exact g_callVh (E := "java/lang/IndexOutOfBoundsException") (As := [vI l1, vI l2]) (rest := [vI (0 : Int32), vR 23 0]) C hT lk_L_39 (k_X9_path X.2.1 G hl hG fu l1 l2 M (Sum.inr 0, M1) hk0 hr) (by decide) rfl rfl rfl (Nat.le_of_ble_eq_true rfl) ⟨Nat.le_of_ble_eq_true rfl, Nat.le_of_ble_eq_true rfl⟩ ⟨Nat.le_refl _, Nat.le_refl _⟩ dL_path_5 [] { startPc := 0, endPc := 10, handlerPc := 13, catchType := 19 } [{ startPc := 0, endPc := 10, handlerPc := 17, catchType := 13 }] rfl (fun _ h => nomatch h) rfl (by decide) kcl_19 (by decide +kernel) true (i := 4) (by decide) dL_path_13 (by decide) dL_path_15 rfl dL_path_16
    have hm := ife hm hz0
    by_cases hz1 : z = 1
    · have hm := ift hm hz1
      subst hz1
      obtain rfl := Option.some.inj hm
      exact g_callVh (E := "java/lang/IllegalArgumentException") (As := [vI l1, vI l2]) (rest := [vI (0 : Int32), vR 23 0]) C hT lk_L_39 (k_X9_path X.2.1 G hl hG fu l1 l2 M (Sum.inr 1, M1) hk0 hr) (by decide) rfl rfl rfl (Nat.le_of_ble_eq_true rfl) ⟨Nat.le_of_ble_eq_true rfl, Nat.le_of_ble_eq_true rfl⟩ ⟨Nat.le_refl _, Nat.le_refl _⟩ dL_path_5 [{ startPc := 0, endPc := 10, handlerPc := 13, catchType := 19 }] { startPc := 0, endPc := 10, handlerPc := 17, catchType := 13 } [] rfl (List.forall_mem_cons.mpr ⟨⟨by decide, "java/lang/IndexOutOfBoundsException", kcl_19, by decide +kernel⟩, fun _ h => nomatch h⟩) rfl (by decide) kcl_13 (by decide +kernel) true (i := 4) (by decide) dL_path_17 (by decide) dL_path_19 rfl dL_path_20
    have hm := ife hm hz1
    cases hm
def f_L_arrowOf (fu : Nat) (l1 : Int32) (l2 : Int32) (M : Mem) : Option (Int32 × Mem) :=
  (f_X9_arrowOf fu l1 l2 M).bind (fun r => match r with
    | (Sum.inl x, M1) => some ((0 : Int32), mL M1 23 0 0 x.toInt64)
    | (Sum.inr z, M1) => if z = 0 then some ((1 : Int32), M1) else none)
set_option maxHeartbeats 4000000 in
set_option maxRecDepth 100000 in
theorem k_L_arrowOf (l : Launch) (G : GE) (hl : l.stackTraces = false) (hG : GOK G) (fu : Nat) (l1 : Int32) (l2 : Int32) (M : Mem) (res : Int32 × Mem) (hk0 : (9, 0) ∈ gids G) (hko : (23, 0) ∈ gids G) (hm : f_L_arrowOf fu l1 l2 M = some res) : CTW l G yL_arrowOf cL_arrowOf 5 [(0, 10, 13, 19)] 8 [vR 9 0, vI l1, vI l2, vR 23 0] M res.1 res.2 := by
  refine ctw_of [(0, vR 9 0), (1, vI l1), (2, vI l2), (3, vR 23 0)] (by decide +kernel) hl hG (Nat.le_of_ble_eq_true rfl) rfl (List.forall_mem_cons.mpr ⟨Or.inl hk0, List.forall_mem_cons.mpr ⟨trivial, List.forall_mem_cons.mpr ⟨trivial, List.forall_mem_cons.mpr ⟨Or.inl hko, fun _ h => nomatch h⟩⟩⟩⟩) (fun X hX C hT => ?_)
  subst hX
  unfold f_L_arrowOf at hm
  obtain ⟨⟨x | z, M1⟩, hr, hm⟩ := bnd_some hm
  · refine g_aload_n C 3 dL_arrowOf_0 rfl rfl ?_
    refine g_iconst (v := 0) C dL_arrowOf_1 rfl ?_
    refine g_aload_n C 0 dL_arrowOf_2 rfl rfl ?_
    refine g_iload_n C 1 dL_arrowOf_3 rfl rfl ?_
    refine g_iload_n C 2 dL_arrowOf_4 rfl rfl ?_
    refine g_callVi_k (As := [vI l1, vI l2]) (rest := [vI (0 : Int32), vR 23 0]) C lk_L_42 (k_X9_arrowOf X.2.1 G hl hG fu l1 l2 M (Sum.inl x, M1) hk0 hr) (by decide) rfl rfl rfl (Nat.le_of_ble_eq_true rfl) ⟨Nat.le_of_ble_eq_true rfl, Nat.le_of_ble_eq_true rfl⟩ ⟨by rw [hT.2.1]; exact Nat.zero_le _, by rw [hT.2.2]; exact Nat.zero_le _⟩ dL_arrowOf_5 ?_
    refine g_i2l C dL_arrowOf_8 ?_
    refine g_last C (by decide) (by decide : inb (0 : Int32) 1) dL_arrowOf_9 ?_
    refine g_goto (tgt := 17) C dL_arrowOf_10 (by decide) ?_
    refine g_iconst (v := 0) C dL_arrowOf_17 rfl ?_
    obtain rfl := Option.some.inj hm
    exact g_iretW C hT dL_arrowOf_18
  · refine g_aload_n C 3 dL_arrowOf_0 rfl rfl ?_
    refine g_iconst (v := 0) C dL_arrowOf_1 rfl ?_
    refine g_aload_n C 0 dL_arrowOf_2 rfl rfl ?_
    refine g_iload_n C 1 dL_arrowOf_3 rfl rfl ?_
    refine g_iload_n C 2 dL_arrowOf_4 rfl rfl ?_
    by_cases hz0 : z = 0
    · have hm := ift hm hz0
      subst hz0
      obtain rfl := Option.some.inj hm
      exact g_callVh (E := "java/lang/IndexOutOfBoundsException") (As := [vI l1, vI l2]) (rest := [vI (0 : Int32), vR 23 0]) C hT lk_L_42 (k_X9_arrowOf X.2.1 G hl hG fu l1 l2 M (Sum.inr 0, M1) hk0 hr) (by decide) rfl rfl rfl (Nat.le_of_ble_eq_true rfl) ⟨Nat.le_of_ble_eq_true rfl, Nat.le_of_ble_eq_true rfl⟩ ⟨Nat.le_refl _, Nat.le_refl _⟩ dL_arrowOf_5 [] { startPc := 0, endPc := 10, handlerPc := 13, catchType := 19 } [] rfl (fun _ h => nomatch h) rfl (by decide) kcl_19 (by decide +kernel) true (i := 4) (by decide) dL_arrowOf_13 (by decide) dL_arrowOf_15 rfl dL_arrowOf_16
    have hm := ife hm hz0
    cases hm
def f_L_between (fu : Nat) (l1 : Int32) (l2 : Int32) (l3 : Int32) (M : Mem) : Option (Int32 × Mem) :=
  (f_X9_between fu l1 l2 l3 M).bind (fun r => match r with
    | (Sum.inl x, M1) => some ((0 : Int32), mL M1 23 0 0 x.toInt64)
    | (Sum.inr z, M1) => if z = 0 then some ((1 : Int32), M1) else none)
set_option maxHeartbeats 4000000 in
set_option maxRecDepth 100000 in
theorem k_L_between (l : Launch) (G : GE) (hl : l.stackTraces = false) (hG : GOK G) (fu : Nat) (l1 : Int32) (l2 : Int32) (l3 : Int32) (M : Mem) (res : Int32 × Mem) (hk0 : (9, 0) ∈ gids G) (hko : (23, 0) ∈ gids G) (hm : f_L_between fu l1 l2 l3 M = some res) : CTW l G yL_between cL_between 6 [(0, 12, 15, 19)] 8 [vR 9 0, vI l1, vI l2, vI l3, vR 23 0] M res.1 res.2 := by
  refine ctw_of [(0, vR 9 0), (1, vI l1), (2, vI l2), (3, vI l3), (4, vR 23 0)] (by decide +kernel) hl hG (Nat.le_of_ble_eq_true rfl) rfl (List.forall_mem_cons.mpr ⟨Or.inl hk0, List.forall_mem_cons.mpr ⟨trivial, List.forall_mem_cons.mpr ⟨trivial, List.forall_mem_cons.mpr ⟨trivial, List.forall_mem_cons.mpr ⟨Or.inl hko, fun _ h => nomatch h⟩⟩⟩⟩⟩) (fun X hX C hT => ?_)
  subst hX
  unfold f_L_between at hm
  obtain ⟨⟨x | z, M1⟩, hr, hm⟩ := bnd_some hm
  · refine g_aload C 4 dL_between_0 rfl ?_
    refine g_iconst (v := 0) C dL_between_2 rfl ?_
    refine g_aload_n C 0 dL_between_3 rfl rfl ?_
    refine g_iload_n C 1 dL_between_4 rfl rfl ?_
    refine g_iload_n C 2 dL_between_5 rfl rfl ?_
    refine g_iload_n C 3 dL_between_6 rfl rfl ?_
    refine g_callVi_k (As := [vI l1, vI l2, vI l3]) (rest := [vI (0 : Int32), vR 23 0]) C lk_L_45 (k_X9_between X.2.1 G hl hG fu l1 l2 l3 M (Sum.inl x, M1) hk0 hr) (by decide) rfl rfl rfl (Nat.le_of_ble_eq_true rfl) ⟨Nat.le_of_ble_eq_true rfl, Nat.le_of_ble_eq_true rfl⟩ ⟨by rw [hT.2.1]; exact Nat.zero_le _, by rw [hT.2.2]; exact Nat.zero_le _⟩ dL_between_7 ?_
    refine g_i2l C dL_between_10 ?_
    refine g_last C (by decide) (by decide : inb (0 : Int32) 1) dL_between_11 ?_
    refine g_goto (tgt := 19) C dL_between_12 (by decide) ?_
    refine g_iconst (v := 0) C dL_between_19 rfl ?_
    obtain rfl := Option.some.inj hm
    exact g_iretW C hT dL_between_20
  · refine g_aload C 4 dL_between_0 rfl ?_
    refine g_iconst (v := 0) C dL_between_2 rfl ?_
    refine g_aload_n C 0 dL_between_3 rfl rfl ?_
    refine g_iload_n C 1 dL_between_4 rfl rfl ?_
    refine g_iload_n C 2 dL_between_5 rfl rfl ?_
    refine g_iload_n C 3 dL_between_6 rfl rfl ?_
    by_cases hz0 : z = 0
    · have hm := ift hm hz0
      subst hz0
      obtain rfl := Option.some.inj hm
      exact g_callVh (E := "java/lang/IndexOutOfBoundsException") (As := [vI l1, vI l2, vI l3]) (rest := [vI (0 : Int32), vR 23 0]) C hT lk_L_45 (k_X9_between X.2.1 G hl hG fu l1 l2 l3 M (Sum.inr 0, M1) hk0 hr) (by decide) rfl rfl rfl (Nat.le_of_ble_eq_true rfl) ⟨Nat.le_of_ble_eq_true rfl, Nat.le_of_ble_eq_true rfl⟩ ⟨Nat.le_refl _, Nat.le_refl _⟩ dL_between_7 [] { startPc := 0, endPc := 12, handlerPc := 15, catchType := 19 } [] rfl (fun _ h => nomatch h) rfl (by decide) kcl_19 (by decide +kernel) true (i := 5) (by decide) dL_between_15 (by decide) dL_between_17 rfl dL_between_18
    have hm := ife hm hz0
    cases hm
def f_L_distance (fu : Nat) (l1 : Int32) (l2 : Int32) (M : Mem) : Option (Int32 × Mem) :=
  (f_X9_distance fu l1 l2 M).bind (fun r => match r with
    | (Sum.inl x, M1) => some ((0 : Int32), mL M1 23 0 0 x.toInt64)
    | (Sum.inr z, M1) => if z = 0 then some ((1 : Int32), M1) else none)
set_option maxHeartbeats 4000000 in
set_option maxRecDepth 100000 in
theorem k_L_distance (l : Launch) (G : GE) (hl : l.stackTraces = false) (hG : GOK G) (fu : Nat) (l1 : Int32) (l2 : Int32) (M : Mem) (res : Int32 × Mem) (hk0 : (9, 0) ∈ gids G) (hko : (23, 0) ∈ gids G) (hm : f_L_distance fu l1 l2 M = some res) : CTW l G yL_distance cL_distance 5 [(0, 10, 13, 19)] 8 [vR 9 0, vI l1, vI l2, vR 23 0] M res.1 res.2 := by
  refine ctw_of [(0, vR 9 0), (1, vI l1), (2, vI l2), (3, vR 23 0)] (by decide +kernel) hl hG (Nat.le_of_ble_eq_true rfl) rfl (List.forall_mem_cons.mpr ⟨Or.inl hk0, List.forall_mem_cons.mpr ⟨trivial, List.forall_mem_cons.mpr ⟨trivial, List.forall_mem_cons.mpr ⟨Or.inl hko, fun _ h => nomatch h⟩⟩⟩⟩) (fun X hX C hT => ?_)
  subst hX
  unfold f_L_distance at hm
  obtain ⟨⟨x | z, M1⟩, hr, hm⟩ := bnd_some hm
  · refine g_aload_n C 3 dL_distance_0 rfl rfl ?_
    refine g_iconst (v := 0) C dL_distance_1 rfl ?_
    refine g_aload_n C 0 dL_distance_2 rfl rfl ?_
    refine g_iload_n C 1 dL_distance_3 rfl rfl ?_
    refine g_iload_n C 2 dL_distance_4 rfl rfl ?_
    refine g_callVi_k (As := [vI l1, vI l2]) (rest := [vI (0 : Int32), vR 23 0]) C lk_L_49 (k_X9_distance X.2.1 G hl hG fu l1 l2 M (Sum.inl x, M1) hk0 hr) (by decide) rfl rfl rfl (Nat.le_of_ble_eq_true rfl) ⟨Nat.le_of_ble_eq_true rfl, Nat.le_of_ble_eq_true rfl⟩ ⟨by rw [hT.2.1]; exact Nat.zero_le _, by rw [hT.2.2]; exact Nat.zero_le _⟩ dL_distance_5 ?_
    refine g_i2l C dL_distance_8 ?_
    refine g_last C (by decide) (by decide : inb (0 : Int32) 1) dL_distance_9 ?_
    refine g_goto (tgt := 17) C dL_distance_10 (by decide) ?_
    refine g_iconst (v := 0) C dL_distance_17 rfl ?_
    obtain rfl := Option.some.inj hm
    exact g_iretW C hT dL_distance_18
  · refine g_aload_n C 3 dL_distance_0 rfl rfl ?_
    refine g_iconst (v := 0) C dL_distance_1 rfl ?_
    refine g_aload_n C 0 dL_distance_2 rfl rfl ?_
    refine g_iload_n C 1 dL_distance_3 rfl rfl ?_
    refine g_iload_n C 2 dL_distance_4 rfl rfl ?_
    by_cases hz0 : z = 0
    · have hm := ift hm hz0
      subst hz0
      obtain rfl := Option.some.inj hm
      exact g_callVh (E := "java/lang/IndexOutOfBoundsException") (As := [vI l1, vI l2]) (rest := [vI (0 : Int32), vR 23 0]) C hT lk_L_49 (k_X9_distance X.2.1 G hl hG fu l1 l2 M (Sum.inr 0, M1) hk0 hr) (by decide) rfl rfl rfl (Nat.le_of_ble_eq_true rfl) ⟨Nat.le_of_ble_eq_true rfl, Nat.le_of_ble_eq_true rfl⟩ ⟨Nat.le_refl _, Nat.le_refl _⟩ dL_distance_5 [] { startPc := 0, endPc := 10, handlerPc := 13, catchType := 19 } [] rfl (fun _ h => nomatch h) rfl (by decide) kcl_19 (by decide +kernel) true (i := 4) (by decide) dL_distance_13 (by decide) dL_distance_15 rfl dL_distance_16
    have hm := ife hm hz0
    cases hm
def f_L_proof (fu : Nat) (l1 : Int32) (l2 : Int32) (l3 : Int32) (l4 : Int32) (M : Mem) : Option (Int32 × Mem) :=
  (f_X9_proof fu l1 l2 l3 l4 M).bind (fun r => match r with
    | (Sum.inl x, M1) => some ((0 : Int32), mL M1 23 0 0 x.toInt64)
    | (Sum.inr z, M1) => if z = 0 then some ((1 : Int32), M1) else if z = 1 then some ((2 : Int32), M1) else if z = 2 then some ((3 : Int32), M1) else none)
set_option maxHeartbeats 4000000 in
set_option maxRecDepth 100000 in
theorem k_L_proof (l : Launch) (G : GE) (hl : l.stackTraces = false) (hG : GOK G) (fu : Nat) (l1 : Int32) (l2 : Int32) (l3 : Int32) (l4 : Int32) (M : Mem) (res : Int32 × Mem) (hk0 : (9, 0) ∈ gids G) (hko : (23, 0) ∈ gids G) (hm : f_L_proof fu l1 l2 l3 l4 M = some res) : CTW l G yL_proof cL_proof 7 [(0, 14, 17, 19), (0, 14, 21, 13), (0, 14, 25, 21)] 8 [vR 9 0, vI l1, vI l2, vI l3, vI l4, vR 23 0] M res.1 res.2 := by
  refine ctw_of [(0, vR 9 0), (1, vI l1), (2, vI l2), (3, vI l3), (4, vI l4), (5, vR 23 0)] (by decide +kernel) hl hG (Nat.le_of_ble_eq_true rfl) rfl (List.forall_mem_cons.mpr ⟨Or.inl hk0, List.forall_mem_cons.mpr ⟨trivial, List.forall_mem_cons.mpr ⟨trivial, List.forall_mem_cons.mpr ⟨trivial, List.forall_mem_cons.mpr ⟨trivial, List.forall_mem_cons.mpr ⟨Or.inl hko, fun _ h => nomatch h⟩⟩⟩⟩⟩⟩) (fun X hX C hT => ?_)
  subst hX
  unfold f_L_proof at hm
  obtain ⟨⟨x | z, M1⟩, hr, hm⟩ := bnd_some hm
  · refine g_aload C 5 dL_proof_0 rfl ?_
    refine g_iconst (v := 0) C dL_proof_2 rfl ?_
    refine g_aload_n C 0 dL_proof_3 rfl rfl ?_
    refine g_iload_n C 1 dL_proof_4 rfl rfl ?_
    refine g_iload_n C 2 dL_proof_5 rfl rfl ?_
    refine g_iload_n C 3 dL_proof_6 rfl rfl ?_
    refine g_iload C 4 dL_proof_7 rfl ?_
    refine g_callVi_k (As := [vI l1, vI l2, vI l3, vI l4]) (rest := [vI (0 : Int32), vR 23 0]) C lk_L_52 (k_X9_proof X.2.1 G hl hG fu l1 l2 l3 l4 M (Sum.inl x, M1) hk0 hr) (by decide) rfl rfl rfl (Nat.le_of_ble_eq_true rfl) ⟨Nat.le_of_ble_eq_true rfl, Nat.le_of_ble_eq_true rfl⟩ ⟨by rw [hT.2.1]; exact Nat.zero_le _, by rw [hT.2.2]; exact Nat.zero_le _⟩ dL_proof_9 ?_
    refine g_i2l C dL_proof_12 ?_
    refine g_last C (by decide) (by decide : inb (0 : Int32) 1) dL_proof_13 ?_
    refine g_goto (tgt := 29) C dL_proof_14 (by decide) ?_
    refine g_iconst (v := 0) C dL_proof_29 rfl ?_
    obtain rfl := Option.some.inj hm
    exact g_iretW C hT dL_proof_30
  · refine g_aload C 5 dL_proof_0 rfl ?_
    refine g_iconst (v := 0) C dL_proof_2 rfl ?_
    refine g_aload_n C 0 dL_proof_3 rfl rfl ?_
    refine g_iload_n C 1 dL_proof_4 rfl rfl ?_
    refine g_iload_n C 2 dL_proof_5 rfl rfl ?_
    refine g_iload_n C 3 dL_proof_6 rfl rfl ?_
    refine g_iload C 4 dL_proof_7 rfl ?_
    by_cases hz0 : z = 0
    · have hm := ift hm hz0
      subst hz0
      obtain rfl := Option.some.inj hm
      exact g_callVh (E := "java/lang/IndexOutOfBoundsException") (As := [vI l1, vI l2, vI l3, vI l4]) (rest := [vI (0 : Int32), vR 23 0]) C hT lk_L_52 (k_X9_proof X.2.1 G hl hG fu l1 l2 l3 l4 M (Sum.inr 0, M1) hk0 hr) (by decide) rfl rfl rfl (Nat.le_of_ble_eq_true rfl) ⟨Nat.le_of_ble_eq_true rfl, Nat.le_of_ble_eq_true rfl⟩ ⟨Nat.le_refl _, Nat.le_refl _⟩ dL_proof_9 [] { startPc := 0, endPc := 14, handlerPc := 17, catchType := 19 } [{ startPc := 0, endPc := 14, handlerPc := 21, catchType := 13 }, { startPc := 0, endPc := 14, handlerPc := 25, catchType := 21 }] rfl (fun _ h => nomatch h) rfl (by decide) kcl_19 (by decide +kernel) true (i := 6) (by decide) dL_proof_17 (by decide) dL_proof_19 rfl dL_proof_20
    have hm := ife hm hz0
    by_cases hz1 : z = 1
    · have hm := ift hm hz1
      subst hz1
      obtain rfl := Option.some.inj hm
      exact g_callVh (E := "java/lang/IllegalArgumentException") (As := [vI l1, vI l2, vI l3, vI l4]) (rest := [vI (0 : Int32), vR 23 0]) C hT lk_L_52 (k_X9_proof X.2.1 G hl hG fu l1 l2 l3 l4 M (Sum.inr 1, M1) hk0 hr) (by decide) rfl rfl rfl (Nat.le_of_ble_eq_true rfl) ⟨Nat.le_of_ble_eq_true rfl, Nat.le_of_ble_eq_true rfl⟩ ⟨Nat.le_refl _, Nat.le_refl _⟩ dL_proof_9 [{ startPc := 0, endPc := 14, handlerPc := 17, catchType := 19 }] { startPc := 0, endPc := 14, handlerPc := 21, catchType := 13 } [{ startPc := 0, endPc := 14, handlerPc := 25, catchType := 21 }] rfl (List.forall_mem_cons.mpr ⟨⟨by decide, "java/lang/IndexOutOfBoundsException", kcl_19, by decide +kernel⟩, fun _ h => nomatch h⟩) rfl (by decide) kcl_13 (by decide +kernel) true (i := 6) (by decide) dL_proof_21 (by decide) dL_proof_23 rfl dL_proof_24
    have hm := ife hm hz1
    by_cases hz2 : z = 2
    · have hm := ift hm hz2
      subst hz2
      obtain rfl := Option.some.inj hm
      exact g_callVh (E := "java/lang/IllegalStateException") (As := [vI l1, vI l2, vI l3, vI l4]) (rest := [vI (0 : Int32), vR 23 0]) C hT lk_L_52 (k_X9_proof X.2.1 G hl hG fu l1 l2 l3 l4 M (Sum.inr 2, M1) hk0 hr) (by decide) rfl rfl rfl (Nat.le_of_ble_eq_true rfl) ⟨Nat.le_of_ble_eq_true rfl, Nat.le_of_ble_eq_true rfl⟩ ⟨Nat.le_refl _, Nat.le_refl _⟩ dL_proof_9 [{ startPc := 0, endPc := 14, handlerPc := 17, catchType := 19 }, { startPc := 0, endPc := 14, handlerPc := 21, catchType := 13 }] { startPc := 0, endPc := 14, handlerPc := 25, catchType := 21 } [] rfl (List.forall_mem_cons.mpr ⟨⟨by decide, "java/lang/IndexOutOfBoundsException", kcl_19, by decide +kernel⟩, List.forall_mem_cons.mpr ⟨⟨by decide, "java/lang/IllegalArgumentException", kcl_13, by decide +kernel⟩, fun _ h => nomatch h⟩⟩) rfl (by decide) kcl_21 (by decide +kernel) true (i := 6) (by decide) dL_proof_25 (by decide) dL_proof_27 rfl dL_proof_28
    have hm := ife hm hz2
    cases hm
def f_L_cell (fu : Nat) (l1 : Int32) (l2 : Int32) (M : Mem) : Option (Int32 × Mem) :=
  (f_X9_cell fu l1 l2 M).bind (fun r => match r with
    | (Sum.inl x, M1) => some ((0 : Int32), mL M1 23 0 0 x.toInt64)
    | (Sum.inr z, M1) => if z = 0 then some ((1 : Int32), M1) else if z = 1 then some ((2 : Int32), M1) else none)
set_option maxHeartbeats 4000000 in
set_option maxRecDepth 100000 in
theorem k_L_cell (l : Launch) (G : GE) (hl : l.stackTraces = false) (hG : GOK G) (fu : Nat) (l1 : Int32) (l2 : Int32) (M : Mem) (res : Int32 × Mem) (hk0 : (9, 0) ∈ gids G) (hko : (23, 0) ∈ gids G) (hm : f_L_cell fu l1 l2 M = some res) : CTW l G yL_cell cL_cell 5 [(0, 10, 13, 19), (0, 10, 17, 13)] 8 [vR 9 0, vI l1, vI l2, vR 23 0] M res.1 res.2 := by
  refine ctw_of [(0, vR 9 0), (1, vI l1), (2, vI l2), (3, vR 23 0)] (by decide +kernel) hl hG (Nat.le_of_ble_eq_true rfl) rfl (List.forall_mem_cons.mpr ⟨Or.inl hk0, List.forall_mem_cons.mpr ⟨trivial, List.forall_mem_cons.mpr ⟨trivial, List.forall_mem_cons.mpr ⟨Or.inl hko, fun _ h => nomatch h⟩⟩⟩⟩) (fun X hX C hT => ?_)
  subst hX
  unfold f_L_cell at hm
  obtain ⟨⟨x | z, M1⟩, hr, hm⟩ := bnd_some hm
  · refine g_aload_n C 3 dL_cell_0 rfl rfl ?_
    refine g_iconst (v := 0) C dL_cell_1 rfl ?_
    refine g_aload_n C 0 dL_cell_2 rfl rfl ?_
    refine g_iload_n C 1 dL_cell_3 rfl rfl ?_
    refine g_iload_n C 2 dL_cell_4 rfl rfl ?_
    refine g_callVi_k (As := [vI l1, vI l2]) (rest := [vI (0 : Int32), vR 23 0]) C lk_L_56 (k_X9_cell X.2.1 G hl hG fu l1 l2 M (Sum.inl x, M1) hk0 hr) (by decide) rfl rfl rfl (Nat.le_of_ble_eq_true rfl) ⟨Nat.le_of_ble_eq_true rfl, Nat.le_of_ble_eq_true rfl⟩ ⟨by rw [hT.2.1]; exact Nat.zero_le _, by rw [hT.2.2]; exact Nat.zero_le _⟩ dL_cell_5 ?_
    refine g_i2l C dL_cell_8 ?_
    refine g_last C (by decide) (by decide : inb (0 : Int32) 1) dL_cell_9 ?_
    refine g_goto (tgt := 21) C dL_cell_10 (by decide) ?_
    refine g_iconst (v := 0) C dL_cell_21 rfl ?_
    obtain rfl := Option.some.inj hm
    exact g_iretW C hT dL_cell_22
  · refine g_aload_n C 3 dL_cell_0 rfl rfl ?_
    refine g_iconst (v := 0) C dL_cell_1 rfl ?_
    refine g_aload_n C 0 dL_cell_2 rfl rfl ?_
    refine g_iload_n C 1 dL_cell_3 rfl rfl ?_
    refine g_iload_n C 2 dL_cell_4 rfl rfl ?_
    by_cases hz0 : z = 0
    · have hm := ift hm hz0
      subst hz0
      obtain rfl := Option.some.inj hm
      exact g_callVh (E := "java/lang/IndexOutOfBoundsException") (As := [vI l1, vI l2]) (rest := [vI (0 : Int32), vR 23 0]) C hT lk_L_56 (k_X9_cell X.2.1 G hl hG fu l1 l2 M (Sum.inr 0, M1) hk0 hr) (by decide) rfl rfl rfl (Nat.le_of_ble_eq_true rfl) ⟨Nat.le_of_ble_eq_true rfl, Nat.le_of_ble_eq_true rfl⟩ ⟨Nat.le_refl _, Nat.le_refl _⟩ dL_cell_5 [] { startPc := 0, endPc := 10, handlerPc := 13, catchType := 19 } [{ startPc := 0, endPc := 10, handlerPc := 17, catchType := 13 }] rfl (fun _ h => nomatch h) rfl (by decide) kcl_19 (by decide +kernel) true (i := 4) (by decide) dL_cell_13 (by decide) dL_cell_15 rfl dL_cell_16
    have hm := ife hm hz0
    by_cases hz1 : z = 1
    · have hm := ift hm hz1
      subst hz1
      obtain rfl := Option.some.inj hm
      exact g_callVh (E := "java/lang/IllegalArgumentException") (As := [vI l1, vI l2]) (rest := [vI (0 : Int32), vR 23 0]) C hT lk_L_56 (k_X9_cell X.2.1 G hl hG fu l1 l2 M (Sum.inr 1, M1) hk0 hr) (by decide) rfl rfl rfl (Nat.le_of_ble_eq_true rfl) ⟨Nat.le_of_ble_eq_true rfl, Nat.le_of_ble_eq_true rfl⟩ ⟨Nat.le_refl _, Nat.le_refl _⟩ dL_cell_5 [{ startPc := 0, endPc := 10, handlerPc := 13, catchType := 19 }] { startPc := 0, endPc := 10, handlerPc := 17, catchType := 13 } [] rfl (List.forall_mem_cons.mpr ⟨⟨by decide, "java/lang/IndexOutOfBoundsException", kcl_19, by decide +kernel⟩, fun _ h => nomatch h⟩) rfl (by decide) kcl_13 (by decide +kernel) true (i := 4) (by decide) dL_cell_17 (by decide) dL_cell_19 rfl dL_cell_20
    have hm := ife hm hz1
    cases hm
def f_L_count (fu : Nat) (l1 : Int32) (M : Mem) : Option (Int32 × Mem) :=
  (f_X9_count fu l1 M).bind (fun r => match r with
    | (Sum.inl x, M1) => some ((0 : Int32), mL M1 23 0 0 x.toInt64)
    | (Sum.inr z, M1) => if z = 1 then some ((1 : Int32), M1) else none)
set_option maxHeartbeats 4000000 in
set_option maxRecDepth 100000 in
theorem k_L_count (l : Launch) (G : GE) (hl : l.stackTraces = false) (hG : GOK G) (fu : Nat) (l1 : Int32) (M : Mem) (res : Int32 × Mem) (hk0 : (9, 0) ∈ gids G) (hko : (23, 0) ∈ gids G) (hm : f_L_count fu l1 M = some res) : CTW l G yL_count cL_count 4 [(0, 9, 12, 13)] 7 [vR 9 0, vI l1, vR 23 0] M res.1 res.2 := by
  refine ctw_of [(0, vR 9 0), (1, vI l1), (2, vR 23 0)] (by decide +kernel) hl hG (Nat.le_of_ble_eq_true rfl) rfl (List.forall_mem_cons.mpr ⟨Or.inl hk0, List.forall_mem_cons.mpr ⟨trivial, List.forall_mem_cons.mpr ⟨Or.inl hko, fun _ h => nomatch h⟩⟩⟩) (fun X hX C hT => ?_)
  subst hX
  unfold f_L_count at hm
  obtain ⟨⟨x | z, M1⟩, hr, hm⟩ := bnd_some hm
  · refine g_aload_n C 2 dL_count_0 rfl rfl ?_
    refine g_iconst (v := 0) C dL_count_1 rfl ?_
    refine g_aload_n C 0 dL_count_2 rfl rfl ?_
    refine g_iload_n C 1 dL_count_3 rfl rfl ?_
    refine g_callVi_k (As := [vI l1]) (rest := [vI (0 : Int32), vR 23 0]) C lk_L_59 (k_X9_count X.2.1 G hl hG fu l1 M (Sum.inl x, M1) hk0 hr) (by decide) rfl rfl rfl (Nat.le_of_ble_eq_true rfl) ⟨Nat.le_of_ble_eq_true rfl, Nat.le_of_ble_eq_true rfl⟩ ⟨by rw [hT.2.1]; exact Nat.zero_le _, by rw [hT.2.2]; exact Nat.zero_le _⟩ dL_count_4 ?_
    refine g_i2l C dL_count_7 ?_
    refine g_last C (by decide) (by decide : inb (0 : Int32) 1) dL_count_8 ?_
    refine g_goto (tgt := 15) C dL_count_9 (by decide) ?_
    refine g_iconst (v := 0) C dL_count_15 rfl ?_
    obtain rfl := Option.some.inj hm
    exact g_iretW C hT dL_count_16
  · refine g_aload_n C 2 dL_count_0 rfl rfl ?_
    refine g_iconst (v := 0) C dL_count_1 rfl ?_
    refine g_aload_n C 0 dL_count_2 rfl rfl ?_
    refine g_iload_n C 1 dL_count_3 rfl rfl ?_
    by_cases hz0 : z = 1
    · have hm := ift hm hz0
      subst hz0
      obtain rfl := Option.some.inj hm
      exact g_callVh (E := "java/lang/IllegalArgumentException") (As := [vI l1]) (rest := [vI (0 : Int32), vR 23 0]) C hT lk_L_59 (k_X9_count X.2.1 G hl hG fu l1 M (Sum.inr 1, M1) hk0 hr) (by decide) rfl rfl rfl (Nat.le_of_ble_eq_true rfl) ⟨Nat.le_of_ble_eq_true rfl, Nat.le_of_ble_eq_true rfl⟩ ⟨Nat.le_refl _, Nat.le_refl _⟩ dL_count_4 [] { startPc := 0, endPc := 9, handlerPc := 12, catchType := 13 } [] rfl (fun _ h => nomatch h) rfl (by decide) kcl_13 (by decide +kernel) false (i := 3) (by decide) dL_count_12 (by decide) dL_count_13 rfl dL_count_14
    have hm := ife hm hz0
    cases hm
def f_L_setSize (fu : Nat) (l1 : Int32) (l2 : Int32) (M : Mem) : Option (Int32 × Mem) :=
  (f_X9_setSize fu l1 l2 M).bind (fun r => match r with
    | (Sum.inl x, M1) => some ((0 : Int32), mL M1 23 0 0 x.toInt64)
    | (Sum.inr z, M1) => if z = 0 then some ((1 : Int32), M1) else if z = 1 then some ((2 : Int32), M1) else none)
set_option maxHeartbeats 4000000 in
set_option maxRecDepth 100000 in
theorem k_L_setSize (l : Launch) (G : GE) (hl : l.stackTraces = false) (hG : GOK G) (fu : Nat) (l1 : Int32) (l2 : Int32) (M : Mem) (res : Int32 × Mem) (hk0 : (9, 0) ∈ gids G) (hko : (23, 0) ∈ gids G) (hm : f_L_setSize fu l1 l2 M = some res) : CTW l G yL_setSize cL_setSize 5 [(0, 10, 13, 19), (0, 10, 17, 13)] 8 [vR 9 0, vI l1, vI l2, vR 23 0] M res.1 res.2 := by
  refine ctw_of [(0, vR 9 0), (1, vI l1), (2, vI l2), (3, vR 23 0)] (by decide +kernel) hl hG (Nat.le_of_ble_eq_true rfl) rfl (List.forall_mem_cons.mpr ⟨Or.inl hk0, List.forall_mem_cons.mpr ⟨trivial, List.forall_mem_cons.mpr ⟨trivial, List.forall_mem_cons.mpr ⟨Or.inl hko, fun _ h => nomatch h⟩⟩⟩⟩) (fun X hX C hT => ?_)
  subst hX
  unfold f_L_setSize at hm
  obtain ⟨⟨x | z, M1⟩, hr, hm⟩ := bnd_some hm
  · refine g_aload_n C 3 dL_setSize_0 rfl rfl ?_
    refine g_iconst (v := 0) C dL_setSize_1 rfl ?_
    refine g_aload_n C 0 dL_setSize_2 rfl rfl ?_
    refine g_iload_n C 1 dL_setSize_3 rfl rfl ?_
    refine g_iload_n C 2 dL_setSize_4 rfl rfl ?_
    refine g_callVi_k (As := [vI l1, vI l2]) (rest := [vI (0 : Int32), vR 23 0]) C lk_L_62 (k_X9_setSize X.2.1 G hl hG fu l1 l2 M (Sum.inl x, M1) hk0 hr) (by decide) rfl rfl rfl (Nat.le_of_ble_eq_true rfl) ⟨Nat.le_of_ble_eq_true rfl, Nat.le_of_ble_eq_true rfl⟩ ⟨by rw [hT.2.1]; exact Nat.zero_le _, by rw [hT.2.2]; exact Nat.zero_le _⟩ dL_setSize_5 ?_
    refine g_i2l C dL_setSize_8 ?_
    refine g_last C (by decide) (by decide : inb (0 : Int32) 1) dL_setSize_9 ?_
    refine g_goto (tgt := 21) C dL_setSize_10 (by decide) ?_
    refine g_iconst (v := 0) C dL_setSize_21 rfl ?_
    obtain rfl := Option.some.inj hm
    exact g_iretW C hT dL_setSize_22
  · refine g_aload_n C 3 dL_setSize_0 rfl rfl ?_
    refine g_iconst (v := 0) C dL_setSize_1 rfl ?_
    refine g_aload_n C 0 dL_setSize_2 rfl rfl ?_
    refine g_iload_n C 1 dL_setSize_3 rfl rfl ?_
    refine g_iload_n C 2 dL_setSize_4 rfl rfl ?_
    by_cases hz0 : z = 0
    · have hm := ift hm hz0
      subst hz0
      obtain rfl := Option.some.inj hm
      exact g_callVh (E := "java/lang/IndexOutOfBoundsException") (As := [vI l1, vI l2]) (rest := [vI (0 : Int32), vR 23 0]) C hT lk_L_62 (k_X9_setSize X.2.1 G hl hG fu l1 l2 M (Sum.inr 0, M1) hk0 hr) (by decide) rfl rfl rfl (Nat.le_of_ble_eq_true rfl) ⟨Nat.le_of_ble_eq_true rfl, Nat.le_of_ble_eq_true rfl⟩ ⟨Nat.le_refl _, Nat.le_refl _⟩ dL_setSize_5 [] { startPc := 0, endPc := 10, handlerPc := 13, catchType := 19 } [{ startPc := 0, endPc := 10, handlerPc := 17, catchType := 13 }] rfl (fun _ h => nomatch h) rfl (by decide) kcl_19 (by decide +kernel) true (i := 4) (by decide) dL_setSize_13 (by decide) dL_setSize_15 rfl dL_setSize_16
    have hm := ife hm hz0
    by_cases hz1 : z = 1
    · have hm := ift hm hz1
      subst hz1
      obtain rfl := Option.some.inj hm
      exact g_callVh (E := "java/lang/IllegalArgumentException") (As := [vI l1, vI l2]) (rest := [vI (0 : Int32), vR 23 0]) C hT lk_L_62 (k_X9_setSize X.2.1 G hl hG fu l1 l2 M (Sum.inr 1, M1) hk0 hr) (by decide) rfl rfl rfl (Nat.le_of_ble_eq_true rfl) ⟨Nat.le_of_ble_eq_true rfl, Nat.le_of_ble_eq_true rfl⟩ ⟨Nat.le_refl _, Nat.le_refl _⟩ dL_setSize_5 [{ startPc := 0, endPc := 10, handlerPc := 13, catchType := 19 }] { startPc := 0, endPc := 10, handlerPc := 17, catchType := 13 } [] rfl (List.forall_mem_cons.mpr ⟨⟨by decide, "java/lang/IndexOutOfBoundsException", kcl_19, by decide +kernel⟩, fun _ h => nomatch h⟩) rfl (by decide) kcl_13 (by decide +kernel) true (i := 4) (by decide) dL_setSize_17 (by decide) dL_setSize_19 rfl dL_setSize_20
    have hm := ife hm hz1
    cases hm
def f_L_setFunction (fu : Nat) (l1 : Int32) (l2 : Int32) (M : Mem) : Option (Int32 × Mem) :=
  (f_X9_setFunction fu l1 l2 M).bind (fun r => match r with
    | (Sum.inl x, M1) => some ((0 : Int32), mL M1 23 0 0 x.toInt64)
    | (Sum.inr z, M1) => if z = 0 then some ((1 : Int32), M1) else if z = 1 then some ((2 : Int32), M1) else none)
set_option maxHeartbeats 4000000 in
set_option maxRecDepth 100000 in
theorem k_L_setFunction (l : Launch) (G : GE) (hl : l.stackTraces = false) (hG : GOK G) (fu : Nat) (l1 : Int32) (l2 : Int32) (M : Mem) (res : Int32 × Mem) (hk0 : (9, 0) ∈ gids G) (hko : (23, 0) ∈ gids G) (hm : f_L_setFunction fu l1 l2 M = some res) : CTW l G yL_setFunction cL_setFunction 5 [(0, 10, 13, 19), (0, 10, 17, 13)] 8 [vR 9 0, vI l1, vI l2, vR 23 0] M res.1 res.2 := by
  refine ctw_of [(0, vR 9 0), (1, vI l1), (2, vI l2), (3, vR 23 0)] (by decide +kernel) hl hG (Nat.le_of_ble_eq_true rfl) rfl (List.forall_mem_cons.mpr ⟨Or.inl hk0, List.forall_mem_cons.mpr ⟨trivial, List.forall_mem_cons.mpr ⟨trivial, List.forall_mem_cons.mpr ⟨Or.inl hko, fun _ h => nomatch h⟩⟩⟩⟩) (fun X hX C hT => ?_)
  subst hX
  unfold f_L_setFunction at hm
  obtain ⟨⟨x | z, M1⟩, hr, hm⟩ := bnd_some hm
  · refine g_aload_n C 3 dL_setFunction_0 rfl rfl ?_
    refine g_iconst (v := 0) C dL_setFunction_1 rfl ?_
    refine g_aload_n C 0 dL_setFunction_2 rfl rfl ?_
    refine g_iload_n C 1 dL_setFunction_3 rfl rfl ?_
    refine g_iload_n C 2 dL_setFunction_4 rfl rfl ?_
    refine g_callVi_k (As := [vI l1, vI l2]) (rest := [vI (0 : Int32), vR 23 0]) C lk_L_65 (k_X9_setFunction X.2.1 G hl hG fu l1 l2 M (Sum.inl x, M1) hk0 hr) (by decide) rfl rfl rfl (Nat.le_of_ble_eq_true rfl) ⟨Nat.le_of_ble_eq_true rfl, Nat.le_of_ble_eq_true rfl⟩ ⟨by rw [hT.2.1]; exact Nat.zero_le _, by rw [hT.2.2]; exact Nat.zero_le _⟩ dL_setFunction_5 ?_
    refine g_i2l C dL_setFunction_8 ?_
    refine g_last C (by decide) (by decide : inb (0 : Int32) 1) dL_setFunction_9 ?_
    refine g_goto (tgt := 21) C dL_setFunction_10 (by decide) ?_
    refine g_iconst (v := 0) C dL_setFunction_21 rfl ?_
    obtain rfl := Option.some.inj hm
    exact g_iretW C hT dL_setFunction_22
  · refine g_aload_n C 3 dL_setFunction_0 rfl rfl ?_
    refine g_iconst (v := 0) C dL_setFunction_1 rfl ?_
    refine g_aload_n C 0 dL_setFunction_2 rfl rfl ?_
    refine g_iload_n C 1 dL_setFunction_3 rfl rfl ?_
    refine g_iload_n C 2 dL_setFunction_4 rfl rfl ?_
    by_cases hz0 : z = 0
    · have hm := ift hm hz0
      subst hz0
      obtain rfl := Option.some.inj hm
      exact g_callVh (E := "java/lang/IndexOutOfBoundsException") (As := [vI l1, vI l2]) (rest := [vI (0 : Int32), vR 23 0]) C hT lk_L_65 (k_X9_setFunction X.2.1 G hl hG fu l1 l2 M (Sum.inr 0, M1) hk0 hr) (by decide) rfl rfl rfl (Nat.le_of_ble_eq_true rfl) ⟨Nat.le_of_ble_eq_true rfl, Nat.le_of_ble_eq_true rfl⟩ ⟨Nat.le_refl _, Nat.le_refl _⟩ dL_setFunction_5 [] { startPc := 0, endPc := 10, handlerPc := 13, catchType := 19 } [{ startPc := 0, endPc := 10, handlerPc := 17, catchType := 13 }] rfl (fun _ h => nomatch h) rfl (by decide) kcl_19 (by decide +kernel) true (i := 4) (by decide) dL_setFunction_13 (by decide) dL_setFunction_15 rfl dL_setFunction_16
    have hm := ife hm hz0
    by_cases hz1 : z = 1
    · have hm := ift hm hz1
      subst hz1
      obtain rfl := Option.some.inj hm
      exact g_callVh (E := "java/lang/IllegalArgumentException") (As := [vI l1, vI l2]) (rest := [vI (0 : Int32), vR 23 0]) C hT lk_L_65 (k_X9_setFunction X.2.1 G hl hG fu l1 l2 M (Sum.inr 1, M1) hk0 hr) (by decide) rfl rfl rfl (Nat.le_of_ble_eq_true rfl) ⟨Nat.le_of_ble_eq_true rfl, Nat.le_of_ble_eq_true rfl⟩ ⟨Nat.le_refl _, Nat.le_refl _⟩ dL_setFunction_5 [{ startPc := 0, endPc := 10, handlerPc := 13, catchType := 19 }] { startPc := 0, endPc := 10, handlerPc := 17, catchType := 13 } [] rfl (List.forall_mem_cons.mpr ⟨⟨by decide, "java/lang/IndexOutOfBoundsException", kcl_19, by decide +kernel⟩, fun _ h => nomatch h⟩) rfl (by decide) kcl_13 (by decide +kernel) true (i := 4) (by decide) dL_setFunction_17 (by decide) dL_setFunction_19 rfl dL_setFunction_20
    have hm := ife hm hz1
    cases hm
def f_L_apply (fu : Nat) (l1 : Int32) (l2 : Int32) (M : Mem) : Option (Int32 × Mem) :=
  (f_X9_apply fu l1 l2 M).bind (fun r => match r with
    | (Sum.inl x, M1) => some ((0 : Int32), mL M1 23 0 0 x.toInt64)
    | (Sum.inr z, M1) => if z = 0 then some ((1 : Int32), M1) else if z = 1 then some ((2 : Int32), M1) else none)
set_option maxHeartbeats 4000000 in
set_option maxRecDepth 100000 in
theorem k_L_apply (l : Launch) (G : GE) (hl : l.stackTraces = false) (hG : GOK G) (fu : Nat) (l1 : Int32) (l2 : Int32) (M : Mem) (res : Int32 × Mem) (hk0 : (9, 0) ∈ gids G) (hko : (23, 0) ∈ gids G) (hm : f_L_apply fu l1 l2 M = some res) : CTW l G yL_apply cL_apply 5 [(0, 10, 13, 19), (0, 10, 17, 13)] 8 [vR 9 0, vI l1, vI l2, vR 23 0] M res.1 res.2 := by
  refine ctw_of [(0, vR 9 0), (1, vI l1), (2, vI l2), (3, vR 23 0)] (by decide +kernel) hl hG (Nat.le_of_ble_eq_true rfl) rfl (List.forall_mem_cons.mpr ⟨Or.inl hk0, List.forall_mem_cons.mpr ⟨trivial, List.forall_mem_cons.mpr ⟨trivial, List.forall_mem_cons.mpr ⟨Or.inl hko, fun _ h => nomatch h⟩⟩⟩⟩) (fun X hX C hT => ?_)
  subst hX
  unfold f_L_apply at hm
  obtain ⟨⟨x | z, M1⟩, hr, hm⟩ := bnd_some hm
  · refine g_aload_n C 3 dL_apply_0 rfl rfl ?_
    refine g_iconst (v := 0) C dL_apply_1 rfl ?_
    refine g_aload_n C 0 dL_apply_2 rfl rfl ?_
    refine g_iload_n C 1 dL_apply_3 rfl rfl ?_
    refine g_iload_n C 2 dL_apply_4 rfl rfl ?_
    refine g_callVi_k (As := [vI l1, vI l2]) (rest := [vI (0 : Int32), vR 23 0]) C lk_L_68 (k_X9_apply X.2.1 G hl hG fu l1 l2 M (Sum.inl x, M1) hk0 hr) (by decide) rfl rfl rfl (Nat.le_of_ble_eq_true rfl) ⟨Nat.le_of_ble_eq_true rfl, Nat.le_of_ble_eq_true rfl⟩ ⟨by rw [hT.2.1]; exact Nat.zero_le _, by rw [hT.2.2]; exact Nat.zero_le _⟩ dL_apply_5 ?_
    refine g_i2l C dL_apply_8 ?_
    refine g_last C (by decide) (by decide : inb (0 : Int32) 1) dL_apply_9 ?_
    refine g_goto (tgt := 21) C dL_apply_10 (by decide) ?_
    refine g_iconst (v := 0) C dL_apply_21 rfl ?_
    obtain rfl := Option.some.inj hm
    exact g_iretW C hT dL_apply_22
  · refine g_aload_n C 3 dL_apply_0 rfl rfl ?_
    refine g_iconst (v := 0) C dL_apply_1 rfl ?_
    refine g_aload_n C 0 dL_apply_2 rfl rfl ?_
    refine g_iload_n C 1 dL_apply_3 rfl rfl ?_
    refine g_iload_n C 2 dL_apply_4 rfl rfl ?_
    by_cases hz0 : z = 0
    · have hm := ift hm hz0
      subst hz0
      obtain rfl := Option.some.inj hm
      exact g_callVh (E := "java/lang/IndexOutOfBoundsException") (As := [vI l1, vI l2]) (rest := [vI (0 : Int32), vR 23 0]) C hT lk_L_68 (k_X9_apply X.2.1 G hl hG fu l1 l2 M (Sum.inr 0, M1) hk0 hr) (by decide) rfl rfl rfl (Nat.le_of_ble_eq_true rfl) ⟨Nat.le_of_ble_eq_true rfl, Nat.le_of_ble_eq_true rfl⟩ ⟨Nat.le_refl _, Nat.le_refl _⟩ dL_apply_5 [] { startPc := 0, endPc := 10, handlerPc := 13, catchType := 19 } [{ startPc := 0, endPc := 10, handlerPc := 17, catchType := 13 }] rfl (fun _ h => nomatch h) rfl (by decide) kcl_19 (by decide +kernel) true (i := 4) (by decide) dL_apply_13 (by decide) dL_apply_15 rfl dL_apply_16
    have hm := ife hm hz0
    by_cases hz1 : z = 1
    · have hm := ift hm hz1
      subst hz1
      obtain rfl := Option.some.inj hm
      exact g_callVh (E := "java/lang/IllegalArgumentException") (As := [vI l1, vI l2]) (rest := [vI (0 : Int32), vR 23 0]) C hT lk_L_68 (k_X9_apply X.2.1 G hl hG fu l1 l2 M (Sum.inr 1, M1) hk0 hr) (by decide) rfl rfl rfl (Nat.le_of_ble_eq_true rfl) ⟨Nat.le_of_ble_eq_true rfl, Nat.le_of_ble_eq_true rfl⟩ ⟨Nat.le_refl _, Nat.le_refl _⟩ dL_apply_5 [{ startPc := 0, endPc := 10, handlerPc := 13, catchType := 19 }] { startPc := 0, endPc := 10, handlerPc := 17, catchType := 13 } [] rfl (List.forall_mem_cons.mpr ⟨⟨by decide, "java/lang/IndexOutOfBoundsException", kcl_19, by decide +kernel⟩, fun _ h => nomatch h⟩) rfl (by decide) kcl_13 (by decide +kernel) true (i := 4) (by decide) dL_apply_17 (by decide) dL_apply_19 rfl dL_apply_20
    have hm := ife hm hz1
    cases hm
def f_L_imageShare (fu : Nat) (l1 : Int32) (M : Mem) : Option (Int32 × Mem) :=
  (f_X9_imageShare fu l1 M).bind (fun r => match r with
    | (Sum.inl x, M1) => some ((0 : Int32), mL M1 23 0 0 x.toInt64)
    | (Sum.inr z, M1) => if z = 0 then some ((1 : Int32), M1) else none)
set_option maxHeartbeats 4000000 in
set_option maxRecDepth 100000 in
theorem k_L_imageShare (l : Launch) (G : GE) (hl : l.stackTraces = false) (hG : GOK G) (fu : Nat) (l1 : Int32) (M : Mem) (res : Int32 × Mem) (hk0 : (9, 0) ∈ gids G) (hko : (23, 0) ∈ gids G) (hm : f_L_imageShare fu l1 M = some res) : CTW l G yL_imageShare cL_imageShare 4 [(0, 9, 12, 19)] 8 [vR 9 0, vI l1, vR 23 0] M res.1 res.2 := by
  refine ctw_of [(0, vR 9 0), (1, vI l1), (2, vR 23 0)] (by decide +kernel) hl hG (Nat.le_of_ble_eq_true rfl) rfl (List.forall_mem_cons.mpr ⟨Or.inl hk0, List.forall_mem_cons.mpr ⟨trivial, List.forall_mem_cons.mpr ⟨Or.inl hko, fun _ h => nomatch h⟩⟩⟩) (fun X hX C hT => ?_)
  subst hX
  unfold f_L_imageShare at hm
  obtain ⟨⟨x | z, M1⟩, hr, hm⟩ := bnd_some hm
  · refine g_aload_n C 2 dL_imageShare_0 rfl rfl ?_
    refine g_iconst (v := 0) C dL_imageShare_1 rfl ?_
    refine g_aload_n C 0 dL_imageShare_2 rfl rfl ?_
    refine g_iload_n C 1 dL_imageShare_3 rfl rfl ?_
    refine g_callVi_k (As := [vI l1]) (rest := [vI (0 : Int32), vR 23 0]) C lk_L_71 (k_X9_imageShare X.2.1 G hl hG fu l1 M (Sum.inl x, M1) hk0 hr) (by decide) rfl rfl rfl (Nat.le_of_ble_eq_true rfl) ⟨Nat.le_of_ble_eq_true rfl, Nat.le_of_ble_eq_true rfl⟩ ⟨by rw [hT.2.1]; exact Nat.zero_le _, by rw [hT.2.2]; exact Nat.zero_le _⟩ dL_imageShare_4 ?_
    refine g_i2l C dL_imageShare_7 ?_
    refine g_last C (by decide) (by decide : inb (0 : Int32) 1) dL_imageShare_8 ?_
    refine g_goto (tgt := 15) C dL_imageShare_9 (by decide) ?_
    refine g_iconst (v := 0) C dL_imageShare_15 rfl ?_
    obtain rfl := Option.some.inj hm
    exact g_iretW C hT dL_imageShare_16
  · refine g_aload_n C 2 dL_imageShare_0 rfl rfl ?_
    refine g_iconst (v := 0) C dL_imageShare_1 rfl ?_
    refine g_aload_n C 0 dL_imageShare_2 rfl rfl ?_
    refine g_iload_n C 1 dL_imageShare_3 rfl rfl ?_
    by_cases hz0 : z = 0
    · have hm := ift hm hz0
      subst hz0
      obtain rfl := Option.some.inj hm
      exact g_callVh (E := "java/lang/IndexOutOfBoundsException") (As := [vI l1]) (rest := [vI (0 : Int32), vR 23 0]) C hT lk_L_71 (k_X9_imageShare X.2.1 G hl hG fu l1 M (Sum.inr 0, M1) hk0 hr) (by decide) rfl rfl rfl (Nat.le_of_ble_eq_true rfl) ⟨Nat.le_of_ble_eq_true rfl, Nat.le_of_ble_eq_true rfl⟩ ⟨Nat.le_refl _, Nat.le_refl _⟩ dL_imageShare_4 [] { startPc := 0, endPc := 9, handlerPc := 12, catchType := 19 } [] rfl (fun _ h => nomatch h) rfl (by decide) kcl_19 (by decide +kernel) false (i := 3) (by decide) dL_imageShare_12 (by decide) dL_imageShare_13 rfl dL_imageShare_14
    have hm := ife hm hz0
    cases hm
def f_L_separate (fu : Nat) (l1 : Int32) (l2 : Int32) (M : Mem) : Option (Int32 × Mem) :=
  (f_X9_separate fu l1 l2 M).bind (fun r => match r with
    | (Sum.inl x, M1) => some ((0 : Int32), mL M1 23 0 0 x.toInt64)
    | (Sum.inr z, M1) => if z = 0 then some ((1 : Int32), M1) else if z = 1 then some ((2 : Int32), M1) else if z = 2 then some ((3 : Int32), M1) else none)
set_option maxHeartbeats 4000000 in
set_option maxRecDepth 100000 in
theorem k_L_separate (l : Launch) (G : GE) (hl : l.stackTraces = false) (hG : GOK G) (fu : Nat) (l1 : Int32) (l2 : Int32) (M : Mem) (res : Int32 × Mem) (hk0 : (9, 0) ∈ gids G) (hko : (23, 0) ∈ gids G) (hm : f_L_separate fu l1 l2 M = some res) : CTW l G yL_separate cL_separate 5 [(0, 10, 13, 19), (0, 10, 17, 13), (0, 10, 21, 21)] 9 [vR 9 0, vI l1, vI l2, vR 23 0] M res.1 res.2 := by
  refine ctw_of [(0, vR 9 0), (1, vI l1), (2, vI l2), (3, vR 23 0)] (by decide +kernel) hl hG (Nat.le_of_ble_eq_true rfl) rfl (List.forall_mem_cons.mpr ⟨Or.inl hk0, List.forall_mem_cons.mpr ⟨trivial, List.forall_mem_cons.mpr ⟨trivial, List.forall_mem_cons.mpr ⟨Or.inl hko, fun _ h => nomatch h⟩⟩⟩⟩) (fun X hX C hT => ?_)
  subst hX
  unfold f_L_separate at hm
  obtain ⟨⟨x | z, M1⟩, hr, hm⟩ := bnd_some hm
  · refine g_aload_n C 3 dL_separate_0 rfl rfl ?_
    refine g_iconst (v := 0) C dL_separate_1 rfl ?_
    refine g_aload_n C 0 dL_separate_2 rfl rfl ?_
    refine g_iload_n C 1 dL_separate_3 rfl rfl ?_
    refine g_iload_n C 2 dL_separate_4 rfl rfl ?_
    refine g_callVi_k (As := [vI l1, vI l2]) (rest := [vI (0 : Int32), vR 23 0]) C lk_L_74 (k_X9_separate X.2.1 G hl hG fu l1 l2 M (Sum.inl x, M1) hk0 hr) (by decide) rfl rfl rfl (Nat.le_of_ble_eq_true rfl) ⟨Nat.le_of_ble_eq_true rfl, Nat.le_of_ble_eq_true rfl⟩ ⟨by rw [hT.2.1]; exact Nat.zero_le _, by rw [hT.2.2]; exact Nat.zero_le _⟩ dL_separate_5 ?_
    refine g_i2l C dL_separate_8 ?_
    refine g_last C (by decide) (by decide : inb (0 : Int32) 1) dL_separate_9 ?_
    refine g_goto (tgt := 25) C dL_separate_10 (by decide) ?_
    refine g_iconst (v := 0) C dL_separate_25 rfl ?_
    obtain rfl := Option.some.inj hm
    exact g_iretW C hT dL_separate_26
  · refine g_aload_n C 3 dL_separate_0 rfl rfl ?_
    refine g_iconst (v := 0) C dL_separate_1 rfl ?_
    refine g_aload_n C 0 dL_separate_2 rfl rfl ?_
    refine g_iload_n C 1 dL_separate_3 rfl rfl ?_
    refine g_iload_n C 2 dL_separate_4 rfl rfl ?_
    by_cases hz0 : z = 0
    · have hm := ift hm hz0
      subst hz0
      obtain rfl := Option.some.inj hm
      exact g_callVh (E := "java/lang/IndexOutOfBoundsException") (As := [vI l1, vI l2]) (rest := [vI (0 : Int32), vR 23 0]) C hT lk_L_74 (k_X9_separate X.2.1 G hl hG fu l1 l2 M (Sum.inr 0, M1) hk0 hr) (by decide) rfl rfl rfl (Nat.le_of_ble_eq_true rfl) ⟨Nat.le_of_ble_eq_true rfl, Nat.le_of_ble_eq_true rfl⟩ ⟨Nat.le_refl _, Nat.le_refl _⟩ dL_separate_5 [] { startPc := 0, endPc := 10, handlerPc := 13, catchType := 19 } [{ startPc := 0, endPc := 10, handlerPc := 17, catchType := 13 }, { startPc := 0, endPc := 10, handlerPc := 21, catchType := 21 }] rfl (fun _ h => nomatch h) rfl (by decide) kcl_19 (by decide +kernel) true (i := 4) (by decide) dL_separate_13 (by decide) dL_separate_15 rfl dL_separate_16
    have hm := ife hm hz0
    by_cases hz1 : z = 1
    · have hm := ift hm hz1
      subst hz1
      obtain rfl := Option.some.inj hm
      exact g_callVh (E := "java/lang/IllegalArgumentException") (As := [vI l1, vI l2]) (rest := [vI (0 : Int32), vR 23 0]) C hT lk_L_74 (k_X9_separate X.2.1 G hl hG fu l1 l2 M (Sum.inr 1, M1) hk0 hr) (by decide) rfl rfl rfl (Nat.le_of_ble_eq_true rfl) ⟨Nat.le_of_ble_eq_true rfl, Nat.le_of_ble_eq_true rfl⟩ ⟨Nat.le_refl _, Nat.le_refl _⟩ dL_separate_5 [{ startPc := 0, endPc := 10, handlerPc := 13, catchType := 19 }] { startPc := 0, endPc := 10, handlerPc := 17, catchType := 13 } [{ startPc := 0, endPc := 10, handlerPc := 21, catchType := 21 }] rfl (List.forall_mem_cons.mpr ⟨⟨by decide, "java/lang/IndexOutOfBoundsException", kcl_19, by decide +kernel⟩, fun _ h => nomatch h⟩) rfl (by decide) kcl_13 (by decide +kernel) true (i := 4) (by decide) dL_separate_17 (by decide) dL_separate_19 rfl dL_separate_20
    have hm := ife hm hz1
    by_cases hz2 : z = 2
    · have hm := ift hm hz2
      subst hz2
      obtain rfl := Option.some.inj hm
      exact g_callVh (E := "java/lang/IllegalStateException") (As := [vI l1, vI l2]) (rest := [vI (0 : Int32), vR 23 0]) C hT lk_L_74 (k_X9_separate X.2.1 G hl hG fu l1 l2 M (Sum.inr 2, M1) hk0 hr) (by decide) rfl rfl rfl (Nat.le_of_ble_eq_true rfl) ⟨Nat.le_of_ble_eq_true rfl, Nat.le_of_ble_eq_true rfl⟩ ⟨Nat.le_refl _, Nat.le_refl _⟩ dL_separate_5 [{ startPc := 0, endPc := 10, handlerPc := 13, catchType := 19 }, { startPc := 0, endPc := 10, handlerPc := 17, catchType := 13 }] { startPc := 0, endPc := 10, handlerPc := 21, catchType := 21 } [] rfl (List.forall_mem_cons.mpr ⟨⟨by decide, "java/lang/IndexOutOfBoundsException", kcl_19, by decide +kernel⟩, List.forall_mem_cons.mpr ⟨⟨by decide, "java/lang/IllegalArgumentException", kcl_13, by decide +kernel⟩, fun _ h => nomatch h⟩⟩) rfl (by decide) kcl_21 (by decide +kernel) true (i := 4) (by decide) dL_separate_21 (by decide) dL_separate_23 rfl dL_separate_24
    have hm := ife hm hz2
    cases hm
def f_L_isProduct (fu : Nat) (l1 : Int32) (l2 : Int32) (M : Mem) : Option (Int32 × Mem) :=
  (f_X9_isProduct fu l1 l2 M).bind (fun r => match r with
    | (Sum.inl x, M1) => if x = 0 then some ((0 : Int32), mL M1 23 0 0 (0 : Int64)) else some ((0 : Int32), mL M1 23 0 0 (1 : Int64))
    | (Sum.inr z, M1) => if z = 0 then some ((1 : Int32), M1) else if z = 1 then some ((2 : Int32), M1) else none)
set_option maxHeartbeats 4000000 in
set_option maxRecDepth 100000 in
theorem k_L_isProduct (l : Launch) (G : GE) (hl : l.stackTraces = false) (hG : GOK G) (fu : Nat) (l1 : Int32) (l2 : Int32) (M : Mem) (res : Int32 × Mem) (hk0 : (9, 0) ∈ gids G) (hko : (23, 0) ∈ gids G) (hm : f_L_isProduct fu l1 l2 M = some res) : CTW l G yL_isProduct cL_isProduct 5 [(0, 17, 20, 19), (0, 17, 24, 13)] 8 [vR 9 0, vI l1, vI l2, vR 23 0] M res.1 res.2 := by
  refine ctw_of [(0, vR 9 0), (1, vI l1), (2, vI l2), (3, vR 23 0)] (by decide +kernel) hl hG (Nat.le_of_ble_eq_true rfl) rfl (List.forall_mem_cons.mpr ⟨Or.inl hk0, List.forall_mem_cons.mpr ⟨trivial, List.forall_mem_cons.mpr ⟨trivial, List.forall_mem_cons.mpr ⟨Or.inl hko, fun _ h => nomatch h⟩⟩⟩⟩) (fun X hX C hT => ?_)
  subst hX
  unfold f_L_isProduct at hm
  obtain ⟨⟨x | z, M1⟩, hr, hm⟩ := bnd_some hm
  · refine g_aload_n C 3 dL_isProduct_0 rfl rfl ?_
    refine g_iconst (v := 0) C dL_isProduct_1 rfl ?_
    refine g_aload_n C 0 dL_isProduct_2 rfl rfl ?_
    refine g_iload_n C 1 dL_isProduct_3 rfl rfl ?_
    refine g_iload_n C 2 dL_isProduct_4 rfl rfl ?_
    refine g_callVi_k (As := [vI l1, vI l2]) (rest := [vI (0 : Int32), vR 23 0]) C lk_L_77 (k_X9_isProduct X.2.1 G hl hG fu l1 l2 M (Sum.inl x, M1) hk0 hr) (by decide) rfl rfl rfl (Nat.le_of_ble_eq_true rfl) ⟨Nat.le_of_ble_eq_true rfl, Nat.le_of_ble_eq_true rfl⟩ ⟨by rw [hT.2.1]; exact Nat.zero_le _, by rw [hT.2.2]; exact Nat.zero_le _⟩ dL_isProduct_5 ?_
    refine g_if_eq (tgt := 15) C dL_isProduct_8 (by decide) (fun h0 => ?_) (fun h0 => ?_)
    · have hm := ift hm h0
      refine g_lconst (v := 0) C dL_isProduct_15 rfl ?_
      refine g_last C (by decide) (by decide : inb (0 : Int32) 1) dL_isProduct_16 ?_
      refine g_goto (tgt := 28) C dL_isProduct_17 (by decide) ?_
      refine g_iconst (v := 0) C dL_isProduct_28 rfl ?_
      obtain rfl := Option.some.inj hm
      exact g_iretW C hT dL_isProduct_29
    · have hm := ife hm h0
      refine g_lconst (v := 1) C dL_isProduct_11 rfl ?_
      refine g_goto (tgt := 16) C dL_isProduct_12 (by decide) ?_
      refine g_last C (by decide) (by decide : inb (0 : Int32) 1) dL_isProduct_16 ?_
      refine g_goto (tgt := 28) C dL_isProduct_17 (by decide) ?_
      refine g_iconst (v := 0) C dL_isProduct_28 rfl ?_
      obtain rfl := Option.some.inj hm
      exact g_iretW C hT dL_isProduct_29
  · refine g_aload_n C 3 dL_isProduct_0 rfl rfl ?_
    refine g_iconst (v := 0) C dL_isProduct_1 rfl ?_
    refine g_aload_n C 0 dL_isProduct_2 rfl rfl ?_
    refine g_iload_n C 1 dL_isProduct_3 rfl rfl ?_
    refine g_iload_n C 2 dL_isProduct_4 rfl rfl ?_
    by_cases hz0 : z = 0
    · have hm := ift hm hz0
      subst hz0
      obtain rfl := Option.some.inj hm
      exact g_callVh (E := "java/lang/IndexOutOfBoundsException") (As := [vI l1, vI l2]) (rest := [vI (0 : Int32), vR 23 0]) C hT lk_L_77 (k_X9_isProduct X.2.1 G hl hG fu l1 l2 M (Sum.inr 0, M1) hk0 hr) (by decide) rfl rfl rfl (Nat.le_of_ble_eq_true rfl) ⟨Nat.le_of_ble_eq_true rfl, Nat.le_of_ble_eq_true rfl⟩ ⟨Nat.le_refl _, Nat.le_refl _⟩ dL_isProduct_5 [] { startPc := 0, endPc := 17, handlerPc := 20, catchType := 19 } [{ startPc := 0, endPc := 17, handlerPc := 24, catchType := 13 }] rfl (fun _ h => nomatch h) rfl (by decide) kcl_19 (by decide +kernel) true (i := 4) (by decide) dL_isProduct_20 (by decide) dL_isProduct_22 rfl dL_isProduct_23
    have hm := ife hm hz0
    by_cases hz1 : z = 1
    · have hm := ift hm hz1
      subst hz1
      obtain rfl := Option.some.inj hm
      exact g_callVh (E := "java/lang/IllegalArgumentException") (As := [vI l1, vI l2]) (rest := [vI (0 : Int32), vR 23 0]) C hT lk_L_77 (k_X9_isProduct X.2.1 G hl hG fu l1 l2 M (Sum.inr 1, M1) hk0 hr) (by decide) rfl rfl rfl (Nat.le_of_ble_eq_true rfl) ⟨Nat.le_of_ble_eq_true rfl, Nat.le_of_ble_eq_true rfl⟩ ⟨Nat.le_refl _, Nat.le_refl _⟩ dL_isProduct_5 [{ startPc := 0, endPc := 17, handlerPc := 20, catchType := 19 }] { startPc := 0, endPc := 17, handlerPc := 24, catchType := 13 } [] rfl (List.forall_mem_cons.mpr ⟨⟨by decide, "java/lang/IndexOutOfBoundsException", kcl_19, by decide +kernel⟩, fun _ h => nomatch h⟩) rfl (by decide) kcl_13 (by decide +kernel) true (i := 4) (by decide) dL_isProduct_24 (by decide) dL_isProduct_26 rfl dL_isProduct_27
    have hm := ife hm hz1
    cases hm
def f_L_isPullback (fu : Nat) (l1 : Int32) (l2 : Int32) (l3 : Int32) (l4 : Int32) (M : Mem) : Option (Int32 × Mem) :=
  (f_X9_isPullback fu l1 l2 l3 l4 M).bind (fun r => match r with
    | (Sum.inl x, M1) => if x = 0 then some ((0 : Int32), mL M1 23 0 0 (0 : Int64)) else some ((0 : Int32), mL M1 23 0 0 (1 : Int64))
    | (Sum.inr z, M1) => if z = 0 then some ((1 : Int32), M1) else if z = 1 then some ((2 : Int32), M1) else none)
set_option maxHeartbeats 4000000 in
set_option maxRecDepth 100000 in
theorem k_L_isPullback (l : Launch) (G : GE) (hl : l.stackTraces = false) (hG : GOK G) (fu : Nat) (l1 : Int32) (l2 : Int32) (l3 : Int32) (l4 : Int32) (M : Mem) (res : Int32 × Mem) (hk0 : (9, 0) ∈ gids G) (hko : (23, 0) ∈ gids G) (hm : f_L_isPullback fu l1 l2 l3 l4 M = some res) : CTW l G yL_isPullback cL_isPullback 7 [(0, 21, 24, 19), (0, 21, 28, 13)] 8 [vR 9 0, vI l1, vI l2, vI l3, vI l4, vR 23 0] M res.1 res.2 := by
  refine ctw_of [(0, vR 9 0), (1, vI l1), (2, vI l2), (3, vI l3), (4, vI l4), (5, vR 23 0)] (by decide +kernel) hl hG (Nat.le_of_ble_eq_true rfl) rfl (List.forall_mem_cons.mpr ⟨Or.inl hk0, List.forall_mem_cons.mpr ⟨trivial, List.forall_mem_cons.mpr ⟨trivial, List.forall_mem_cons.mpr ⟨trivial, List.forall_mem_cons.mpr ⟨trivial, List.forall_mem_cons.mpr ⟨Or.inl hko, fun _ h => nomatch h⟩⟩⟩⟩⟩⟩) (fun X hX C hT => ?_)
  subst hX
  unfold f_L_isPullback at hm
  obtain ⟨⟨x | z, M1⟩, hr, hm⟩ := bnd_some hm
  · refine g_aload C 5 dL_isPullback_0 rfl ?_
    refine g_iconst (v := 0) C dL_isPullback_2 rfl ?_
    refine g_aload_n C 0 dL_isPullback_3 rfl rfl ?_
    refine g_iload_n C 1 dL_isPullback_4 rfl rfl ?_
    refine g_iload_n C 2 dL_isPullback_5 rfl rfl ?_
    refine g_iload_n C 3 dL_isPullback_6 rfl rfl ?_
    refine g_iload C 4 dL_isPullback_7 rfl ?_
    refine g_callVi_k (As := [vI l1, vI l2, vI l3, vI l4]) (rest := [vI (0 : Int32), vR 23 0]) C lk_L_81 (k_X9_isPullback X.2.1 G hl hG fu l1 l2 l3 l4 M (Sum.inl x, M1) hk0 hr) (by decide) rfl rfl rfl (Nat.le_of_ble_eq_true rfl) ⟨Nat.le_of_ble_eq_true rfl, Nat.le_of_ble_eq_true rfl⟩ ⟨by rw [hT.2.1]; exact Nat.zero_le _, by rw [hT.2.2]; exact Nat.zero_le _⟩ dL_isPullback_9 ?_
    refine g_if_eq (tgt := 19) C dL_isPullback_12 (by decide) (fun h0 => ?_) (fun h0 => ?_)
    · have hm := ift hm h0
      refine g_lconst (v := 0) C dL_isPullback_19 rfl ?_
      refine g_last C (by decide) (by decide : inb (0 : Int32) 1) dL_isPullback_20 ?_
      refine g_goto (tgt := 32) C dL_isPullback_21 (by decide) ?_
      refine g_iconst (v := 0) C dL_isPullback_32 rfl ?_
      obtain rfl := Option.some.inj hm
      exact g_iretW C hT dL_isPullback_33
    · have hm := ife hm h0
      refine g_lconst (v := 1) C dL_isPullback_15 rfl ?_
      refine g_goto (tgt := 20) C dL_isPullback_16 (by decide) ?_
      refine g_last C (by decide) (by decide : inb (0 : Int32) 1) dL_isPullback_20 ?_
      refine g_goto (tgt := 32) C dL_isPullback_21 (by decide) ?_
      refine g_iconst (v := 0) C dL_isPullback_32 rfl ?_
      obtain rfl := Option.some.inj hm
      exact g_iretW C hT dL_isPullback_33
  · refine g_aload C 5 dL_isPullback_0 rfl ?_
    refine g_iconst (v := 0) C dL_isPullback_2 rfl ?_
    refine g_aload_n C 0 dL_isPullback_3 rfl rfl ?_
    refine g_iload_n C 1 dL_isPullback_4 rfl rfl ?_
    refine g_iload_n C 2 dL_isPullback_5 rfl rfl ?_
    refine g_iload_n C 3 dL_isPullback_6 rfl rfl ?_
    refine g_iload C 4 dL_isPullback_7 rfl ?_
    by_cases hz0 : z = 0
    · have hm := ift hm hz0
      subst hz0
      obtain rfl := Option.some.inj hm
      exact g_callVh (E := "java/lang/IndexOutOfBoundsException") (As := [vI l1, vI l2, vI l3, vI l4]) (rest := [vI (0 : Int32), vR 23 0]) C hT lk_L_81 (k_X9_isPullback X.2.1 G hl hG fu l1 l2 l3 l4 M (Sum.inr 0, M1) hk0 hr) (by decide) rfl rfl rfl (Nat.le_of_ble_eq_true rfl) ⟨Nat.le_of_ble_eq_true rfl, Nat.le_of_ble_eq_true rfl⟩ ⟨Nat.le_refl _, Nat.le_refl _⟩ dL_isPullback_9 [] { startPc := 0, endPc := 21, handlerPc := 24, catchType := 19 } [{ startPc := 0, endPc := 21, handlerPc := 28, catchType := 13 }] rfl (fun _ h => nomatch h) rfl (by decide) kcl_19 (by decide +kernel) true (i := 6) (by decide) dL_isPullback_24 (by decide) dL_isPullback_26 rfl dL_isPullback_27
    have hm := ife hm hz0
    by_cases hz1 : z = 1
    · have hm := ift hm hz1
      subst hz1
      obtain rfl := Option.some.inj hm
      exact g_callVh (E := "java/lang/IllegalArgumentException") (As := [vI l1, vI l2, vI l3, vI l4]) (rest := [vI (0 : Int32), vR 23 0]) C hT lk_L_81 (k_X9_isPullback X.2.1 G hl hG fu l1 l2 l3 l4 M (Sum.inr 1, M1) hk0 hr) (by decide) rfl rfl rfl (Nat.le_of_ble_eq_true rfl) ⟨Nat.le_of_ble_eq_true rfl, Nat.le_of_ble_eq_true rfl⟩ ⟨Nat.le_refl _, Nat.le_refl _⟩ dL_isPullback_9 [{ startPc := 0, endPc := 21, handlerPc := 24, catchType := 19 }] { startPc := 0, endPc := 21, handlerPc := 28, catchType := 13 } [] rfl (List.forall_mem_cons.mpr ⟨⟨by decide, "java/lang/IndexOutOfBoundsException", kcl_19, by decide +kernel⟩, fun _ h => nomatch h⟩) rfl (by decide) kcl_13 (by decide +kernel) true (i := 6) (by decide) dL_isPullback_28 (by decide) dL_isPullback_30 rfl dL_isPullback_31
    have hm := ife hm hz1
    cases hm
def f_L_isEqualizer (fu : Nat) (l1 : Int32) (l2 : Int32) (l3 : Int32) (M : Mem) : Option (Int32 × Mem) :=
  (f_X9_isEqualizer fu l1 l2 l3 M).bind (fun r => match r with
    | (Sum.inl x, M1) => if x = 0 then some ((0 : Int32), mL M1 23 0 0 (0 : Int64)) else some ((0 : Int32), mL M1 23 0 0 (1 : Int64))
    | (Sum.inr z, M1) => if z = 0 then some ((1 : Int32), M1) else if z = 1 then some ((2 : Int32), M1) else none)
set_option maxHeartbeats 4000000 in
set_option maxRecDepth 100000 in
theorem k_L_isEqualizer (l : Launch) (G : GE) (hl : l.stackTraces = false) (hG : GOK G) (fu : Nat) (l1 : Int32) (l2 : Int32) (l3 : Int32) (M : Mem) (res : Int32 × Mem) (hk0 : (9, 0) ∈ gids G) (hko : (23, 0) ∈ gids G) (hm : f_L_isEqualizer fu l1 l2 l3 M = some res) : CTW l G yL_isEqualizer cL_isEqualizer 6 [(0, 19, 22, 19), (0, 19, 26, 13)] 8 [vR 9 0, vI l1, vI l2, vI l3, vR 23 0] M res.1 res.2 := by
  refine ctw_of [(0, vR 9 0), (1, vI l1), (2, vI l2), (3, vI l3), (4, vR 23 0)] (by decide +kernel) hl hG (Nat.le_of_ble_eq_true rfl) rfl (List.forall_mem_cons.mpr ⟨Or.inl hk0, List.forall_mem_cons.mpr ⟨trivial, List.forall_mem_cons.mpr ⟨trivial, List.forall_mem_cons.mpr ⟨trivial, List.forall_mem_cons.mpr ⟨Or.inl hko, fun _ h => nomatch h⟩⟩⟩⟩⟩) (fun X hX C hT => ?_)
  subst hX
  unfold f_L_isEqualizer at hm
  obtain ⟨⟨x | z, M1⟩, hr, hm⟩ := bnd_some hm
  · refine g_aload C 4 dL_isEqualizer_0 rfl ?_
    refine g_iconst (v := 0) C dL_isEqualizer_2 rfl ?_
    refine g_aload_n C 0 dL_isEqualizer_3 rfl rfl ?_
    refine g_iload_n C 1 dL_isEqualizer_4 rfl rfl ?_
    refine g_iload_n C 2 dL_isEqualizer_5 rfl rfl ?_
    refine g_iload_n C 3 dL_isEqualizer_6 rfl rfl ?_
    refine g_callVi_k (As := [vI l1, vI l2, vI l3]) (rest := [vI (0 : Int32), vR 23 0]) C lk_L_85 (k_X9_isEqualizer X.2.1 G hl hG fu l1 l2 l3 M (Sum.inl x, M1) hk0 hr) (by decide) rfl rfl rfl (Nat.le_of_ble_eq_true rfl) ⟨Nat.le_of_ble_eq_true rfl, Nat.le_of_ble_eq_true rfl⟩ ⟨by rw [hT.2.1]; exact Nat.zero_le _, by rw [hT.2.2]; exact Nat.zero_le _⟩ dL_isEqualizer_7 ?_
    refine g_if_eq (tgt := 17) C dL_isEqualizer_10 (by decide) (fun h0 => ?_) (fun h0 => ?_)
    · have hm := ift hm h0
      refine g_lconst (v := 0) C dL_isEqualizer_17 rfl ?_
      refine g_last C (by decide) (by decide : inb (0 : Int32) 1) dL_isEqualizer_18 ?_
      refine g_goto (tgt := 30) C dL_isEqualizer_19 (by decide) ?_
      refine g_iconst (v := 0) C dL_isEqualizer_30 rfl ?_
      obtain rfl := Option.some.inj hm
      exact g_iretW C hT dL_isEqualizer_31
    · have hm := ife hm h0
      refine g_lconst (v := 1) C dL_isEqualizer_13 rfl ?_
      refine g_goto (tgt := 18) C dL_isEqualizer_14 (by decide) ?_
      refine g_last C (by decide) (by decide : inb (0 : Int32) 1) dL_isEqualizer_18 ?_
      refine g_goto (tgt := 30) C dL_isEqualizer_19 (by decide) ?_
      refine g_iconst (v := 0) C dL_isEqualizer_30 rfl ?_
      obtain rfl := Option.some.inj hm
      exact g_iretW C hT dL_isEqualizer_31
  · refine g_aload C 4 dL_isEqualizer_0 rfl ?_
    refine g_iconst (v := 0) C dL_isEqualizer_2 rfl ?_
    refine g_aload_n C 0 dL_isEqualizer_3 rfl rfl ?_
    refine g_iload_n C 1 dL_isEqualizer_4 rfl rfl ?_
    refine g_iload_n C 2 dL_isEqualizer_5 rfl rfl ?_
    refine g_iload_n C 3 dL_isEqualizer_6 rfl rfl ?_
    by_cases hz0 : z = 0
    · have hm := ift hm hz0
      subst hz0
      obtain rfl := Option.some.inj hm
      exact g_callVh (E := "java/lang/IndexOutOfBoundsException") (As := [vI l1, vI l2, vI l3]) (rest := [vI (0 : Int32), vR 23 0]) C hT lk_L_85 (k_X9_isEqualizer X.2.1 G hl hG fu l1 l2 l3 M (Sum.inr 0, M1) hk0 hr) (by decide) rfl rfl rfl (Nat.le_of_ble_eq_true rfl) ⟨Nat.le_of_ble_eq_true rfl, Nat.le_of_ble_eq_true rfl⟩ ⟨Nat.le_refl _, Nat.le_refl _⟩ dL_isEqualizer_7 [] { startPc := 0, endPc := 19, handlerPc := 22, catchType := 19 } [{ startPc := 0, endPc := 19, handlerPc := 26, catchType := 13 }] rfl (fun _ h => nomatch h) rfl (by decide) kcl_19 (by decide +kernel) true (i := 5) (by decide) dL_isEqualizer_22 (by decide) dL_isEqualizer_24 rfl dL_isEqualizer_25
    have hm := ife hm hz0
    by_cases hz1 : z = 1
    · have hm := ift hm hz1
      subst hz1
      obtain rfl := Option.some.inj hm
      exact g_callVh (E := "java/lang/IllegalArgumentException") (As := [vI l1, vI l2, vI l3]) (rest := [vI (0 : Int32), vR 23 0]) C hT lk_L_85 (k_X9_isEqualizer X.2.1 G hl hG fu l1 l2 l3 M (Sum.inr 1, M1) hk0 hr) (by decide) rfl rfl rfl (Nat.le_of_ble_eq_true rfl) ⟨Nat.le_of_ble_eq_true rfl, Nat.le_of_ble_eq_true rfl⟩ ⟨Nat.le_refl _, Nat.le_refl _⟩ dL_isEqualizer_7 [{ startPc := 0, endPc := 19, handlerPc := 22, catchType := 19 }] { startPc := 0, endPc := 19, handlerPc := 26, catchType := 13 } [] rfl (List.forall_mem_cons.mpr ⟨⟨by decide, "java/lang/IndexOutOfBoundsException", kcl_19, by decide +kernel⟩, fun _ h => nomatch h⟩) rfl (by decide) kcl_13 (by decide +kernel) true (i := 5) (by decide) dL_isEqualizer_26 (by decide) dL_isEqualizer_28 rfl dL_isEqualizer_29
    have hm := ife hm hz1
    cases hm

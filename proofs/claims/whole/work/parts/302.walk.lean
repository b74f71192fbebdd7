/-! models and contracts, by program (wip/whole/emit.py): X6_enter, X6_enterLonger, X6_rebuild, X6_leads, X7_beginsArrow, X7_goesOn, X7_beginsCell, X7_endsArrow, X7_isComplete, X7_endsItem, X7_endsFirst, X7_beginsSecond, X7_accepts, X7_read, X7_graphRead, X7_cellsRead, X9_cellsChanged, X9_graphChanged, X9_begin, X9_requireObject, X9_addArrow, X9_dropArrow, X9_requirePath, X9_requireParallel, X9_lengthenBy, X9_addCell, X9_requireCell, X9_dropCell, X9_append, X9_clearInput, X9_firstError, X9_load -/
def f_X6_enter_b52 (fu : Nat)   (l5 : Int32) (M : Mem) : Option ((Int32 × Mem) ⊕ (Mem)) :=
  if (14 : Int32) ≤ l5 then some (Sum.inr M) else (f_X3_set fu 3 (M.1 6 0 0) l5 (-1 : Int32) M).bind (fun r70 => some (Sum.inl (l5 + (1 : Int32), r70)))
def f_X6_enter_h52 (fu : Nat)   (l5 : Int32) (M : Mem) : Option (Mem) :=
  (lp_run (fun s => f_X6_enter_b52 fu   s.1 s.2) fu (l5, M)).bind (fun M => some (mI M 6 0 0 ((M.1 6 0 0) + (1 : Int32))))
def f_X6_enter (fu : Nat) (l1 : Int32) (l2 : Int32) (l3 : Int32) (l4 : Int32) (M : Mem) : Option (Mem) :=
  (f_X8_set fu 16 (M.1 6 0 0) l1 M).bind (fun r9 => (f_X8_set fu 17 (r9.1 6 0 0) l2 r9).bind (fun r21 => (f_X8_set fu 18 (r21.1 6 0 0) l3 r21).bind (fun r33 => (f_X8_set fu 19 (r33.1 6 0 0) l4 r33).bind (fun r46 => f_X6_enter_h52 fu (0 : Int32) r46))))
set_option maxHeartbeats 4000000 in
set_option maxRecDepth 100000 in
theorem k_X6_enter (l : Launch) (G : GE) (hl : l.stackTraces = false) (hG : GOK G) (fu : Nat) (l1 : Int32) (l2 : Int32) (l3 : Int32) (l4 : Int32) (M : Mem) (res : Mem) (hk0 : (6, 0) ∈ gids G) (hm : f_X6_enter fu l1 l2 l3 l4 M = some res) : CT l G yX6_enter cX6_enter 6 none 1 [vR 6 0, vI l1, vI l2, vI l3, vI l4] M (.inl none) res := by
  refine ct_of [(0, vR 6 0), (1, vI l1), (2, vI l2), (3, vI l3), (4, vI l4)] (by decide +kernel) hl hG (Nat.le_of_ble_eq_true rfl) rfl (List.forall_mem_cons.mpr ⟨Or.inl hk0, List.forall_mem_cons.mpr ⟨trivial, List.forall_mem_cons.mpr ⟨trivial, List.forall_mem_cons.mpr ⟨trivial, List.forall_mem_cons.mpr ⟨trivial, fun _ h => nomatch h⟩⟩⟩⟩⟩) (List.forall_mem_cons.mpr ⟨Or.inl hk0, List.forall_mem_cons.mpr ⟨trivial, List.forall_mem_cons.mpr ⟨trivial, List.forall_mem_cons.mpr ⟨trivial, List.forall_mem_cons.mpr ⟨trivial, fun _ h => nomatch h⟩⟩⟩⟩⟩) (fun X hX C => ?_)
  subst hX
  have Cl := C
  have J52 : ∀ (l5 : Int32) (M : Mem), f_X6_enter_h52 fu   l5 M = some res → GW G X 6 (QX G X (.inl none) res) 52 [(0, vR 6 0), (5, vI l5)] [] M := by
    intro l5 M hm
    unfold f_X6_enter_h52 at hm
    obtain ⟨r52, hL52, hk52⟩ := bnd_some hm
    have hx52 : ∀ (M : Mem), M = r52 → GW G X 6 (QX G X (.inl none) res) 79 [(0, vR 6 0)] [] M := by
      intro M he
      subst he
      have hm := hk52
      try dsimp only at hm
      refine g_aload_n C 0 dX6_enter_79 rfl rfl ?_
      refine g_dup C dX6_enter_80 rfl ?_
      refine g_geti (k := 0) C (by decide) kf_X6_9 rfl dX6_enter_81 ?_
      refine g_iconst (v := 1) C dX6_enter_84 rfl ?_
      refine g_iadd C dX6_enter_85 ?_
      refine g_puti C (by decide) kf_X6_9 rfl rfl rfl dX6_enter_86 ?_
      obtain rfl := Option.some.inj hm
      exact g_vret C dX6_enter_89
    refine lp_ind1 (P := (fun l5 M => GW G X 6 (QX G X (.inl none) res) 52 [(0, vR 6 0), (5, vI l5)] [] M)) (r := r52) ?_ fu l5 M hL52
    intro l5 M o52 hm K52
    unfold f_X6_enter_b52 at hm
    refine g_iload C 1 dX6_enter_52 rfl ?_
    refine g_bipush (v := 14) C dX6_enter_54 rfl ?_
    refine g_icmp_ge (tgt := 79) C dX6_enter_56 (by decide) (fun h56 => ?_) (fun h56 => ?_)
    · have hm := ift hm h56
      obtain rfl := Option.some.inj hm
      exact g_sub [0] rfl (g_pc rfl (hx52 M (K52.2 _ rfl)))
    · have hm := ife hm h56
      refine g_aload_n C 0 dX6_enter_59 rfl rfl ?_
      refine g_getr (k := 0) (k' := 3) C (by decide) kf_X6_42 rfl rfl dX6_enter_60 ?_
      refine g_aload_n C 0 dX6_enter_63 rfl rfl ?_
      refine g_geti (k := 0) C (by decide) kf_X6_9 rfl dX6_enter_64 ?_
      refine g_iload C 1 dX6_enter_67 rfl ?_
      refine g_iconst (v := -1) C dX6_enter_69 rfl ?_
      obtain ⟨r70, hr70, hm⟩ := bnd_some hm
      refine g_callVv (As := [vI (M.1 6 0 0), vI l5, vI (-1 : Int32)]) (rest := []) C lk_X6_78 (k_X3_set X.2.1 G hl hG fu 3 (M.1 6 0 0) l5 (-1 : Int32) M r70 ((hG _ hk0).2 6 3 3 0 rfl) hr70) (by decide) rfl rfl rfl (Nat.le_of_ble_eq_true rfl) ⟨Nat.le_of_ble_eq_true rfl, Nat.le_of_ble_eq_true rfl⟩ dX6_enter_70 ?_
      refine g_iinc (ls' := [(5, vI (l5 + (1 : Int32))), (0, vR 6 0)]) (v := l5 + (1 : Int32)) C 1 dX6_enter_73 rfl (iv_p1 _) (by decide) rfl ?_
      refine g_goto (tgt := 52) C dX6_enter_76 (by decide) ?_
      obtain rfl := Option.some.inj hm
      exact g_sub [1, 0] rfl (g_pc rfl (K52.1 (l5 + (1 : Int32)) r70 rfl))
  unfold f_X6_enter at hm
  refine g_aload_n C 0 dX6_enter_0 rfl rfl ?_
  refine g_getr (k := 0) (k' := 16) C (by decide) kf_X6_20 rfl rfl dX6_enter_1 ?_
  refine g_aload_n C 0 dX6_enter_4 rfl rfl ?_
  refine g_geti (k := 0) C (by decide) kf_X6_9 rfl dX6_enter_5 ?_
  refine g_iload_n C 1 dX6_enter_8 rfl rfl ?_
  obtain ⟨r9, hr9, hm⟩ := bnd_some hm
  refine g_callVv (As := [vI (M.1 6 0 0), vI l1]) (rest := []) C lk_X6_75 (k_X8_set X.2.1 G hl hG fu 16 (M.1 6 0 0) l1 M r9 ((hG _ hk0).2 1 8 16 0 rfl) hr9) (by decide) rfl rfl rfl (Nat.le_of_ble_eq_true rfl) ⟨Nat.le_of_ble_eq_true rfl, Nat.le_of_ble_eq_true rfl⟩ dX6_enter_9 ?_
  refine g_aload_n C 0 dX6_enter_12 rfl rfl ?_
  refine g_getr (k := 0) (k' := 17) C (by decide) kf_X6_24 rfl rfl dX6_enter_13 ?_
  refine g_aload_n C 0 dX6_enter_16 rfl rfl ?_
  refine g_geti (k := 0) C (by decide) kf_X6_9 rfl dX6_enter_17 ?_
  refine g_iload_n C 2 dX6_enter_20 rfl rfl ?_
  obtain ⟨r21, hr21, hm⟩ := bnd_some hm
  refine g_callVv (As := [vI (r9.1 6 0 0), vI l2]) (rest := []) C lk_X6_75 (k_X8_set X.2.1 G hl hG fu 17 (r9.1 6 0 0) l2 r9 r21 ((hG _ hk0).2 2 8 17 0 rfl) hr21) (by decide) rfl rfl rfl (Nat.le_of_ble_eq_true rfl) ⟨Nat.le_of_ble_eq_true rfl, Nat.le_of_ble_eq_true rfl⟩ dX6_enter_21 ?_
  refine g_aload_n C 0 dX6_enter_24 rfl rfl ?_
  refine g_getr (k := 0) (k' := 18) C (by decide) kf_X6_27 rfl rfl dX6_enter_25 ?_
  refine g_aload_n C 0 dX6_enter_28 rfl rfl ?_
  refine g_geti (k := 0) C (by decide) kf_X6_9 rfl dX6_enter_29 ?_
  refine g_iload_n C 3 dX6_enter_32 rfl rfl ?_
  obtain ⟨r33, hr33, hm⟩ := bnd_some hm
  refine g_callVv (As := [vI (r21.1 6 0 0), vI l3]) (rest := []) C lk_X6_75 (k_X8_set X.2.1 G hl hG fu 18 (r21.1 6 0 0) l3 r21 r33 ((hG _ hk0).2 3 8 18 0 rfl) hr33) (by decide) rfl rfl rfl (Nat.le_of_ble_eq_true rfl) ⟨Nat.le_of_ble_eq_true rfl, Nat.le_of_ble_eq_true rfl⟩ dX6_enter_33 ?_
  refine g_aload_n C 0 dX6_enter_36 rfl rfl ?_
  refine g_getr (k := 0) (k' := 19) C (by decide) kf_X6_39 rfl rfl dX6_enter_37 ?_
  refine g_aload_n C 0 dX6_enter_40 rfl rfl ?_
  refine g_geti (k := 0) C (by decide) kf_X6_9 rfl dX6_enter_41 ?_
  refine g_iload C 4 dX6_enter_44 rfl ?_
  obtain ⟨r46, hr46, hm⟩ := bnd_some hm
  refine g_callVv (As := [vI (r33.1 6 0 0), vI l4]) (rest := []) C lk_X6_75 (k_X8_set X.2.1 G hl hG fu 19 (r33.1 6 0 0) l4 r33 r46 ((hG _ hk0).2 5 8 19 0 rfl) hr46) (by decide) rfl rfl rfl (Nat.le_of_ble_eq_true rfl) ⟨Nat.le_of_ble_eq_true rfl, Nat.le_of_ble_eq_true rfl⟩ dX6_enter_46 ?_
  refine g_iconst (v := 0) C dX6_enter_49 rfl ?_
  refine g_istore (ls' := [(5, vI (0 : Int32)), (0, vR 6 0), (1, vI l1), (2, vI l2), (3, vI l3), (4, vI l4)]) C dX6_enter_50 (by decide) rfl ?_
  exact g_sub [1, 0] rfl (g_pc rfl (J52 (0 : Int32) r46 hm))
def f_X6_enterLonger_b13 (fu : Nat)  (l1 : Int32) (l2 : Int32) (l3 : Int32) (l4 : Int32) (l5 : Int32) (M : Mem) : Option ((Int32 × Mem) ⊕ (Mem)) :=
  if l4 ≤ l5 then some (Sum.inr M) else (f_X3_get fu 2 l1 l5 M).bind (fun r37 => (f_X3_set fu 2 (M.1 6 0 0) l5 r37.1 r37.2).bind (fun r40 => some (Sum.inl (l5 + (1 : Int32), r40))))
def f_X6_enterLonger_h13 (fu : Nat)   (l1 : Int32) (l2 : Int32) (l3 : Int32) (l4 : Int32) (l5 : Int32) (M : Mem) : Option (Mem) :=
  (lp_run (fun s => f_X6_enterLonger_b13 fu  l1 l2 l3 l4 s.1 s.2) fu (l5, M)).bind (fun M => (f_X3_set fu 2 (M.1 6 0 0) l4 l2 M).bind (fun r60 => (f_X3_set fu 3 l1 l2 (r60.1 6 0 0) r60).bind (fun r73 => (f_X8_get fu 16 l1 r73).bind (fun r82 => (f_X6_enter fu r82.1 l3 (l4 + (1 : Int32)) l1 r82.2).bind (fun r91 => some r91)))))
def f_X6_enterLonger (fu : Nat) (l1 : Int32) (l2 : Int32) (l3 : Int32) (M : Mem) : Option (Mem) :=
  (f_X8_get fu 18 l1 M).bind (fun r5 => f_X6_enterLonger_h13 fu l1 l2 l3 r5.1 (0 : Int32) r5.2)
set_option maxHeartbeats 4000000 in
set_option maxRecDepth 100000 in
theorem k_X6_enterLonger (l : Launch) (G : GE) (hl : l.stackTraces = false) (hG : GOK G) (fu : Nat) (l1 : Int32) (l2 : Int32) (l3 : Int32) (M : Mem) (res : Mem) (hk0 : (6, 0) ∈ gids G) (hm : f_X6_enterLonger fu l1 l2 l3 M = some res) : CT l G yX6_enterLonger cX6_enterLonger 6 none 2 [vR 6 0, vI l1, vI l2, vI l3] M (.inl none) res := by
  refine ct_of [(0, vR 6 0), (1, vI l1), (2, vI l2), (3, vI l3)] (by decide +kernel) hl hG (Nat.le_of_ble_eq_true rfl) rfl (List.forall_mem_cons.mpr ⟨Or.inl hk0, List.forall_mem_cons.mpr ⟨trivial, List.forall_mem_cons.mpr ⟨trivial, List.forall_mem_cons.mpr ⟨trivial, fun _ h => nomatch h⟩⟩⟩⟩) (List.forall_mem_cons.mpr ⟨Or.inl hk0, List.forall_mem_cons.mpr ⟨trivial, List.forall_mem_cons.mpr ⟨trivial, List.forall_mem_cons.mpr ⟨trivial, fun _ h => nomatch h⟩⟩⟩⟩) (fun X hX C => ?_)
  subst hX
  have Cl := C
  have J13 : ∀ (l1 : Int32) (l2 : Int32) (l3 : Int32) (l4 : Int32) (l5 : Int32) (M : Mem), f_X6_enterLonger_h13 fu   l1 l2 l3 l4 l5 M = some res → GW G X 6 (QX G X (.inl none) res) 13 [(0, vR 6 0), (1, vI l1), (2, vI l2), (3, vI l3), (4, vI l4), (5, vI l5)] [] M := by
    intro l1 l2 l3 l4 l5 M hm
    unfold f_X6_enterLonger_h13 at hm
    obtain ⟨r13, hL13, hk13⟩ := bnd_some hm
    have hx13 : ∀ (M : Mem), M = r13 → GW G X 6 (QX G X (.inl none) res) 49 [(0, vR 6 0), (1, vI l1), (2, vI l2), (3, vI l3), (4, vI l4)] [] M := by
      intro M he
      subst he
      have hm := hk13
      try dsimp only at hm
      refine g_aload_n C 0 dX6_enterLonger_49 rfl rfl ?_
      refine g_getr (k := 0) (k' := 2) C (by decide) kf_X6_35 rfl rfl dX6_enterLonger_50 ?_
      refine g_aload_n C 0 dX6_enterLonger_53 rfl rfl ?_
      refine g_geti (k := 0) C (by decide) kf_X6_9 rfl dX6_enterLonger_54 ?_
      refine g_iload C 4 dX6_enterLonger_57 rfl ?_
      refine g_iload_n C 2 dX6_enterLonger_59 rfl rfl ?_
      obtain ⟨r60, hr60, hm⟩ := bnd_some hm
      refine g_callVv (As := [vI (M.1 6 0 0), vI l4, vI l2]) (rest := []) C lk_X6_78 (k_X3_set X.2.1 G hl hG fu 2 (M.1 6 0 0) l4 l2 M r60 ((hG _ hk0).2 4 3 2 0 rfl) hr60) (by decide) rfl rfl rfl (Nat.le_of_ble_eq_true rfl) ⟨Nat.le_of_ble_eq_true rfl, Nat.le_of_ble_eq_true rfl⟩ dX6_enterLonger_60 ?_
      refine g_aload_n C 0 dX6_enterLonger_63 rfl rfl ?_
      refine g_getr (k := 0) (k' := 3) C (by decide) kf_X6_42 rfl rfl dX6_enterLonger_64 ?_
      refine g_iload_n C 1 dX6_enterLonger_67 rfl rfl ?_
      refine g_iload_n C 2 dX6_enterLonger_68 rfl rfl ?_
      refine g_aload_n C 0 dX6_enterLonger_69 rfl rfl ?_
      refine g_geti (k := 0) C (by decide) kf_X6_9 rfl dX6_enterLonger_70 ?_
      obtain ⟨r73, hr73, hm⟩ := bnd_some hm
      refine g_callVv (As := [vI l1, vI l2, vI (r60.1 6 0 0)]) (rest := []) C lk_X6_78 (k_X3_set X.2.1 G hl hG fu 3 l1 l2 (r60.1 6 0 0) r60 r73 ((hG _ hk0).2 6 3 3 0 rfl) hr73) (by decide) rfl rfl rfl (Nat.le_of_ble_eq_true rfl) ⟨Nat.le_of_ble_eq_true rfl, Nat.le_of_ble_eq_true rfl⟩ dX6_enterLonger_73 ?_
      refine g_aload_n C 0 dX6_enterLonger_76 rfl rfl ?_
      refine g_aload_n C 0 dX6_enterLonger_77 rfl rfl ?_
      refine g_getr (k := 0) (k' := 16) C (by decide) kf_X6_20 rfl rfl dX6_enterLonger_78 ?_
      refine g_iload_n C 1 dX6_enterLonger_81 rfl rfl ?_
      obtain ⟨r82, hr82, hm⟩ := bnd_some hm
      refine g_callVi (As := [vI l1]) (rest := [vR 6 0]) C lk_X6_69 (k_X8_get X.2.1 G hl hG fu 16 l1 r73 r82 ((hG _ hk0).2 1 8 16 0 rfl) hr82) (by decide) rfl rfl rfl (Nat.le_of_ble_eq_true rfl) ⟨Nat.le_of_ble_eq_true rfl, Nat.le_of_ble_eq_true rfl⟩ dX6_enterLonger_82 ?_
      refine g_iload_n C 3 dX6_enterLonger_85 rfl rfl ?_
      refine g_iload C 4 dX6_enterLonger_86 rfl ?_
      refine g_iconst (v := 1) C dX6_enterLonger_88 rfl ?_
      refine g_iadd C dX6_enterLonger_89 ?_
      refine g_iload_n C 1 dX6_enterLonger_90 rfl rfl ?_
      obtain ⟨r91, hr91, hm⟩ := bnd_some hm
      refine g_callVv (As := [vI r82.1, vI l3, vI (l4 + (1 : Int32)), vI l1]) (rest := []) C lk_X6_51 (k_X6_enter X.2.1 G hl hG fu r82.1 l3 (l4 + (1 : Int32)) l1 r82.2 r91 hk0 hr91) (by decide) rfl rfl rfl (Nat.le_of_ble_eq_true rfl) ⟨Nat.le_of_ble_eq_true rfl, Nat.le_of_ble_eq_true rfl⟩ dX6_enterLonger_91 ?_
      obtain rfl := Option.some.inj hm
      exact g_vret C dX6_enterLonger_94
    refine lp_ind1 (P := (fun l5 M => GW G X 6 (QX G X (.inl none) res) 13 [(0, vR 6 0), (1, vI l1), (2, vI l2), (3, vI l3), (4, vI l4), (5, vI l5)] [] M)) (r := r13) ?_ fu l5 M hL13
    intro l5 M o13 hm K13
    unfold f_X6_enterLonger_b13 at hm
    refine g_iload C 5 dX6_enterLonger_13 rfl ?_
    refine g_iload C 4 dX6_enterLonger_15 rfl ?_
    refine g_icmp_ge (tgt := 49) C dX6_enterLonger_17 (by decide) (fun h17 => ?_) (fun h17 => ?_)
    · have hm := ift hm h17
      obtain rfl := Option.some.inj hm
      exact g_sub [0, 1, 2, 3, 4] rfl (g_pc rfl (hx13 M (K13.2 _ rfl)))
    · have hm := ife hm h17
      refine g_aload_n C 0 dX6_enterLonger_20 rfl rfl ?_
      refine g_getr (k := 0) (k' := 2) C (by decide) kf_X6_35 rfl rfl dX6_enterLonger_21 ?_
      refine g_aload_n C 0 dX6_enterLonger_24 rfl rfl ?_
      refine g_geti (k := 0) C (by decide) kf_X6_9 rfl dX6_enterLonger_25 ?_
      refine g_iload C 5 dX6_enterLonger_28 rfl ?_
      refine g_aload_n C 0 dX6_enterLonger_30 rfl rfl ?_
      refine g_getr (k := 0) (k' := 2) C (by decide) kf_X6_35 rfl rfl dX6_enterLonger_31 ?_
      refine g_iload_n C 1 dX6_enterLonger_34 rfl rfl ?_
      refine g_iload C 5 dX6_enterLonger_35 rfl ?_
      obtain ⟨r37, hr37, hm⟩ := bnd_some hm
      refine g_callVi (As := [vI l1, vI l5]) (rest := [vI l5, vI (M.1 6 0 0), vR 3 2]) C lk_X6_72 (k_X3_get X.2.1 G hl hG fu 2 l1 l5 M r37 ((hG _ hk0).2 4 3 2 0 rfl) hr37) (by decide) rfl rfl rfl (Nat.le_of_ble_eq_true rfl) ⟨Nat.le_of_ble_eq_true rfl, Nat.le_of_ble_eq_true rfl⟩ dX6_enterLonger_37 ?_
      obtain ⟨r40, hr40, hm⟩ := bnd_some hm
      refine g_callVv (As := [vI (M.1 6 0 0), vI l5, vI r37.1]) (rest := []) C lk_X6_78 (k_X3_set X.2.1 G hl hG fu 2 (M.1 6 0 0) l5 r37.1 r37.2 r40 ((hG _ hk0).2 4 3 2 0 rfl) hr40) (by decide) rfl rfl rfl (Nat.le_of_ble_eq_true rfl) ⟨Nat.le_of_ble_eq_true rfl, Nat.le_of_ble_eq_true rfl⟩ dX6_enterLonger_40 ?_
      refine g_iinc (ls' := [(5, vI (l5 + (1 : Int32))), (0, vR 6 0), (1, vI l1), (2, vI l2), (3, vI l3), (4, vI l4)]) (v := l5 + (1 : Int32)) C 5 dX6_enterLonger_43 rfl (iv_p1 _) (by decide) rfl ?_
      refine g_goto (tgt := 13) C dX6_enterLonger_46 (by decide) ?_
      obtain rfl := Option.some.inj hm
      exact g_sub [1, 2, 3, 4, 5, 0] rfl (g_pc rfl (K13.1 (l5 + (1 : Int32)) r40 rfl))
  unfold f_X6_enterLonger at hm
  refine g_aload_n C 0 dX6_enterLonger_0 rfl rfl ?_
  refine g_getr (k := 0) (k' := 18) C (by decide) kf_X6_27 rfl rfl dX6_enterLonger_1 ?_
  refine g_iload_n C 1 dX6_enterLonger_4 rfl rfl ?_
  obtain ⟨r5, hr5, hm⟩ := bnd_some hm
  refine g_callVi (As := [vI l1]) (rest := []) C lk_X6_69 (k_X8_get X.2.1 G hl hG fu 18 l1 M r5 ((hG _ hk0).2 3 8 18 0 rfl) hr5) (by decide) rfl rfl rfl (Nat.le_of_ble_eq_true rfl) ⟨Nat.le_of_ble_eq_true rfl, Nat.le_of_ble_eq_true rfl⟩ dX6_enterLonger_5 ?_
  refine g_istore (ls' := [(4, vI r5.1), (0, vR 6 0), (1, vI l1), (2, vI l2), (3, vI l3)]) C dX6_enterLonger_8 (by decide) rfl ?_
  refine g_iconst (v := 0) C dX6_enterLonger_10 rfl ?_
  refine g_istore (ls' := [(5, vI (0 : Int32)), (4, vI r5.1), (0, vR 6 0), (1, vI l1), (2, vI l2), (3, vI l3)]) C dX6_enterLonger_11 (by decide) rfl ?_
  exact g_sub [2, 3, 4, 5, 1, 0] rfl (g_pc rfl (J13 l1 l2 l3 r5.1 (0 : Int32) r5.2 hm))
def f_X6_rebuild_b7 (fu : Nat) (k1 : Nat)  (l2 : Int32) (M : Mem) : Option ((Int32 × Mem) ⊕ (Mem)) :=
  (f_X2_objectTotal fu k1 M).bind (fun r9 => if r9.1 ≤ l2 then some (Sum.inr r9.2) else (f_X6_enter fu l2 l2 (0 : Int32) (-1 : Int32) r9.2).bind (fun r20 => some (Sum.inl (l2 + (1 : Int32), r20))))
def f_X6_rebuild_b31 (fu : Nat) (k1 : Nat)  (l2 : Int32) (M : Mem) : Option ((Int32 × Mem) ⊕ (Mem)) :=
  (f_X2_arrowTotal fu k1 M).bind (fun r33 => if r33.1 ≤ l2 then some (Sum.inr r33.2) else (f_X2_from fu k1 l2 r33.2).bind (fun r42 => (f_X2_to fu k1 l2 r42.2).bind (fun r48 => (f_X6_enterLonger fu r42.1 l2 r48.1 r48.2).bind (fun r51 => some (Sum.inl (l2 + (1 : Int32), r51))))))
def f_X6_rebuild_j117 (fu : Nat) (k1 : Nat) (l2 : Int32) (l3 : Int32) (M : Mem) : Option ((Int32 × Mem) ⊕ (Mem)) :=
  some (Sum.inl (l3 + (1 : Int32), M))
def f_X6_rebuild_b82 (fu : Nat) (k1 : Nat) (l2 : Int32) (l3 : Int32) (M : Mem) : Option ((Int32 × Mem) ⊕ (Mem)) :=
  (f_X2_arrowTotal fu k1 M).bind (fun r84 => if r84.1 ≤ l3 then some (Sum.inr r84.2) else (f_X2_from fu k1 l3 r84.2).bind (fun r92 => (f_X8_get fu 17 l2 r92.2).bind (fun r100 => if r92.1 = r100.1 then (f_X2_to fu k1 l3 r100.2).bind (fun r111 => (f_X6_enterLonger fu l2 l3 r111.1 r111.2).bind (fun r114 => f_X6_rebuild_j117 fu k1 l2 l3 r114)) else f_X6_rebuild_j117 fu k1 l2 l3 r100.2)))
def f_X6_rebuild_h82 (fu : Nat) (k1 : Nat)  (l2 : Int32) (l3 : Int32) (M : Mem) : Option ((Int32 × Mem) ⊕ (Mem)) :=
  (lp_run (fun s => f_X6_rebuild_b82 fu k1 l2 s.1 s.2) fu (l3, M)).bind (fun M => some (Sum.inl (l2 + (1 : Int32), M)))
def f_X6_rebuild_b65 (fu : Nat) (k1 : Nat)  (l2 : Int32) (M : Mem) : Option ((Int32 × Mem) ⊕ (Mem)) :=
  if (M.1 6 0 0) ≤ l2 then some (Sum.inr M) else if (300 : Int32) ≤ l2 then some (Sum.inr M) else f_X6_rebuild_h82 fu k1 l2 (0 : Int32) M
def f_X6_rebuild_h65 (fu : Nat) (k1 : Nat)  (l2 : Int32) (M : Mem) : Option (Mem) :=
  (lp_run (fun s => f_X6_rebuild_b65 fu k1  s.1 s.2) fu (l2, M)).bind (fun M => some M)
def f_X6_rebuild_h31 (fu : Nat) (k1 : Nat)  (l2 : Int32) (M : Mem) : Option (Mem) :=
  (lp_run (fun s => f_X6_rebuild_b31 fu k1  s.1 s.2) fu (l2, M)).bind (fun M => (f_X2_objectTotal fu k1 M).bind (fun r61 => f_X6_rebuild_h65 fu k1 r61.1 r61.2))
def f_X6_rebuild_h7 (fu : Nat) (k1 : Nat)  (l2 : Int32) (M : Mem) : Option (Mem) :=
  (lp_run (fun s => f_X6_rebuild_b7 fu k1  s.1 s.2) fu (l2, M)).bind (fun M => f_X6_rebuild_h31 fu k1 (0 : Int32) M)
def f_X6_rebuild (fu : Nat) (k1 : Nat) (M : Mem) : Option (Mem) :=
  f_X6_rebuild_h7 fu k1 (0 : Int32) (mI M 6 0 0 (0 : Int32))
set_option maxHeartbeats 4000000 in
set_option maxRecDepth 100000 in
theorem k_X6_rebuild (l : Launch) (G : GE) (hl : l.stackTraces = false) (hG : GOK G) (fu : Nat) (k1 : Nat) (M : Mem) (res : Mem) (hk0 : (6, 0) ∈ gids G) (hk1 : (2, k1) ∈ gids G) (hm : f_X6_rebuild fu k1 M = some res) : CT l G yX6_rebuild cX6_rebuild 4 none 3 [vR 6 0, vR 2 k1] M (.inl none) res := by
  refine ct_of [(0, vR 6 0), (1, vR 2 k1)] (by decide +kernel) hl hG (Nat.le_of_ble_eq_true rfl) rfl (List.forall_mem_cons.mpr ⟨Or.inl hk0, List.forall_mem_cons.mpr ⟨Or.inl hk1, fun _ h => nomatch h⟩⟩) (List.forall_mem_cons.mpr ⟨Or.inl hk0, List.forall_mem_cons.mpr ⟨Or.inl hk1, fun _ h => nomatch h⟩⟩) (fun X hX C => ?_)
  subst hX
  have Cl := C
  have J65 : ∀ (l2 : Int32) (M : Mem), f_X6_rebuild_h65 fu k1  l2 M = some res → GW G X 4 (QX G X (.inl none) res) 65 [(0, vR 6 0), (1, vR 2 k1), (2, vI l2)] [] M := by
    intro l2 M hm
    unfold f_X6_rebuild_h65 at hm
    obtain ⟨r65, hL65, hk65⟩ := bnd_some hm
    have hx65 : ∀ (M : Mem), M = r65 → GW G X 4 (QX G X (.inl none) res) 129 [] [] M := by
      intro M he
      subst he
      have hm := hk65
      try dsimp only at hm
      obtain rfl := Option.some.inj hm
      exact g_vret C dX6_rebuild_129
    refine lp_ind1 (P := (fun l2 M => GW G X 4 (QX G X (.inl none) res) 65 [(0, vR 6 0), (1, vR 2 k1), (2, vI l2)] [] M)) (r := r65) ?_ fu l2 M hL65
    intro l2 M o65 hm K65
    have J82 : ∀ (l2 : Int32) (l3 : Int32) (M : Mem), f_X6_rebuild_h82 fu k1  l2 l3 M = some o65 → GW G X 4 (QX G X (.inl none) res) 82 [(0, vR 6 0), (1, vR 2 k1), (2, vI l2), (3, vI l3)] [] M := by
      intro l2 l3 M hm
      unfold f_X6_rebuild_h82 at hm
      obtain ⟨r82, hL82, hk82⟩ := bnd_some hm
      have hx82 : ∀ (M : Mem), M = r82 → GW G X 4 (QX G X (.inl none) res) 123 [(0, vR 6 0), (1, vR 2 k1), (2, vI l2)] [] M := by
        intro M he
        subst he
        have hm := hk82
        try dsimp only at hm
        refine g_iinc (ls' := [(2, vI (l2 + (1 : Int32))), (0, vR 6 0), (1, vR 2 k1)]) (v := l2 + (1 : Int32)) C 2 dX6_rebuild_123 rfl (iv_p1 _) (by decide) rfl ?_
        refine g_goto (tgt := 65) C dX6_rebuild_126 (by decide) ?_
        obtain rfl := Option.some.inj hm
        exact g_sub [1, 2, 0] rfl (g_pc rfl (K65.1 (l2 + (1 : Int32)) M rfl))
      refine lp_ind1 (P := (fun l3 M => GW G X 4 (QX G X (.inl none) res) 82 [(0, vR 6 0), (1, vR 2 k1), (2, vI l2), (3, vI l3)] [] M)) (r := r82) ?_ fu l3 M hL82
      intro l3 M o82 hm K82
      have J117 : ∀ (l3 : Int32) (M : Mem), f_X6_rebuild_j117 fu k1 l2 l3 M = some o82 → GW G X 4 (QX G X (.inl none) res) 117 [(0, vR 6 0), (1, vR 2 k1), (2, vI l2), (3, vI l3)] [] M := by
        intro l3 M hm
        unfold f_X6_rebuild_j117 at hm
        refine g_iinc (ls' := [(3, vI (l3 + (1 : Int32))), (0, vR 6 0), (1, vR 2 k1), (2, vI l2)]) (v := l3 + (1 : Int32)) C 3 dX6_rebuild_117 rfl (iv_p1 _) (by decide) rfl ?_
        refine g_goto (tgt := 82) C dX6_rebuild_120 (by decide) ?_
        obtain rfl := Option.some.inj hm
        exact g_sub [1, 2, 3, 0] rfl (g_pc rfl (K82.1 (l3 + (1 : Int32)) M rfl))
      unfold f_X6_rebuild_b82 at hm
      refine g_iload_n C 3 dX6_rebuild_82 rfl rfl ?_
      refine g_aload_n C 1 dX6_rebuild_83 rfl rfl ?_
      obtain ⟨r84, hr84, hm⟩ := bnd_some hm
      refine g_callVi (As := []) (rest := [vI l3]) C lk_X6_55 (k_X2_arrowTotal X.2.1 G hl hG fu k1 M r84 hk1 hr84) (by decide) rfl rfl rfl (Nat.le_of_ble_eq_true rfl) ⟨Nat.le_of_ble_eq_true rfl, Nat.le_of_ble_eq_true rfl⟩ dX6_rebuild_84 ?_
      refine g_icmp_ge (tgt := 123) C dX6_rebuild_87 (by decide) (fun h87 => ?_) (fun h87 => ?_)
      · have hm := ift hm h87
        obtain rfl := Option.some.inj hm
        exact g_sub [0, 1, 2] rfl (g_pc rfl (hx82 r84.2 (K82.2 _ rfl)))
      · have hm := ife hm h87
        refine g_aload_n C 1 dX6_rebuild_90 rfl rfl ?_
        refine g_iload_n C 3 dX6_rebuild_91 rfl rfl ?_
        obtain ⟨r92, hr92, hm⟩ := bnd_some hm
        refine g_callVi (As := [vI l3]) (rest := []) C lk_X6_58 (k_X2_from X.2.1 G hl hG fu k1 l3 r84.2 r92 hk1 hr92) (by decide) rfl rfl rfl (Nat.le_of_ble_eq_true rfl) ⟨Nat.le_of_ble_eq_true rfl, Nat.le_of_ble_eq_true rfl⟩ dX6_rebuild_92 ?_
        refine g_aload_n C 0 dX6_rebuild_95 rfl rfl ?_
        refine g_getr (k := 0) (k' := 17) C (by decide) kf_X6_24 rfl rfl dX6_rebuild_96 ?_
        refine g_iload_n C 2 dX6_rebuild_99 rfl rfl ?_
        obtain ⟨r100, hr100, hm⟩ := bnd_some hm
        refine g_callVi (As := [vI l2]) (rest := [vI r92.1]) C lk_X6_69 (k_X8_get X.2.1 G hl hG fu 17 l2 r92.2 r100 ((hG _ hk0).2 2 8 17 0 rfl) hr100) (by decide) rfl rfl rfl (Nat.le_of_ble_eq_true rfl) ⟨Nat.le_of_ble_eq_true rfl, Nat.le_of_ble_eq_true rfl⟩ dX6_rebuild_100 ?_
        refine g_icmp_ne (tgt := 117) C dX6_rebuild_103 (by decide) (fun h103 => ?_) (fun h103 => ?_)
        · have hm := ife hm h103
          exact g_sub [0, 1, 2, 3] rfl (g_pc rfl (J117 l3 r100.2 hm))
        · have hm := ift hm h103
          refine g_aload_n C 0 dX6_rebuild_106 rfl rfl ?_
          refine g_iload_n C 2 dX6_rebuild_107 rfl rfl ?_
          refine g_iload_n C 3 dX6_rebuild_108 rfl rfl ?_
          refine g_aload_n C 1 dX6_rebuild_109 rfl rfl ?_
          refine g_iload_n C 3 dX6_rebuild_110 rfl rfl ?_
          obtain ⟨r111, hr111, hm⟩ := bnd_some hm
          refine g_callVi (As := [vI l3]) (rest := [vI l3, vI l2, vR 6 0]) C lk_X6_62 (k_X2_to X.2.1 G hl hG fu k1 l3 r100.2 r111 hk1 hr111) (by decide) rfl rfl rfl (Nat.le_of_ble_eq_true rfl) ⟨Nat.le_of_ble_eq_true rfl, Nat.le_of_ble_eq_true rfl⟩ dX6_rebuild_111 ?_
          obtain ⟨r114, hr114, hm⟩ := bnd_some hm
          refine g_callVv (As := [vI l2, vI l3, vI r111.1]) (rest := []) C lk_X6_65 (k_X6_enterLonger X.2.1 G hl hG fu l2 l3 r111.1 r111.2 r114 hk0 hr114) (by decide) rfl rfl rfl (Nat.le_of_ble_eq_true rfl) ⟨Nat.le_of_ble_eq_true rfl, Nat.le_of_ble_eq_true rfl⟩ dX6_rebuild_114 ?_
          exact g_sub [0, 1, 2, 3] rfl (g_pc rfl (J117 l3 r114 hm))
    unfold f_X6_rebuild_b65 at hm
    refine g_iload_n C 2 dX6_rebuild_65 rfl rfl ?_
    refine g_aload_n C 0 dX6_rebuild_66 rfl rfl ?_
    refine g_geti (k := 0) C (by decide) kf_X6_9 rfl dX6_rebuild_67 ?_
    refine g_icmp_ge (tgt := 129) C dX6_rebuild_70 (by decide) (fun h70 => ?_) (fun h70 => ?_)
    · have hm := ift hm h70
      obtain rfl := Option.some.inj hm
      exact g_sub [] rfl (g_pc rfl (hx65 M (K65.2 _ rfl)))
    · have hm := ife hm h70
      refine g_iload_n C 2 dX6_rebuild_73 rfl rfl ?_
      refine g_sipush (v := 300) C dX6_rebuild_74 rfl ?_
      refine g_icmp_ge (tgt := 129) C dX6_rebuild_77 (by decide) (fun h77 => ?_) (fun h77 => ?_)
      · have hm := ift hm h77
        obtain rfl := Option.some.inj hm
        exact g_sub [] rfl (g_pc rfl (hx65 M (K65.2 _ rfl)))
      · have hm := ife hm h77
        refine g_iconst (v := 0) C dX6_rebuild_80 rfl ?_
        refine g_istore_n (ls' := [(3, vI (0 : Int32)), (0, vR 6 0), (1, vR 2 k1), (2, vI l2)]) C dX6_rebuild_81 rfl (by decide) rfl ?_
        exact g_sub [1, 2, 3, 0] rfl (g_pc rfl (J82 l2 (0 : Int32) M hm))
  have J31 : ∀ (l2 : Int32) (M : Mem), f_X6_rebuild_h31 fu k1  l2 M = some res → GW G X 4 (QX G X (.inl none) res) 31 [(0, vR 6 0), (1, vR 2 k1), (2, vI l2)] [] M := by
    intro l2 M hm
    unfold f_X6_rebuild_h31 at hm
    obtain ⟨r31, hL31, hk31⟩ := bnd_some hm
    have hx31 : ∀ (M : Mem), M = r31 → GW G X 4 (QX G X (.inl none) res) 60 [(0, vR 6 0), (1, vR 2 k1)] [] M := by
      intro M he
      subst he
      have hm := hk31
      try dsimp only at hm
      refine g_aload_n C 1 dX6_rebuild_60 rfl rfl ?_
      obtain ⟨r61, hr61, hm⟩ := bnd_some hm
      refine g_callVi (As := []) (rest := []) C lk_X6_45 (k_X2_objectTotal X.2.1 G hl hG fu k1 M r61 hk1 hr61) (by decide) rfl rfl rfl (Nat.le_of_ble_eq_true rfl) ⟨Nat.le_of_ble_eq_true rfl, Nat.le_of_ble_eq_true rfl⟩ dX6_rebuild_61 ?_
      refine g_istore_n (ls' := [(2, vI r61.1), (0, vR 6 0), (1, vR 2 k1)]) C dX6_rebuild_64 rfl (by decide) rfl ?_
      exact g_sub [1, 2, 0] rfl (g_pc rfl (J65 r61.1 r61.2 hm))
    refine lp_ind1 (P := (fun l2 M => GW G X 4 (QX G X (.inl none) res) 31 [(0, vR 6 0), (1, vR 2 k1), (2, vI l2)] [] M)) (r := r31) ?_ fu l2 M hL31
    intro l2 M o31 hm K31
    unfold f_X6_rebuild_b31 at hm
    refine g_iload_n C 2 dX6_rebuild_31 rfl rfl ?_
    refine g_aload_n C 1 dX6_rebuild_32 rfl rfl ?_
    obtain ⟨r33, hr33, hm⟩ := bnd_some hm
    refine g_callVi (As := []) (rest := [vI l2]) C lk_X6_55 (k_X2_arrowTotal X.2.1 G hl hG fu k1 M r33 hk1 hr33) (by decide) rfl rfl rfl (Nat.le_of_ble_eq_true rfl) ⟨Nat.le_of_ble_eq_true rfl, Nat.le_of_ble_eq_true rfl⟩ dX6_rebuild_33 ?_
    refine g_icmp_ge (tgt := 60) C dX6_rebuild_36 (by decide) (fun h36 => ?_) (fun h36 => ?_)
    · have hm := ift hm h36
      obtain rfl := Option.some.inj hm
      exact g_sub [0, 1] rfl (g_pc rfl (hx31 r33.2 (K31.2 _ rfl)))
    · have hm := ife hm h36
      refine g_aload_n C 0 dX6_rebuild_39 rfl rfl ?_
      refine g_aload_n C 1 dX6_rebuild_40 rfl rfl ?_
      refine g_iload_n C 2 dX6_rebuild_41 rfl rfl ?_
      obtain ⟨r42, hr42, hm⟩ := bnd_some hm
      refine g_callVi (As := [vI l2]) (rest := [vR 6 0]) C lk_X6_58 (k_X2_from X.2.1 G hl hG fu k1 l2 r33.2 r42 hk1 hr42) (by decide) rfl rfl rfl (Nat.le_of_ble_eq_true rfl) ⟨Nat.le_of_ble_eq_true rfl, Nat.le_of_ble_eq_true rfl⟩ dX6_rebuild_42 ?_
      refine g_iload_n C 2 dX6_rebuild_45 rfl rfl ?_
      refine g_aload_n C 1 dX6_rebuild_46 rfl rfl ?_
      refine g_iload_n C 2 dX6_rebuild_47 rfl rfl ?_
      obtain ⟨r48, hr48, hm⟩ := bnd_some hm
      refine g_callVi (As := [vI l2]) (rest := [vI l2, vI r42.1, vR 6 0]) C lk_X6_62 (k_X2_to X.2.1 G hl hG fu k1 l2 r42.2 r48 hk1 hr48) (by decide) rfl rfl rfl (Nat.le_of_ble_eq_true rfl) ⟨Nat.le_of_ble_eq_true rfl, Nat.le_of_ble_eq_true rfl⟩ dX6_rebuild_48 ?_
      obtain ⟨r51, hr51, hm⟩ := bnd_some hm
      refine g_callVv (As := [vI r42.1, vI l2, vI r48.1]) (rest := []) C lk_X6_65 (k_X6_enterLonger X.2.1 G hl hG fu r42.1 l2 r48.1 r48.2 r51 hk0 hr51) (by decide) rfl rfl rfl (Nat.le_of_ble_eq_true rfl) ⟨Nat.le_of_ble_eq_true rfl, Nat.le_of_ble_eq_true rfl⟩ dX6_rebuild_51 ?_
      refine g_iinc (ls' := [(2, vI (l2 + (1 : Int32))), (0, vR 6 0), (1, vR 2 k1)]) (v := l2 + (1 : Int32)) C 2 dX6_rebuild_54 rfl (iv_p1 _) (by decide) rfl ?_
      refine g_goto (tgt := 31) C dX6_rebuild_57 (by decide) ?_
      obtain rfl := Option.some.inj hm
      exact g_sub [1, 2, 0] rfl (g_pc rfl (K31.1 (l2 + (1 : Int32)) r51 rfl))
  have J7 : ∀ (l2 : Int32) (M : Mem), f_X6_rebuild_h7 fu k1  l2 M = some res → GW G X 4 (QX G X (.inl none) res) 7 [(0, vR 6 0), (1, vR 2 k1), (2, vI l2)] [] M := by
    intro l2 M hm
    unfold f_X6_rebuild_h7 at hm
    obtain ⟨r7, hL7, hk7⟩ := bnd_some hm
    have hx7 : ∀ (M : Mem), M = r7 → GW G X 4 (QX G X (.inl none) res) 29 [(0, vR 6 0), (1, vR 2 k1)] [] M := by
      intro M he
      subst he
      have hm := hk7
      try dsimp only at hm
      refine g_iconst (v := 0) C dX6_rebuild_29 rfl ?_
      refine g_istore_n (ls' := [(2, vI (0 : Int32)), (0, vR 6 0), (1, vR 2 k1)]) C dX6_rebuild_30 rfl (by decide) rfl ?_
      exact g_sub [1, 2, 0] rfl (g_pc rfl (J31 (0 : Int32) M hm))
    refine lp_ind1 (P := (fun l2 M => GW G X 4 (QX G X (.inl none) res) 7 [(0, vR 6 0), (1, vR 2 k1), (2, vI l2)] [] M)) (r := r7) ?_ fu l2 M hL7
    intro l2 M o7 hm K7
    unfold f_X6_rebuild_b7 at hm
    refine g_iload_n C 2 dX6_rebuild_7 rfl rfl ?_
    refine g_aload_n C 1 dX6_rebuild_8 rfl rfl ?_
    obtain ⟨r9, hr9, hm⟩ := bnd_some hm
    refine g_callVi (As := []) (rest := [vI l2]) C lk_X6_45 (k_X2_objectTotal X.2.1 G hl hG fu k1 M r9 hk1 hr9) (by decide) rfl rfl rfl (Nat.le_of_ble_eq_true rfl) ⟨Nat.le_of_ble_eq_true rfl, Nat.le_of_ble_eq_true rfl⟩ dX6_rebuild_9 ?_
    refine g_icmp_ge (tgt := 29) C dX6_rebuild_12 (by decide) (fun h12 => ?_) (fun h12 => ?_)
    · have hm := ift hm h12
      obtain rfl := Option.some.inj hm
      exact g_sub [0, 1] rfl (g_pc rfl (hx7 r9.2 (K7.2 _ rfl)))
    · have hm := ife hm h12
      refine g_aload_n C 0 dX6_rebuild_15 rfl rfl ?_
      refine g_iload_n C 2 dX6_rebuild_16 rfl rfl ?_
      refine g_iload_n C 2 dX6_rebuild_17 rfl rfl ?_
      refine g_iconst (v := 0) C dX6_rebuild_18 rfl ?_
      refine g_iconst (v := -1) C dX6_rebuild_19 rfl ?_
      obtain ⟨r20, hr20, hm⟩ := bnd_some hm
      refine g_callVv (As := [vI l2, vI l2, vI (0 : Int32), vI (-1 : Int32)]) (rest := []) C lk_X6_51 (k_X6_enter X.2.1 G hl hG fu l2 l2 (0 : Int32) (-1 : Int32) r9.2 r20 hk0 hr20) (by decide) rfl rfl rfl (Nat.le_of_ble_eq_true rfl) ⟨Nat.le_of_ble_eq_true rfl, Nat.le_of_ble_eq_true rfl⟩ dX6_rebuild_20 ?_
      refine g_iinc (ls' := [(2, vI (l2 + (1 : Int32))), (0, vR 6 0), (1, vR 2 k1)]) (v := l2 + (1 : Int32)) C 2 dX6_rebuild_23 rfl (iv_p1 _) (by decide) rfl ?_
      refine g_goto (tgt := 7) C dX6_rebuild_26 (by decide) ?_
      obtain rfl := Option.some.inj hm
      exact g_sub [1, 2, 0] rfl (g_pc rfl (K7.1 (l2 + (1 : Int32)) r20 rfl))
  unfold f_X6_rebuild at hm
  refine g_aload_n C 0 dX6_rebuild_0 rfl rfl ?_
  refine g_iconst (v := 0) C dX6_rebuild_1 rfl ?_
  refine g_puti C (by decide) kf_X6_9 rfl rfl rfl dX6_rebuild_2 ?_
  refine g_iconst (v := 0) C dX6_rebuild_5 rfl ?_
  refine g_istore_n (ls' := [(2, vI (0 : Int32)), (0, vR 6 0), (1, vR 2 k1)]) C dX6_rebuild_6 rfl (by decide) rfl ?_
  exact g_sub [1, 2, 0] rfl (g_pc rfl (J7 (0 : Int32) (mI M 6 0 0 (0 : Int32)) hm))
def f_X6_leads (fu : Nat) (l1 : Int32) (l2 : Int32) (l3 : Int32) (M : Mem) : Option (Int32 × Mem) :=
  (f_X8_get fu 16 l1 M).bind (fun r5 => if r5.1 = l2 then (f_X8_get fu 17 l1 r5.2).bind (fun r17 => if r17.1 = l3 then some ((1 : Int32), r17.2) else some ((0 : Int32), r17.2)) else some ((0 : Int32), r5.2))
set_option maxHeartbeats 4000000 in
set_option maxRecDepth 100000 in
theorem k_X6_leads (l : Launch) (G : GE) (hl : l.stackTraces = false) (hG : GOK G) (fu : Nat) (l1 : Int32) (l2 : Int32) (l3 : Int32) (M : Mem) (res : Int32 × Mem) (hk0 : (6, 0) ∈ gids G) (hm : f_X6_leads fu l1 l2 l3 M = some res) : CT l G yX6_leads cX6_leads 4 (some .boolean) 1 [vR 6 0, vI l1, vI l2, vI l3] M (.inl (some (vI res.1))) res.2 := by
  refine ct_of [(0, vR 6 0), (1, vI l1), (2, vI l2), (3, vI l3)] (by decide +kernel) hl hG (Nat.le_of_ble_eq_true rfl) rfl (List.forall_mem_cons.mpr ⟨Or.inl hk0, List.forall_mem_cons.mpr ⟨trivial, List.forall_mem_cons.mpr ⟨trivial, List.forall_mem_cons.mpr ⟨trivial, fun _ h => nomatch h⟩⟩⟩⟩) (List.forall_mem_cons.mpr ⟨Or.inl hk0, List.forall_mem_cons.mpr ⟨trivial, List.forall_mem_cons.mpr ⟨trivial, List.forall_mem_cons.mpr ⟨trivial, fun _ h => nomatch h⟩⟩⟩⟩) (fun X hX C => ?_)
  subst hX
  have Cl := C
  unfold f_X6_leads at hm
  refine g_aload_n C 0 dX6_leads_0 rfl rfl ?_
  refine g_getr (k := 0) (k' := 16) C (by decide) kf_X6_20 rfl rfl dX6_leads_1 ?_
  refine g_iload_n C 1 dX6_leads_4 rfl rfl ?_
  obtain ⟨r5, hr5, hm⟩ := bnd_some hm
  refine g_callVi (As := [vI l1]) (rest := []) C lk_X6_69 (k_X8_get X.2.1 G hl hG fu 16 l1 M r5 ((hG _ hk0).2 1 8 16 0 rfl) hr5) (by decide) rfl rfl rfl (Nat.le_of_ble_eq_true rfl) ⟨Nat.le_of_ble_eq_true rfl, Nat.le_of_ble_eq_true rfl⟩ dX6_leads_5 ?_
  refine g_iload_n C 2 dX6_leads_8 rfl rfl ?_
  refine g_icmp_ne (tgt := 28) C dX6_leads_9 (by decide) (fun h9 => ?_) (fun h9 => ?_)
  · have hm := ife hm h9
    refine g_iconst (v := 0) C dX6_leads_28 rfl ?_
    obtain rfl := Option.some.inj hm
    exact g_zret C (Or.inl rfl) dX6_leads_29
  · have hm := ift hm h9
    refine g_aload_n C 0 dX6_leads_12 rfl rfl ?_
    refine g_getr (k := 0) (k' := 17) C (by decide) kf_X6_24 rfl rfl dX6_leads_13 ?_
    refine g_iload_n C 1 dX6_leads_16 rfl rfl ?_
    obtain ⟨r17, hr17, hm⟩ := bnd_some hm
    refine g_callVi (As := [vI l1]) (rest := []) C lk_X6_69 (k_X8_get X.2.1 G hl hG fu 17 l1 r5.2 r17 ((hG _ hk0).2 2 8 17 0 rfl) hr17) (by decide) rfl rfl rfl (Nat.le_of_ble_eq_true rfl) ⟨Nat.le_of_ble_eq_true rfl, Nat.le_of_ble_eq_true rfl⟩ dX6_leads_17 ?_
    refine g_iload_n C 3 dX6_leads_20 rfl rfl ?_
    refine g_icmp_ne (tgt := 28) C dX6_leads_21 (by decide) (fun h21 => ?_) (fun h21 => ?_)
    · have hm := ife hm h21
      refine g_iconst (v := 0) C dX6_leads_28 rfl ?_
      obtain rfl := Option.some.inj hm
      exact g_zret C (Or.inl rfl) dX6_leads_29
    · have hm := ift hm h21
      refine g_iconst (v := 1) C dX6_leads_24 rfl ?_
      refine g_goto (tgt := 29) C dX6_leads_25 (by decide) ?_
      obtain rfl := Option.some.inj hm
      exact g_zret C (Or.inr rfl) dX6_leads_29
def f_X7_beginsArrow (fu : Nat) (l1 : Int32) (M : Mem) : Option (Int32 × Mem) :=
  if l1 < 0 then some ((0 : Int32), M) else (f_X2_objectTotal fu 1 M).bind (fun r9 => if (r9.1 - (1 : Int32)) ≤ l1 then some ((0 : Int32), r9.2) else (f_X2_arrowTotal fu 1 r9.2).bind (fun r21 => if r21.1 < (14 : Int32) then some ((1 : Int32), (mI (mI r21.2 7 0 3 l1) 7 0 2 (1 : Int32))) else some ((0 : Int32), r21.2)))
set_option maxHeartbeats 4000000 in
set_option maxRecDepth 100000 in
theorem k_X7_beginsArrow (l : Launch) (G : GE) (hl : l.stackTraces = false) (hG : GOK G) (fu : Nat) (l1 : Int32) (M : Mem) (res : Int32 × Mem) (hk0 : (7, 0) ∈ gids G) (hm : f_X7_beginsArrow fu l1 M = some res) : CT l G yX7_beginsArrow cX7_beginsArrow 2 (some .boolean) 1 [vR 7 0, vI l1] M (.inl (some (vI res.1))) res.2 := by
  refine ct_of [(0, vR 7 0), (1, vI l1)] (by decide +kernel) hl hG (Nat.le_of_ble_eq_true rfl) rfl (List.forall_mem_cons.mpr ⟨Or.inl hk0, List.forall_mem_cons.mpr ⟨trivial, fun _ h => nomatch h⟩⟩) (List.forall_mem_cons.mpr ⟨Or.inl hk0, List.forall_mem_cons.mpr ⟨trivial, fun _ h => nomatch h⟩⟩) (fun X hX C => ?_)
  subst hX
  have Cl := C
  unfold f_X7_beginsArrow at hm
  refine g_iload_n C 1 dX7_beginsArrow_0 rfl rfl ?_
  refine g_if_lt (tgt := 29) C dX7_beginsArrow_1 (by decide) (fun h1 => ?_) (fun h1 => ?_)
  · have hm := ift hm h1
    refine g_iconst (v := 0) C dX7_beginsArrow_29 rfl ?_
    obtain rfl := Option.some.inj hm
    exact g_zret C (Or.inl rfl) dX7_beginsArrow_30
  · have hm := ife hm h1
    refine g_iload_n C 1 dX7_beginsArrow_4 rfl rfl ?_
    refine g_aload_n C 0 dX7_beginsArrow_5 rfl rfl ?_
    refine g_getr (k := 0) (k' := 1) C (by decide) kf_X7_12 rfl rfl dX7_beginsArrow_6 ?_
    obtain ⟨r9, hr9, hm⟩ := bnd_some hm
    refine g_callVi (As := []) (rest := [vI l1]) C lk_X7_81 (k_X2_objectTotal X.2.1 G hl hG fu 1 M r9 ((hG _ hk0).2 0 2 1 0 rfl) hr9) (by decide) rfl rfl rfl (Nat.le_of_ble_eq_true rfl) ⟨Nat.le_of_ble_eq_true rfl, Nat.le_of_ble_eq_true rfl⟩ dX7_beginsArrow_9 ?_
    refine g_iconst (v := 1) C dX7_beginsArrow_12 rfl ?_
    refine g_isub C dX7_beginsArrow_13 ?_
    refine g_icmp_ge (tgt := 29) C dX7_beginsArrow_14 (by decide) (fun h14 => ?_) (fun h14 => ?_)
    · have hm := ift hm h14
      refine g_iconst (v := 0) C dX7_beginsArrow_29 rfl ?_
      obtain rfl := Option.some.inj hm
      exact g_zret C (Or.inl rfl) dX7_beginsArrow_30
    · have hm := ife hm h14
      refine g_aload_n C 0 dX7_beginsArrow_17 rfl rfl ?_
      refine g_getr (k := 0) (k' := 1) C (by decide) kf_X7_12 rfl rfl dX7_beginsArrow_18 ?_
      obtain ⟨r21, hr21, hm⟩ := bnd_some hm
      refine g_callVi (As := []) (rest := []) C lk_X7_84 (k_X2_arrowTotal X.2.1 G hl hG fu 1 r9.2 r21 ((hG _ hk0).2 0 2 1 0 rfl) hr21) (by decide) rfl rfl rfl (Nat.le_of_ble_eq_true rfl) ⟨Nat.le_of_ble_eq_true rfl, Nat.le_of_ble_eq_true rfl⟩ dX7_beginsArrow_21 ?_
      refine g_bipush (v := 14) C dX7_beginsArrow_24 rfl ?_
      refine g_icmp_lt (tgt := 31) C dX7_beginsArrow_26 (by decide) (fun h26 => ?_) (fun h26 => ?_)
      · have hm := ift hm h26
        refine g_aload_n C 0 dX7_beginsArrow_31 rfl rfl ?_
        refine g_iload_n C 1 dX7_beginsArrow_32 rfl rfl ?_
        refine g_puti C (by decide) kf_X7_29 rfl rfl rfl dX7_beginsArrow_33 ?_
        refine g_aload_n C 0 dX7_beginsArrow_36 rfl rfl ?_
        refine g_iconst (v := 1) C dX7_beginsArrow_37 rfl ?_
        refine g_puti C (by decide) kf_X7_25 rfl rfl rfl dX7_beginsArrow_38 ?_
        refine g_iconst (v := 1) C dX7_beginsArrow_41 rfl ?_
        obtain rfl := Option.some.inj hm
        exact g_zret C (Or.inr rfl) dX7_beginsArrow_42
      · have hm := ife hm h26
        refine g_iconst (v := 0) C dX7_beginsArrow_29 rfl ?_
        obtain rfl := Option.some.inj hm
        exact g_zret C (Or.inl rfl) dX7_beginsArrow_30
def f_X7_goesOn (fu : Nat) (l1 : Int32) (l2 : Int32) (l3 : Int32) (M : Mem) : Option (Int32 × Mem) :=
  (f_X2_hasArrow fu 1 l3 M).bind (fun r5 => if r5.1 = 0 then some ((0 : Int32), r5.2) else (f_X2_from fu 1 l3 r5.2).bind (fun r16 => if r16.1 = l2 then (f_X0_lengthen fu 1 l1 l3 r16.2).bind (fun r31 => (f_X2_to fu 1 l3 r31).bind (fun r40 => some ((1 : Int32), (mI r40.2 7 0 4 r40.1)))) else some ((0 : Int32), r16.2)))
set_option maxHeartbeats 4000000 in
set_option maxRecDepth 100000 in
theorem k_X7_goesOn (l : Launch) (G : GE) (hl : l.stackTraces = false) (hG : GOK G) (fu : Nat) (l1 : Int32) (l2 : Int32) (l3 : Int32) (M : Mem) (res : Int32 × Mem) (hk0 : (7, 0) ∈ gids G) (hm : f_X7_goesOn fu l1 l2 l3 M = some res) : CT l G yX7_goesOn cX7_goesOn 4 (some .boolean) 2 [vR 7 0, vI l1, vI l2, vI l3] M (.inl (some (vI res.1))) res.2 := by
  refine ct_of [(0, vR 7 0), (1, vI l1), (2, vI l2), (3, vI l3)] (by decide +kernel) hl hG (Nat.le_of_ble_eq_true rfl) rfl (List.forall_mem_cons.mpr ⟨Or.inl hk0, List.forall_mem_cons.mpr ⟨trivial, List.forall_mem_cons.mpr ⟨trivial, List.forall_mem_cons.mpr ⟨trivial, fun _ h => nomatch h⟩⟩⟩⟩) (List.forall_mem_cons.mpr ⟨Or.inl hk0, List.forall_mem_cons.mpr ⟨trivial, List.forall_mem_cons.mpr ⟨trivial, List.forall_mem_cons.mpr ⟨trivial, fun _ h => nomatch h⟩⟩⟩⟩) (fun X hX C => ?_)
  subst hX
  have Cl := C
  unfold f_X7_goesOn at hm
  refine g_aload_n C 0 dX7_goesOn_0 rfl rfl ?_
  refine g_getr (k := 0) (k' := 1) C (by decide) kf_X7_12 rfl rfl dX7_goesOn_1 ?_
  refine g_iload_n C 3 dX7_goesOn_4 rfl rfl ?_
  obtain ⟨r5, hr5, hm⟩ := bnd_some hm
  refine g_callVi (As := [vI l3]) (rest := []) C lk_X7_94 (k_X2_hasArrow X.2.1 G hl hG fu 1 l3 M r5 ((hG _ hk0).2 0 2 1 0 rfl) hr5) (by decide) rfl rfl rfl (Nat.le_of_ble_eq_true rfl) ⟨Nat.le_of_ble_eq_true rfl, Nat.le_of_ble_eq_true rfl⟩ dX7_goesOn_5 ?_
  refine g_if_eq (tgt := 23) C dX7_goesOn_8 (by decide) (fun h8 => ?_) (fun h8 => ?_)
  · have hm := ift hm h8
    refine g_iconst (v := 0) C dX7_goesOn_23 rfl ?_
    obtain rfl := Option.some.inj hm
    exact g_zret C (Or.inl rfl) dX7_goesOn_24
  · have hm := ife hm h8
    refine g_aload_n C 0 dX7_goesOn_11 rfl rfl ?_
    refine g_getr (k := 0) (k' := 1) C (by decide) kf_X7_12 rfl rfl dX7_goesOn_12 ?_
    refine g_iload_n C 3 dX7_goesOn_15 rfl rfl ?_
    obtain ⟨r16, hr16, hm⟩ := bnd_some hm
    refine g_callVi (As := [vI l3]) (rest := []) C lk_X7_100 (k_X2_from X.2.1 G hl hG fu 1 l3 r5.2 r16 ((hG _ hk0).2 0 2 1 0 rfl) hr16) (by decide) rfl rfl rfl (Nat.le_of_ble_eq_true rfl) ⟨Nat.le_of_ble_eq_true rfl, Nat.le_of_ble_eq_true rfl⟩ dX7_goesOn_16 ?_
    refine g_iload_n C 2 dX7_goesOn_19 rfl rfl ?_
    refine g_icmp_eq (tgt := 25) C dX7_goesOn_20 (by decide) (fun h20 => ?_) (fun h20 => ?_)
    · have hm := ift hm h20
      refine g_aload_n C 0 dX7_goesOn_25 rfl rfl ?_
      refine g_getr (k := 0) (k' := 1) C (by decide) kf_X7_21 rfl rfl dX7_goesOn_26 ?_
      refine g_iload_n C 1 dX7_goesOn_29 rfl rfl ?_
      refine g_iload_n C 3 dX7_goesOn_30 rfl rfl ?_
      obtain ⟨r31, hr31, hm⟩ := bnd_some hm
      refine g_callVv (As := [vI l1, vI l3]) (rest := []) C lk_X7_105 (k_X0_lengthen X.2.1 G hl hG fu 1 l1 l3 r16.2 r31 ((hG _ hk0).2 1 0 1 0 rfl) hr31) (by decide) rfl rfl rfl (Nat.le_of_ble_eq_true rfl) ⟨Nat.le_of_ble_eq_true rfl, Nat.le_of_ble_eq_true rfl⟩ dX7_goesOn_31 ?_
      refine g_aload_n C 0 dX7_goesOn_34 rfl rfl ?_
      refine g_aload_n C 0 dX7_goesOn_35 rfl rfl ?_
      refine g_getr (k := 0) (k' := 1) C (by decide) kf_X7_12 rfl rfl dX7_goesOn_36 ?_
      refine g_iload_n C 3 dX7_goesOn_39 rfl rfl ?_
      obtain ⟨r40, hr40, hm⟩ := bnd_some hm
      refine g_callVi (As := [vI l3]) (rest := [vR 7 0]) C lk_X7_109 (k_X2_to X.2.1 G hl hG fu 1 l3 r31 r40 ((hG _ hk0).2 0 2 1 0 rfl) hr40) (by decide) rfl rfl rfl (Nat.le_of_ble_eq_true rfl) ⟨Nat.le_of_ble_eq_true rfl, Nat.le_of_ble_eq_true rfl⟩ dX7_goesOn_40 ?_
      refine g_puti C (by decide) kf_X7_32 rfl rfl rfl dX7_goesOn_43 ?_
      refine g_iconst (v := 1) C dX7_goesOn_46 rfl ?_
      obtain rfl := Option.some.inj hm
      exact g_zret C (Or.inr rfl) dX7_goesOn_47
    · have hm := ife hm h20
      refine g_iconst (v := 0) C dX7_goesOn_23 rfl ?_
      obtain rfl := Option.some.inj hm
      exact g_zret C (Or.inl rfl) dX7_goesOn_24
def f_X7_beginsCell (fu : Nat) (l1 : Int32) (M : Mem) : Option (Int32 × Mem) :=
  (f_X2_hasArrow fu 1 l1 M).bind (fun r5 => if r5.1 = 0 then some ((0 : Int32), r5.2) else (f_X0_total fu 1 r5.2).bind (fun r15 => if r15.1 < (10 : Int32) then (f_X2_from fu 1 l1 r15.2).bind (fun r31 => (f_X0_open fu 1 ((mI r31.2 7 0 3 r31.1).1 7 0 3) (mI r31.2 7 0 3 r31.1)).bind (fun r45 => (f_X7_goesOn fu (0 : Int32) ((mI r45.2 7 0 2 (3 : Int32)).1 7 0 3) l1 (mI r45.2 7 0 2 (3 : Int32))).bind (fun r61 => if r61.1 = 0 ∨ r61.1 = 1 then some (r61.1, r61.2) else none))) else some ((0 : Int32), r15.2)))
set_option maxHeartbeats 4000000 in
set_option maxRecDepth 100000 in
theorem k_X7_beginsCell (l : Launch) (G : GE) (hl : l.stackTraces = false) (hG : GOK G) (fu : Nat) (l1 : Int32) (M : Mem) (res : Int32 × Mem) (hk0 : (7, 0) ∈ gids G) (hm : f_X7_beginsCell fu l1 M = some res) : CT l G yX7_beginsCell cX7_beginsCell 2 (some .boolean) 3 [vR 7 0, vI l1] M (.inl (some (vI res.1))) res.2 := by
  refine ct_of [(0, vR 7 0), (1, vI l1)] (by decide +kernel) hl hG (Nat.le_of_ble_eq_true rfl) rfl (List.forall_mem_cons.mpr ⟨Or.inl hk0, List.forall_mem_cons.mpr ⟨trivial, fun _ h => nomatch h⟩⟩) (List.forall_mem_cons.mpr ⟨Or.inl hk0, List.forall_mem_cons.mpr ⟨trivial, fun _ h => nomatch h⟩⟩) (fun X hX C => ?_)
  subst hX
  have Cl := C
  unfold f_X7_beginsCell at hm
  refine g_aload_n C 0 dX7_beginsCell_0 rfl rfl ?_
  refine g_getr (k := 0) (k' := 1) C (by decide) kf_X7_12 rfl rfl dX7_beginsCell_1 ?_
  refine g_iload_n C 1 dX7_beginsCell_4 rfl rfl ?_
  obtain ⟨r5, hr5, hm⟩ := bnd_some hm
  refine g_callVi (As := [vI l1]) (rest := []) C lk_X7_94 (k_X2_hasArrow X.2.1 G hl hG fu 1 l1 M r5 ((hG _ hk0).2 0 2 1 0 rfl) hr5) (by decide) rfl rfl rfl (Nat.le_of_ble_eq_true rfl) ⟨Nat.le_of_ble_eq_true rfl, Nat.le_of_ble_eq_true rfl⟩ dX7_beginsCell_5 ?_
  refine g_if_eq (tgt := 23) C dX7_beginsCell_8 (by decide) (fun h8 => ?_) (fun h8 => ?_)
  · have hm := ift hm h8
    refine g_iconst (v := 0) C dX7_beginsCell_23 rfl ?_
    obtain rfl := Option.some.inj hm
    exact g_zret C (Or.inl rfl) dX7_beginsCell_24
  · have hm := ife hm h8
    refine g_aload_n C 0 dX7_beginsCell_11 rfl rfl ?_
    refine g_getr (k := 0) (k' := 1) C (by decide) kf_X7_21 rfl rfl dX7_beginsCell_12 ?_
    obtain ⟨r15, hr15, hm⟩ := bnd_some hm
    refine g_callVi (As := []) (rest := []) C lk_X7_97 (k_X0_total X.2.1 G hl hG fu 1 r5.2 r15 ((hG _ hk0).2 1 0 1 0 rfl) hr15) (by decide) rfl rfl rfl (Nat.le_of_ble_eq_true rfl) ⟨Nat.le_of_ble_eq_true rfl, Nat.le_of_ble_eq_true rfl⟩ dX7_beginsCell_15 ?_
    refine g_bipush (v := 10) C dX7_beginsCell_18 rfl ?_
    refine g_icmp_lt (tgt := 25) C dX7_beginsCell_20 (by decide) (fun h20 => ?_) (fun h20 => ?_)
    · have hm := ift hm h20
      refine g_aload_n C 0 dX7_beginsCell_25 rfl rfl ?_
      refine g_aload_n C 0 dX7_beginsCell_26 rfl rfl ?_
      refine g_getr (k := 0) (k' := 1) C (by decide) kf_X7_12 rfl rfl dX7_beginsCell_27 ?_
      refine g_iload_n C 1 dX7_beginsCell_30 rfl rfl ?_
      obtain ⟨r31, hr31, hm⟩ := bnd_some hm
      refine g_callVi (As := [vI l1]) (rest := [vR 7 0]) C lk_X7_100 (k_X2_from X.2.1 G hl hG fu 1 l1 r15.2 r31 ((hG _ hk0).2 0 2 1 0 rfl) hr31) (by decide) rfl rfl rfl (Nat.le_of_ble_eq_true rfl) ⟨Nat.le_of_ble_eq_true rfl, Nat.le_of_ble_eq_true rfl⟩ dX7_beginsCell_31 ?_
      refine g_puti C (by decide) kf_X7_29 rfl rfl rfl dX7_beginsCell_34 ?_
      refine g_aload_n C 0 dX7_beginsCell_37 rfl rfl ?_
      refine g_getr (k := 0) (k' := 1) C (by decide) kf_X7_21 rfl rfl dX7_beginsCell_38 ?_
      refine g_aload_n C 0 dX7_beginsCell_41 rfl rfl ?_
      refine g_geti (k := 0) C (by decide) kf_X7_29 rfl dX7_beginsCell_42 ?_
      obtain ⟨r45, hr45, hm⟩ := bnd_some hm
      refine g_callVi (As := [vI ((mI r31.2 7 0 3 r31.1).1 7 0 3)]) (rest := []) C lk_X7_102 (k_X0_open X.2.1 G hl hG fu 1 ((mI r31.2 7 0 3 r31.1).1 7 0 3) (mI r31.2 7 0 3 r31.1) r45 ((hG _ hk0).2 1 0 1 0 rfl) hr45) (by decide) rfl rfl rfl (Nat.le_of_ble_eq_true rfl) ⟨Nat.le_of_ble_eq_true rfl, Nat.le_of_ble_eq_true rfl⟩ dX7_beginsCell_45 ?_
      refine g_pop C dX7_beginsCell_48 rfl ?_
      refine g_aload_n C 0 dX7_beginsCell_49 rfl rfl ?_
      refine g_iconst (v := 3) C dX7_beginsCell_50 rfl ?_
      refine g_puti C (by decide) kf_X7_25 rfl rfl rfl dX7_beginsCell_51 ?_
      refine g_aload_n C 0 dX7_beginsCell_54 rfl rfl ?_
      refine g_iconst (v := 0) C dX7_beginsCell_55 rfl ?_
      refine g_aload_n C 0 dX7_beginsCell_56 rfl rfl ?_
      refine g_geti (k := 0) C (by decide) kf_X7_29 rfl dX7_beginsCell_57 ?_
      refine g_iload_n C 1 dX7_beginsCell_60 rfl rfl ?_
      obtain ⟨r61, hr61, hm⟩ := bnd_some hm
      refine g_callVi (As := [vI (0 : Int32), vI ((mI r45.2 7 0 2 (3 : Int32)).1 7 0 3), vI l1]) (rest := []) C lk_X7_71 (k_X7_goesOn X.2.1 G hl hG fu (0 : Int32) ((mI r45.2 7 0 2 (3 : Int32)).1 7 0 3) l1 (mI r45.2 7 0 2 (3 : Int32)) r61 hk0 hr61) (by decide) rfl rfl rfl (Nat.le_of_ble_eq_true rfl) ⟨Nat.le_of_ble_eq_true rfl, Nat.le_of_ble_eq_true rfl⟩ dX7_beginsCell_61 ?_
      obtain ⟨hz64, hm⟩ := ifn hm
      obtain rfl := Option.some.inj hm
      exact g_zret C hz64 dX7_beginsCell_64
    · have hm := ife hm h20
      refine g_iconst (v := 0) C dX7_beginsCell_23 rfl ?_
      obtain rfl := Option.some.inj hm
      exact g_zret C (Or.inl rfl) dX7_beginsCell_24
def f_X7_endsArrow (fu : Nat) (l1 : Int32) (M : Mem) : Option (Int32 × Mem) :=
  if l1 ≤ (M.1 7 0 3) then some ((0 : Int32), M) else (f_X2_hasObject fu 1 l1 M).bind (fun r13 => if r13.1 = 0 then some ((0 : Int32), r13.2) else (f_X2_join fu 1 (r13.2.1 7 0 3) l1 r13.2).bind (fun r30 => some ((1 : Int32), (mI r30.2 7 0 2 (2 : Int32)))))
set_option maxHeartbeats 4000000 in
set_option maxRecDepth 100000 in
theorem k_X7_endsArrow (l : Launch) (G : GE) (hl : l.stackTraces = false) (hG : GOK G) (fu : Nat) (l1 : Int32) (M : Mem) (res : Int32 × Mem) (hk0 : (7, 0) ∈ gids G) (hm : f_X7_endsArrow fu l1 M = some res) : CT l G yX7_endsArrow cX7_endsArrow 2 (some .boolean) 2 [vR 7 0, vI l1] M (.inl (some (vI res.1))) res.2 := by
  refine ct_of [(0, vR 7 0), (1, vI l1)] (by decide +kernel) hl hG (Nat.le_of_ble_eq_true rfl) rfl (List.forall_mem_cons.mpr ⟨Or.inl hk0, List.forall_mem_cons.mpr ⟨trivial, fun _ h => nomatch h⟩⟩) (List.forall_mem_cons.mpr ⟨Or.inl hk0, List.forall_mem_cons.mpr ⟨trivial, fun _ h => nomatch h⟩⟩) (fun X hX C => ?_)
  subst hX
  have Cl := C
  unfold f_X7_endsArrow at hm
  refine g_iload_n C 1 dX7_endsArrow_0 rfl rfl ?_
  refine g_aload_n C 0 dX7_endsArrow_1 rfl rfl ?_
  refine g_geti (k := 0) C (by decide) kf_X7_29 rfl dX7_endsArrow_2 ?_
  refine g_icmp_le (tgt := 19) C dX7_endsArrow_5 (by decide) (fun h5 => ?_) (fun h5 => ?_)
  · have hm := ift hm h5
    refine g_iconst (v := 0) C dX7_endsArrow_19 rfl ?_
    obtain rfl := Option.some.inj hm
    exact g_zret C (Or.inl rfl) dX7_endsArrow_20
  · have hm := ife hm h5
    refine g_aload_n C 0 dX7_endsArrow_8 rfl rfl ?_
    refine g_getr (k := 0) (k' := 1) C (by decide) kf_X7_12 rfl rfl dX7_endsArrow_9 ?_
    refine g_iload_n C 1 dX7_endsArrow_12 rfl rfl ?_
    obtain ⟨r13, hr13, hm⟩ := bnd_some hm
    refine g_callVi (As := [vI l1]) (rest := []) C lk_X7_87 (k_X2_hasObject X.2.1 G hl hG fu 1 l1 M r13 ((hG _ hk0).2 0 2 1 0 rfl) hr13) (by decide) rfl rfl rfl (Nat.le_of_ble_eq_true rfl) ⟨Nat.le_of_ble_eq_true rfl, Nat.le_of_ble_eq_true rfl⟩ dX7_endsArrow_13 ?_
    refine g_if_ne (tgt := 21) C dX7_endsArrow_16 (by decide) (fun h16 => ?_) (fun h16 => ?_)
    · have hm := ife hm h16
      refine g_aload_n C 0 dX7_endsArrow_21 rfl rfl ?_
      refine g_getr (k := 0) (k' := 1) C (by decide) kf_X7_12 rfl rfl dX7_endsArrow_22 ?_
      refine g_aload_n C 0 dX7_endsArrow_25 rfl rfl ?_
      refine g_geti (k := 0) C (by decide) kf_X7_29 rfl dX7_endsArrow_26 ?_
      refine g_iload_n C 1 dX7_endsArrow_29 rfl rfl ?_
      obtain ⟨r30, hr30, hm⟩ := bnd_some hm
      refine g_callVi (As := [vI (r13.2.1 7 0 3), vI l1]) (rest := []) C lk_X7_90 (k_X2_join X.2.1 G hl hG fu 1 (r13.2.1 7 0 3) l1 r13.2 r30 ((hG _ hk0).2 0 2 1 0 rfl) hr30) (by decide) rfl rfl rfl (Nat.le_of_ble_eq_true rfl) ⟨Nat.le_of_ble_eq_true rfl, Nat.le_of_ble_eq_true rfl⟩ dX7_endsArrow_30 ?_
      refine g_pop C dX7_endsArrow_33 rfl ?_
      refine g_aload_n C 0 dX7_endsArrow_34 rfl rfl ?_
      refine g_iconst (v := 2) C dX7_endsArrow_35 rfl ?_
      refine g_puti C (by decide) kf_X7_25 rfl rfl rfl dX7_endsArrow_36 ?_
      refine g_iconst (v := 1) C dX7_endsArrow_39 rfl ?_
      obtain rfl := Option.some.inj hm
      exact g_zret C (Or.inr rfl) dX7_endsArrow_40
    · have hm := ift hm h16
      refine g_iconst (v := 0) C dX7_endsArrow_19 rfl ?_
      obtain rfl := Option.some.inj hm
      exact g_zret C (Or.inl rfl) dX7_endsArrow_20
def f_X7_isComplete (fu : Nat) (M : Mem) : Option (Int32 × Mem) :=
  if (M.1 7 0 2) = (2 : Int32) then some ((1 : Int32), M) else if (M.1 7 0 2) = (5 : Int32) then if (M.1 7 0 4) = (M.1 7 0 5) then some ((1 : Int32), M) else some ((0 : Int32), M) else some ((0 : Int32), M)
set_option maxHeartbeats 4000000 in
set_option maxRecDepth 100000 in
theorem k_X7_isComplete (l : Launch) (G : GE) (hl : l.stackTraces = false) (hG : GOK G) (fu : Nat)  (M : Mem) (res : Int32 × Mem) (hk0 : (7, 0) ∈ gids G) (hm : f_X7_isComplete fu  M = some res) : CT l G yX7_isComplete cX7_isComplete 1 (some .boolean) 0 [vR 7 0] M (.inl (some (vI res.1))) res.2 := by
  refine ct_of [(0, vR 7 0)] (by decide +kernel) hl hG (Nat.le_of_ble_eq_true rfl) rfl (List.forall_mem_cons.mpr ⟨Or.inl hk0, fun _ h => nomatch h⟩) (List.forall_mem_cons.mpr ⟨Or.inl hk0, fun _ h => nomatch h⟩) (fun X hX C => ?_)
  subst hX
  have Cl := C
  unfold f_X7_isComplete at hm
  refine g_aload_n C 0 dX7_isComplete_0 rfl rfl ?_
  refine g_geti (k := 0) C (by decide) kf_X7_25 rfl dX7_isComplete_1 ?_
  refine g_iconst (v := 2) C dX7_isComplete_4 rfl ?_
  refine g_icmp_eq (tgt := 27) C dX7_isComplete_5 (by decide) (fun h5 => ?_) (fun h5 => ?_)
  · have hm := ift hm h5
    refine g_iconst (v := 1) C dX7_isComplete_27 rfl ?_
    refine g_goto (tgt := 32) C dX7_isComplete_28 (by decide) ?_
    obtain rfl := Option.some.inj hm
    exact g_zret C (Or.inr rfl) dX7_isComplete_32
  · have hm := ife hm h5
    refine g_aload_n C 0 dX7_isComplete_8 rfl rfl ?_
    refine g_geti (k := 0) C (by decide) kf_X7_25 rfl dX7_isComplete_9 ?_
    refine g_iconst (v := 5) C dX7_isComplete_12 rfl ?_
    refine g_icmp_ne (tgt := 31) C dX7_isComplete_13 (by decide) (fun h13 => ?_) (fun h13 => ?_)
    · have hm := ife hm h13
      refine g_iconst (v := 0) C dX7_isComplete_31 rfl ?_
      obtain rfl := Option.some.inj hm
      exact g_zret C (Or.inl rfl) dX7_isComplete_32
    · have hm := ift hm h13
      refine g_aload_n C 0 dX7_isComplete_16 rfl rfl ?_
      refine g_geti (k := 0) C (by decide) kf_X7_32 rfl dX7_isComplete_17 ?_
      refine g_aload_n C 0 dX7_isComplete_20 rfl rfl ?_
      refine g_geti (k := 0) C (by decide) kf_X7_35 rfl dX7_isComplete_21 ?_
      refine g_icmp_ne (tgt := 31) C dX7_isComplete_24 (by decide) (fun h24 => ?_) (fun h24 => ?_)
      · have hm := ife hm h24
        refine g_iconst (v := 0) C dX7_isComplete_31 rfl ?_
        obtain rfl := Option.some.inj hm
        exact g_zret C (Or.inl rfl) dX7_isComplete_32
      · have hm := ift hm h24
        refine g_iconst (v := 1) C dX7_isComplete_27 rfl ?_
        refine g_goto (tgt := 32) C dX7_isComplete_28 (by decide) ?_
        obtain rfl := Option.some.inj hm
        exact g_zret C (Or.inr rfl) dX7_isComplete_32
def f_X7_endsItem (fu : Nat) (l1 : Int32) (M : Mem) : Option (Int32 × Mem) :=
  if l1 = (59 : Int32) then (f_X7_isComplete fu  M).bind (fun r7 => if r7.1 = 0 then some ((0 : Int32), r7.2) else some ((1 : Int32), (mI r7.2 7 0 2 (0 : Int32)))) else some ((0 : Int32), M)
set_option maxHeartbeats 4000000 in
set_option maxRecDepth 100000 in
theorem k_X7_endsItem (l : Launch) (G : GE) (hl : l.stackTraces = false) (hG : GOK G) (fu : Nat) (l1 : Int32) (M : Mem) (res : Int32 × Mem) (hk0 : (7, 0) ∈ gids G) (hm : f_X7_endsItem fu l1 M = some res) : CT l G yX7_endsItem cX7_endsItem 2 (some .boolean) 1 [vR 7 0, vI l1] M (.inl (some (vI res.1))) res.2 := by
  refine ct_of [(0, vR 7 0), (1, vI l1)] (by decide +kernel) hl hG (Nat.le_of_ble_eq_true rfl) rfl (List.forall_mem_cons.mpr ⟨Or.inl hk0, List.forall_mem_cons.mpr ⟨trivial, fun _ h => nomatch h⟩⟩) (List.forall_mem_cons.mpr ⟨Or.inl hk0, List.forall_mem_cons.mpr ⟨trivial, fun _ h => nomatch h⟩⟩) (fun X hX C => ?_)
  subst hX
  have Cl := C
  unfold f_X7_endsItem at hm
  refine g_iload_n C 1 dX7_endsItem_0 rfl rfl ?_
  refine g_bipush (v := 59) C dX7_endsItem_1 rfl ?_
  refine g_icmp_ne (tgt := 13) C dX7_endsItem_3 (by decide) (fun h3 => ?_) (fun h3 => ?_)
  · have hm := ife hm h3
    refine g_iconst (v := 0) C dX7_endsItem_13 rfl ?_
    obtain rfl := Option.some.inj hm
    exact g_zret C (Or.inl rfl) dX7_endsItem_14
  · have hm := ift hm h3
    refine g_aload_n C 0 dX7_endsItem_6 rfl rfl ?_
    obtain ⟨r7, hr7, hm⟩ := bnd_some hm
    refine g_callVi (As := []) (rest := []) C lk_X7_112 (k_X7_isComplete X.2.1 G hl hG fu  M r7 hk0 hr7) (by decide) rfl rfl rfl (Nat.le_of_ble_eq_true rfl) ⟨Nat.le_of_ble_eq_true rfl, Nat.le_of_ble_eq_true rfl⟩ dX7_endsItem_7 ?_
    refine g_if_ne (tgt := 15) C dX7_endsItem_10 (by decide) (fun h10 => ?_) (fun h10 => ?_)
    · have hm := ife hm h10
      refine g_aload_n C 0 dX7_endsItem_15 rfl rfl ?_
      refine g_iconst (v := 0) C dX7_endsItem_16 rfl ?_
      refine g_puti C (by decide) kf_X7_25 rfl rfl rfl dX7_endsItem_17 ?_
      refine g_iconst (v := 1) C dX7_endsItem_20 rfl ?_
      obtain rfl := Option.some.inj hm
      exact g_zret C (Or.inr rfl) dX7_endsItem_21
    · have hm := ift hm h10
      refine g_iconst (v := 0) C dX7_endsItem_13 rfl ?_
      obtain rfl := Option.some.inj hm
      exact g_zret C (Or.inl rfl) dX7_endsItem_14
def f_X7_endsFirst (fu : Nat) (l1 : Int32) (M : Mem) : Option (Int32 × Mem) :=
  if l1 = (61 : Int32) then some ((1 : Int32), (mI (mI M 7 0 5 (M.1 7 0 4)) 7 0 2 (4 : Int32))) else some ((0 : Int32), M)
set_option maxHeartbeats 4000000 in
set_option maxRecDepth 100000 in
theorem k_X7_endsFirst (l : Launch) (G : GE) (hl : l.stackTraces = false) (hG : GOK G) (fu : Nat) (l1 : Int32) (M : Mem) (res : Int32 × Mem) (hk0 : (7, 0) ∈ gids G) (hm : f_X7_endsFirst fu l1 M = some res) : CT l G yX7_endsFirst cX7_endsFirst 2 (some .boolean) 0 [vR 7 0, vI l1] M (.inl (some (vI res.1))) res.2 := by
  refine ct_of [(0, vR 7 0), (1, vI l1)] (by decide +kernel) hl hG (Nat.le_of_ble_eq_true rfl) rfl (List.forall_mem_cons.mpr ⟨Or.inl hk0, List.forall_mem_cons.mpr ⟨trivial, fun _ h => nomatch h⟩⟩) (List.forall_mem_cons.mpr ⟨Or.inl hk0, List.forall_mem_cons.mpr ⟨trivial, fun _ h => nomatch h⟩⟩) (fun X hX C => ?_)
  subst hX
  have Cl := C
  unfold f_X7_endsFirst at hm
  refine g_iload_n C 1 dX7_endsFirst_0 rfl rfl ?_
  refine g_bipush (v := 61) C dX7_endsFirst_1 rfl ?_
  refine g_icmp_eq (tgt := 8) C dX7_endsFirst_3 (by decide) (fun h3 => ?_) (fun h3 => ?_)
  · have hm := ift hm h3
    refine g_aload_n C 0 dX7_endsFirst_8 rfl rfl ?_
    refine g_aload_n C 0 dX7_endsFirst_9 rfl rfl ?_
    refine g_geti (k := 0) C (by decide) kf_X7_32 rfl dX7_endsFirst_10 ?_
    refine g_puti C (by decide) kf_X7_35 rfl rfl rfl dX7_endsFirst_13 ?_
    refine g_aload_n C 0 dX7_endsFirst_16 rfl rfl ?_
    refine g_iconst (v := 4) C dX7_endsFirst_17 rfl ?_
    refine g_puti C (by decide) kf_X7_25 rfl rfl rfl dX7_endsFirst_18 ?_
    refine g_iconst (v := 1) C dX7_endsFirst_21 rfl ?_
    obtain rfl := Option.some.inj hm
    exact g_zret C (Or.inr rfl) dX7_endsFirst_22
  · have hm := ife hm h3
    refine g_iconst (v := 0) C dX7_endsFirst_6 rfl ?_
    obtain rfl := Option.some.inj hm
    exact g_zret C (Or.inl rfl) dX7_endsFirst_7
def f_X7_beginsSecond (fu : Nat) (l1 : Int32) (M : Mem) : Option (Int32 × Mem) :=
  (f_X7_goesOn fu (1 : Int32) (M.1 7 0 3) l1 M).bind (fun r7 => if r7.1 = 0 then some ((0 : Int32), r7.2) else some ((1 : Int32), (mI r7.2 7 0 2 (5 : Int32))))
set_option maxHeartbeats 4000000 in
set_option maxRecDepth 100000 in
theorem k_X7_beginsSecond (l : Launch) (G : GE) (hl : l.stackTraces = false) (hG : GOK G) (fu : Nat) (l1 : Int32) (M : Mem) (res : Int32 × Mem) (hk0 : (7, 0) ∈ gids G) (hm : f_X7_beginsSecond fu l1 M = some res) : CT l G yX7_beginsSecond cX7_beginsSecond 2 (some .boolean) 3 [vR 7 0, vI l1] M (.inl (some (vI res.1))) res.2 := by
  refine ct_of [(0, vR 7 0), (1, vI l1)] (by decide +kernel) hl hG (Nat.le_of_ble_eq_true rfl) rfl (List.forall_mem_cons.mpr ⟨Or.inl hk0, List.forall_mem_cons.mpr ⟨trivial, fun _ h => nomatch h⟩⟩) (List.forall_mem_cons.mpr ⟨Or.inl hk0, List.forall_mem_cons.mpr ⟨trivial, fun _ h => nomatch h⟩⟩) (fun X hX C => ?_)
  subst hX
  have Cl := C
  unfold f_X7_beginsSecond at hm
  refine g_aload_n C 0 dX7_beginsSecond_0 rfl rfl ?_
  refine g_iconst (v := 1) C dX7_beginsSecond_1 rfl ?_
  refine g_aload_n C 0 dX7_beginsSecond_2 rfl rfl ?_
  refine g_geti (k := 0) C (by decide) kf_X7_29 rfl dX7_beginsSecond_3 ?_
  refine g_iload_n C 1 dX7_beginsSecond_6 rfl rfl ?_
  obtain ⟨r7, hr7, hm⟩ := bnd_some hm
  refine g_callVi (As := [vI (1 : Int32), vI (M.1 7 0 3), vI l1]) (rest := []) C lk_X7_71 (k_X7_goesOn X.2.1 G hl hG fu (1 : Int32) (M.1 7 0 3) l1 M r7 hk0 hr7) (by decide) rfl rfl rfl (Nat.le_of_ble_eq_true rfl) ⟨Nat.le_of_ble_eq_true rfl, Nat.le_of_ble_eq_true rfl⟩ dX7_beginsSecond_7 ?_
  refine g_if_ne (tgt := 15) C dX7_beginsSecond_10 (by decide) (fun h10 => ?_) (fun h10 => ?_)
  · have hm := ife hm h10
    refine g_aload_n C 0 dX7_beginsSecond_15 rfl rfl ?_
    refine g_iconst (v := 5) C dX7_beginsSecond_16 rfl ?_
    refine g_puti C (by decide) kf_X7_25 rfl rfl rfl dX7_beginsSecond_17 ?_
    refine g_iconst (v := 1) C dX7_beginsSecond_20 rfl ?_
    obtain rfl := Option.some.inj hm
    exact g_zret C (Or.inr rfl) dX7_beginsSecond_21
  · have hm := ift hm h10
    refine g_iconst (v := 0) C dX7_beginsSecond_13 rfl ?_
    obtain rfl := Option.some.inj hm
    exact g_zret C (Or.inl rfl) dX7_beginsSecond_14
def f_X7_accepts (fu : Nat) (l1 : Int32) (M : Mem) : Option (Int32 × Mem) :=
  if (M.1 7 0 2) = (0 : Int32) then (f_X7_beginsArrow fu (l1 - (48 : Int32)) M).bind (fun r45 => if r45.1 = 0 then (f_X7_beginsCell fu (l1 - (97 : Int32)) r45.2).bind (fun r56 => if r56.1 = 0 then some ((0 : Int32), r56.2) else some ((1 : Int32), r56.2)) else some ((1 : Int32), r45.2)) else if (M.1 7 0 2) = (1 : Int32) then (f_X7_endsArrow fu (l1 - (48 : Int32)) M).bind (fun r73 => if r73.1 = 0 ∨ r73.1 = 1 then some (r73.1, r73.2) else none) else if (M.1 7 0 2) = (2 : Int32) then (f_X7_endsItem fu l1 M).bind (fun r79 => if r79.1 = 0 ∨ r79.1 = 1 then some (r79.1, r79.2) else none) else if (M.1 7 0 2) = (3 : Int32) then (f_X7_goesOn fu (0 : Int32) (M.1 7 0 4) (l1 - (97 : Int32)) M).bind (fun r93 => if r93.1 = 0 then (f_X7_endsFirst fu l1 r93.2).bind (fun r101 => if r101.1 = 0 then some ((0 : Int32), r101.2) else some ((1 : Int32), r101.2)) else some ((1 : Int32), r93.2)) else if (M.1 7 0 2) = (4 : Int32) then (f_X7_beginsSecond fu (l1 - (97 : Int32)) M).bind (fun r118 => if r118.1 = 0 ∨ r118.1 = 1 then some (r118.1, r118.2) else none) else (f_X7_goesOn fu (1 : Int32) (M.1 7 0 4) (l1 - (97 : Int32)) M).bind (fun r132 => if r132.1 = 0 then (f_X7_endsItem fu l1 r132.2).bind (fun r140 => if r140.1 = 0 then some ((0 : Int32), r140.2) else some ((1 : Int32), r140.2)) else some ((1 : Int32), r132.2))
set_option maxHeartbeats 4000000 in
set_option maxRecDepth 100000 in
theorem k_X7_accepts (l : Launch) (G : GE) (hl : l.stackTraces = false) (hG : GOK G) (fu : Nat) (l1 : Int32) (M : Mem) (res : Int32 × Mem) (hk0 : (7, 0) ∈ gids G) (hm : f_X7_accepts fu l1 M = some res) : CT l G yX7_accepts cX7_accepts 2 (some .boolean) 4 [vR 7 0, vI l1] M (.inl (some (vI res.1))) res.2 := by
  refine ct_of [(0, vR 7 0), (1, vI l1)] (by decide +kernel) hl hG (Nat.le_of_ble_eq_true rfl) rfl (List.forall_mem_cons.mpr ⟨Or.inl hk0, List.forall_mem_cons.mpr ⟨trivial, fun _ h => nomatch h⟩⟩) (List.forall_mem_cons.mpr ⟨Or.inl hk0, List.forall_mem_cons.mpr ⟨trivial, fun _ h => nomatch h⟩⟩) (fun X hX C => ?_)
  subst hX
  have Cl := C
  unfold f_X7_accepts at hm
  refine g_aload_n C 0 dX7_accepts_0 rfl rfl ?_
  refine g_geti (k := 0) C (by decide) kf_X7_25 rfl dX7_accepts_1 ?_
  by_cases h4_0 : (M.1 7 0 2) = (0 : Int32)
  · have hm := ift hm h4_0
    refine g_tabIn (off := 36) (tgt := 40) C dX7_accepts_4 (by rw [h4_0]; decide) (by rw [h4_0]; decide) (by rw [h4_0]; rfl) (by decide) ?_
    refine g_aload_n C 0 dX7_accepts_40 rfl rfl ?_
    refine g_iload_n C 1 dX7_accepts_41 rfl rfl ?_
    refine g_bipush (v := 48) C dX7_accepts_42 rfl ?_
    refine g_isub C dX7_accepts_44 ?_
    obtain ⟨r45, hr45, hm⟩ := bnd_some hm
    refine g_callVi (As := [vI (l1 - (48 : Int32))]) (rest := []) C lk_X7_59 (k_X7_beginsArrow X.2.1 G hl hG fu (l1 - (48 : Int32)) M r45 hk0 hr45) (by decide) rfl rfl rfl (Nat.le_of_ble_eq_true rfl) ⟨Nat.le_of_ble_eq_true rfl, Nat.le_of_ble_eq_true rfl⟩ dX7_accepts_45 ?_
    refine g_if_ne (tgt := 62) C dX7_accepts_48 (by decide) (fun h48 => ?_) (fun h48 => ?_)
    · have hm := ife hm h48
      refine g_iconst (v := 1) C dX7_accepts_62 rfl ?_
      refine g_goto (tgt := 67) C dX7_accepts_63 (by decide) ?_
      obtain rfl := Option.some.inj hm
      exact g_zret C (Or.inr rfl) dX7_accepts_67
    · have hm := ift hm h48
      refine g_aload_n C 0 dX7_accepts_51 rfl rfl ?_
      refine g_iload_n C 1 dX7_accepts_52 rfl rfl ?_
      refine g_bipush (v := 97) C dX7_accepts_53 rfl ?_
      refine g_isub C dX7_accepts_55 ?_
      obtain ⟨r56, hr56, hm⟩ := bnd_some hm
      refine g_callVi (As := [vI (l1 - (97 : Int32))]) (rest := []) C lk_X7_62 (k_X7_beginsCell X.2.1 G hl hG fu (l1 - (97 : Int32)) r45.2 r56 hk0 hr56) (by decide) rfl rfl rfl (Nat.le_of_ble_eq_true rfl) ⟨Nat.le_of_ble_eq_true rfl, Nat.le_of_ble_eq_true rfl⟩ dX7_accepts_56 ?_
      refine g_if_eq (tgt := 66) C dX7_accepts_59 (by decide) (fun h59 => ?_) (fun h59 => ?_)
      · have hm := ift hm h59
        refine g_iconst (v := 0) C dX7_accepts_66 rfl ?_
        obtain rfl := Option.some.inj hm
        exact g_zret C (Or.inl rfl) dX7_accepts_67
      · have hm := ife hm h59
        refine g_iconst (v := 1) C dX7_accepts_62 rfl ?_
        refine g_goto (tgt := 67) C dX7_accepts_63 (by decide) ?_
        obtain rfl := Option.some.inj hm
        exact g_zret C (Or.inr rfl) dX7_accepts_67
  have hm := ife hm h4_0
  by_cases h4_1 : (M.1 7 0 2) = (1 : Int32)
  · have hm := ift hm h4_1
    refine g_tabIn (off := 64) (tgt := 68) C dX7_accepts_4 (by rw [h4_1]; decide) (by rw [h4_1]; decide) (by rw [h4_1]; rfl) (by decide) ?_
    refine g_aload_n C 0 dX7_accepts_68 rfl rfl ?_
    refine g_iload_n C 1 dX7_accepts_69 rfl rfl ?_
    refine g_bipush (v := 48) C dX7_accepts_70 rfl ?_
    refine g_isub C dX7_accepts_72 ?_
    obtain ⟨r73, hr73, hm⟩ := bnd_some hm
    refine g_callVi (As := [vI (l1 - (48 : Int32))]) (rest := []) C lk_X7_65 (k_X7_endsArrow X.2.1 G hl hG fu (l1 - (48 : Int32)) M r73 hk0 hr73) (by decide) rfl rfl rfl (Nat.le_of_ble_eq_true rfl) ⟨Nat.le_of_ble_eq_true rfl, Nat.le_of_ble_eq_true rfl⟩ dX7_accepts_73 ?_
    obtain ⟨hz76, hm⟩ := ifn hm
    obtain rfl := Option.some.inj hm
    exact g_zret C hz76 dX7_accepts_76
  have hm := ife hm h4_1
  by_cases h4_2 : (M.1 7 0 2) = (2 : Int32)
  · have hm := ift hm h4_2
    refine g_tabIn (off := 73) (tgt := 77) C dX7_accepts_4 (by rw [h4_2]; decide) (by rw [h4_2]; decide) (by rw [h4_2]; rfl) (by decide) ?_
    refine g_aload_n C 0 dX7_accepts_77 rfl rfl ?_
    refine g_iload_n C 1 dX7_accepts_78 rfl rfl ?_
    obtain ⟨r79, hr79, hm⟩ := bnd_some hm
    refine g_callVi (As := [vI l1]) (rest := []) C lk_X7_68 (k_X7_endsItem X.2.1 G hl hG fu l1 M r79 hk0 hr79) (by decide) rfl rfl rfl (Nat.le_of_ble_eq_true rfl) ⟨Nat.le_of_ble_eq_true rfl, Nat.le_of_ble_eq_true rfl⟩ dX7_accepts_79 ?_
    obtain ⟨hz82, hm⟩ := ifn hm
    obtain rfl := Option.some.inj hm
    exact g_zret C hz82 dX7_accepts_82
  have hm := ife hm h4_2
  by_cases h4_3 : (M.1 7 0 2) = (3 : Int32)
  · have hm := ift hm h4_3
    refine g_tabIn (off := 79) (tgt := 83) C dX7_accepts_4 (by rw [h4_3]; decide) (by rw [h4_3]; decide) (by rw [h4_3]; rfl) (by decide) ?_
    refine g_aload_n C 0 dX7_accepts_83 rfl rfl ?_
    refine g_iconst (v := 0) C dX7_accepts_84 rfl ?_
    refine g_aload_n C 0 dX7_accepts_85 rfl rfl ?_
    refine g_geti (k := 0) C (by decide) kf_X7_32 rfl dX7_accepts_86 ?_
    refine g_iload_n C 1 dX7_accepts_89 rfl rfl ?_
    refine g_bipush (v := 97) C dX7_accepts_90 rfl ?_
    refine g_isub C dX7_accepts_92 ?_
    obtain ⟨r93, hr93, hm⟩ := bnd_some hm
    refine g_callVi (As := [vI (0 : Int32), vI (M.1 7 0 4), vI (l1 - (97 : Int32))]) (rest := []) C lk_X7_71 (k_X7_goesOn X.2.1 G hl hG fu (0 : Int32) (M.1 7 0 4) (l1 - (97 : Int32)) M r93 hk0 hr93) (by decide) rfl rfl rfl (Nat.le_of_ble_eq_true rfl) ⟨Nat.le_of_ble_eq_true rfl, Nat.le_of_ble_eq_true rfl⟩ dX7_accepts_93 ?_
    refine g_if_ne (tgt := 107) C dX7_accepts_96 (by decide) (fun h96 => ?_) (fun h96 => ?_)
    · have hm := ife hm h96
      refine g_iconst (v := 1) C dX7_accepts_107 rfl ?_
      refine g_goto (tgt := 112) C dX7_accepts_108 (by decide) ?_
      obtain rfl := Option.some.inj hm
      exact g_zret C (Or.inr rfl) dX7_accepts_112
    · have hm := ift hm h96
      refine g_aload_n C 0 dX7_accepts_99 rfl rfl ?_
      refine g_iload_n C 1 dX7_accepts_100 rfl rfl ?_
      obtain ⟨r101, hr101, hm⟩ := bnd_some hm
      refine g_callVi (As := [vI l1]) (rest := []) C lk_X7_75 (k_X7_endsFirst X.2.1 G hl hG fu l1 r93.2 r101 hk0 hr101) (by decide) rfl rfl rfl (Nat.le_of_ble_eq_true rfl) ⟨Nat.le_of_ble_eq_true rfl, Nat.le_of_ble_eq_true rfl⟩ dX7_accepts_101 ?_
      refine g_if_eq (tgt := 111) C dX7_accepts_104 (by decide) (fun h104 => ?_) (fun h104 => ?_)
      · have hm := ift hm h104
        refine g_iconst (v := 0) C dX7_accepts_111 rfl ?_
        obtain rfl := Option.some.inj hm
        exact g_zret C (Or.inl rfl) dX7_accepts_112
      · have hm := ife hm h104
        refine g_iconst (v := 1) C dX7_accepts_107 rfl ?_
        refine g_goto (tgt := 112) C dX7_accepts_108 (by decide) ?_
        obtain rfl := Option.some.inj hm
        exact g_zret C (Or.inr rfl) dX7_accepts_112
  have hm := ife hm h4_3
  by_cases h4_4 : (M.1 7 0 2) = (4 : Int32)
  · have hm := ift hm h4_4
    refine g_tabIn (off := 109) (tgt := 113) C dX7_accepts_4 (by rw [h4_4]; decide) (by rw [h4_4]; decide) (by rw [h4_4]; rfl) (by decide) ?_
    refine g_aload_n C 0 dX7_accepts_113 rfl rfl ?_
    refine g_iload_n C 1 dX7_accepts_114 rfl rfl ?_
    refine g_bipush (v := 97) C dX7_accepts_115 rfl ?_
    refine g_isub C dX7_accepts_117 ?_
    obtain ⟨r118, hr118, hm⟩ := bnd_some hm
    refine g_callVi (As := [vI (l1 - (97 : Int32))]) (rest := []) C lk_X7_78 (k_X7_beginsSecond X.2.1 G hl hG fu (l1 - (97 : Int32)) M r118 hk0 hr118) (by decide) rfl rfl rfl (Nat.le_of_ble_eq_true rfl) ⟨Nat.le_of_ble_eq_true rfl, Nat.le_of_ble_eq_true rfl⟩ dX7_accepts_118 ?_
    obtain ⟨hz121, hm⟩ := ifn hm
    obtain rfl := Option.some.inj hm
    exact g_zret C hz121 dX7_accepts_121
  have hm := ife hm h4_4
  refine g_tabOut (tgt := 122) C dX7_accepts_4 (tab_out 5 (by decide) (by intro j hj; rcases Nat.lt_succ_iff_lt_or_eq.mp hj with hj | rfl; rotate_left; exact h4_4; rcases Nat.lt_succ_iff_lt_or_eq.mp hj with hj | rfl; rotate_left; exact h4_3; rcases Nat.lt_succ_iff_lt_or_eq.mp hj with hj | rfl; rotate_left; exact h4_2; rcases Nat.lt_succ_iff_lt_or_eq.mp hj with hj | rfl; rotate_left; exact h4_1; rcases Nat.lt_succ_iff_lt_or_eq.mp hj with hj | rfl; rotate_left; exact h4_0; exact absurd hj (Nat.not_lt_zero _))) (by decide) ?_
  refine g_aload_n C 0 dX7_accepts_122 rfl rfl ?_
  refine g_iconst (v := 1) C dX7_accepts_123 rfl ?_
  refine g_aload_n C 0 dX7_accepts_124 rfl rfl ?_
  refine g_geti (k := 0) C (by decide) kf_X7_32 rfl dX7_accepts_125 ?_
  refine g_iload_n C 1 dX7_accepts_128 rfl rfl ?_
  refine g_bipush (v := 97) C dX7_accepts_129 rfl ?_
  refine g_isub C dX7_accepts_131 ?_
  obtain ⟨r132, hr132, hm⟩ := bnd_some hm
  refine g_callVi (As := [vI (1 : Int32), vI (M.1 7 0 4), vI (l1 - (97 : Int32))]) (rest := []) C lk_X7_71 (k_X7_goesOn X.2.1 G hl hG fu (1 : Int32) (M.1 7 0 4) (l1 - (97 : Int32)) M r132 hk0 hr132) (by decide) rfl rfl rfl (Nat.le_of_ble_eq_true rfl) ⟨Nat.le_of_ble_eq_true rfl, Nat.le_of_ble_eq_true rfl⟩ dX7_accepts_132 ?_
  refine g_if_ne (tgt := 146) C dX7_accepts_135 (by decide) (fun h135 => ?_) (fun h135 => ?_)
  · have hm := ife hm h135
    refine g_iconst (v := 1) C dX7_accepts_146 rfl ?_
    refine g_goto (tgt := 151) C dX7_accepts_147 (by decide) ?_
    obtain rfl := Option.some.inj hm
    exact g_zret C (Or.inr rfl) dX7_accepts_151
  · have hm := ift hm h135
    refine g_aload_n C 0 dX7_accepts_138 rfl rfl ?_
    refine g_iload_n C 1 dX7_accepts_139 rfl rfl ?_
    obtain ⟨r140, hr140, hm⟩ := bnd_some hm
    refine g_callVi (As := [vI l1]) (rest := []) C lk_X7_68 (k_X7_endsItem X.2.1 G hl hG fu l1 r132.2 r140 hk0 hr140) (by decide) rfl rfl rfl (Nat.le_of_ble_eq_true rfl) ⟨Nat.le_of_ble_eq_true rfl, Nat.le_of_ble_eq_true rfl⟩ dX7_accepts_140 ?_
    refine g_if_eq (tgt := 150) C dX7_accepts_143 (by decide) (fun h143 => ?_) (fun h143 => ?_)
    · have hm := ift hm h143
      refine g_iconst (v := 0) C dX7_accepts_150 rfl ?_
      obtain rfl := Option.some.inj hm
      exact g_zret C (Or.inl rfl) dX7_accepts_151
    · have hm := ife hm h143
      refine g_iconst (v := 1) C dX7_accepts_146 rfl ?_
      refine g_goto (tgt := 151) C dX7_accepts_147 (by decide) ?_
      obtain rfl := Option.some.inj hm
      exact g_zret C (Or.inr rfl) dX7_accepts_151
def f_X7_read_b24 (fu : Nat) (k2 : Nat) (k3 : Nat)  (l4 : Int32) (M : Mem) : Option ((Int32 × Mem) ⊕ ((Mem) ⊕ (Int32 × Mem))) :=
  (f_X4_length fu  M).bind (fun r27 => if r27.1 ≤ l4 then some (Sum.inr (Sum.inl r27.2)) else (f_X4_codeAt fu l4 r27.2).bind (fun r37 => (f_X7_accepts fu r37.1 r37.2).bind (fun r40 => if r40.1 = 0 then some (Sum.inr (Sum.inr (l4, r40.2))) else some (Sum.inl (l4 + (1 : Int32), r40.2)))))
def f_X7_read_h24 (fu : Nat) (k2 : Nat) (k3 : Nat)  (l4 : Int32) (M : Mem) : Option (Int32 × Mem) :=
  (lp_run (fun s => f_X7_read_b24 fu k2 k3  s.1 s.2) fu (l4, M)).bind (fun r24 => match r24 with
    | Sum.inl M => (f_X4_length fu  M).bind (fun r56 => some (r56.1, r56.2))
    | Sum.inr q24 => some q24)
def f_X7_read (fu : Nat) (k2 : Nat) (k3 : Nat) (M : Mem) : Option (Int32 × Mem) :=
  (f_X2_become fu 1 k2 M).bind (fun r5 => (f_X0_become fu 1 k3 r5).bind (fun r13 => f_X7_read_h24 fu k2 k3 (0 : Int32) (mI r13 7 0 2 (0 : Int32))))
set_option maxHeartbeats 4000000 in
set_option maxRecDepth 100000 in
theorem k_X7_read (l : Launch) (G : GE) (hl : l.stackTraces = false) (hG : GOK G) (fu : Nat) (k2 : Nat) (k3 : Nat) (M : Mem) (res : Int32 × Mem) (hk0 : (7, 0) ∈ gids G) (hk1 : (4, 0) ∈ gids G) (hk2 : (2, k2) ∈ gids G) (hk3 : (0, k3) ∈ gids G) (hm : f_X7_read fu k2 k3 M = some res) : CT l G yX7_read cX7_read 5 (some .int) 5 [vR 7 0, vR 4 0, vR 2 k2, vR 0 k3] M (.inl (some (vI res.1))) res.2 := by
  refine ct_of [(0, vR 7 0), (1, vR 4 0), (2, vR 2 k2), (3, vR 0 k3)] (by decide +kernel) hl hG (Nat.le_of_ble_eq_true rfl) rfl (List.forall_mem_cons.mpr ⟨Or.inl hk0, List.forall_mem_cons.mpr ⟨Or.inl hk1, List.forall_mem_cons.mpr ⟨Or.inl hk2, List.forall_mem_cons.mpr ⟨Or.inl hk3, fun _ h => nomatch h⟩⟩⟩⟩) (List.forall_mem_cons.mpr ⟨Or.inl hk0, List.forall_mem_cons.mpr ⟨Or.inl hk1, List.forall_mem_cons.mpr ⟨Or.inl hk2, List.forall_mem_cons.mpr ⟨Or.inl hk3, fun _ h => nomatch h⟩⟩⟩⟩) (fun X hX C => ?_)
  subst hX
  have Cl := C
  have J24 : ∀ (l4 : Int32) (M : Mem), f_X7_read_h24 fu k2 k3  l4 M = some res → GW G X 5 (QX G X (.inl (some (vI res.1))) res.2) 24 [(0, vR 7 0), (1, vR 4 0), (4, vI l4)] [] M := by
    intro l4 M hm
    unfold f_X7_read_h24 at hm
    obtain ⟨r24, hL24, hk24⟩ := bnd_some hm
    have hx24 : ∀ (M : Mem), Sum.inl M = r24 → GW G X 5 (QX G X (.inl (some (vI res.1))) res.2) 55 [(1, vR 4 0)] [] M := by
      intro M he
      subst he
      have hm := hk24
      try dsimp only at hm
      refine g_aload_n C 0 dX7_read_55 rfl rfl ?_
      obtain ⟨r56, hr56, hm⟩ := bnd_some hm
      refine g_callVi (As := []) (rest := []) C lk_X7_45 (k_X4_length X.2.1 G hl hG fu  M r56 hk1 hr56) (by decide) rfl rfl rfl (Nat.le_of_ble_eq_true rfl) ⟨Nat.le_of_ble_eq_true rfl, Nat.le_of_ble_eq_true rfl⟩ dX7_read_56 ?_
      obtain rfl := Option.some.inj hm
      exact g_iret C dX7_read_59
    refine lp_ind1 (P := (fun l4 M => GW G X 5 (QX G X (.inl (some (vI res.1))) res.2) 24 [(0, vR 7 0), (1, vR 4 0), (4, vI l4)] [] M)) (r := r24) ?_ fu l4 M hL24
    intro l4 M o24 hm K24
    unfold f_X7_read_b24 at hm
    refine g_iload C 2 dX7_read_24 rfl ?_
    refine g_aload_n C 1 dX7_read_26 rfl rfl ?_
    obtain ⟨r27, hr27, hm⟩ := bnd_some hm
    refine g_callVi (As := []) (rest := [vI l4]) C lk_X7_45 (k_X4_length X.2.1 G hl hG fu  M r27 hk1 hr27) (by decide) rfl rfl rfl (Nat.le_of_ble_eq_true rfl) ⟨Nat.le_of_ble_eq_true rfl, Nat.le_of_ble_eq_true rfl⟩ dX7_read_27 ?_
    refine g_icmp_ge (tgt := 55) C dX7_read_30 (by decide) (fun h30 => ?_) (fun h30 => ?_)
    · have hm := ift hm h30
      obtain rfl := Option.some.inj hm
      exact g_sub [1] rfl (g_pc rfl (hx24 r27.2 (K24.2 _ rfl)))
    · have hm := ife hm h30
      refine g_aload_n C 0 dX7_read_33 rfl rfl ?_
      refine g_aload_n C 1 dX7_read_34 rfl rfl ?_
      refine g_iload C 2 dX7_read_35 rfl ?_
      obtain ⟨r37, hr37, hm⟩ := bnd_some hm
      refine g_callVi (As := [vI l4]) (rest := [vR 7 0]) C lk_X7_51 (k_X4_codeAt X.2.1 G hl hG fu l4 r27.2 r37 hk1 hr37) (by decide) rfl rfl rfl (Nat.le_of_ble_eq_true rfl) ⟨Nat.le_of_ble_eq_true rfl, Nat.le_of_ble_eq_true rfl⟩ dX7_read_37 ?_
      obtain ⟨r40, hr40, hm⟩ := bnd_some hm
      refine g_callVi (As := [vI r37.1]) (rest := []) C lk_X7_55 (k_X7_accepts X.2.1 G hl hG fu r37.1 r37.2 r40 hk0 hr40) (by decide) rfl rfl rfl (Nat.le_of_ble_eq_true rfl) ⟨Nat.le_of_ble_eq_true rfl, Nat.le_of_ble_eq_true rfl⟩ dX7_read_40 ?_
      refine g_if_ne (tgt := 49) C dX7_read_43 (by decide) (fun h43 => ?_) (fun h43 => ?_)
      · have hm := ife hm h43
        refine g_iinc (ls' := [(4, vI (l4 + (1 : Int32))), (0, vR 7 0), (1, vR 4 0)]) (v := l4 + (1 : Int32)) C 2 dX7_read_49 rfl (iv_p1 _) (by decide) rfl ?_
        refine g_goto (tgt := 24) C dX7_read_52 (by decide) ?_
        obtain rfl := Option.some.inj hm
        exact g_sub [1, 2, 0] rfl (g_pc rfl (K24.1 (l4 + (1 : Int32)) r40.2 rfl))
      · have hm := ift hm h43
        refine g_iload C 2 dX7_read_46 rfl ?_
        obtain rfl := Option.some.inj hm
        have e24 := K24.2 _ rfl
        subst e24
        obtain rfl := Option.some.inj hk24
        exact g_iret C dX7_read_48
  unfold f_X7_read at hm
  refine g_aload_n C 0 dX7_read_0 rfl rfl ?_
  refine g_getr (k := 0) (k' := 1) C (by decide) kf_X7_12 rfl rfl dX7_read_1 ?_
  refine g_aload_n C 2 dX7_read_4 rfl rfl ?_
  obtain ⟨r5, hr5, hm⟩ := bnd_some hm
  refine g_callVv (As := [vR 2 k2]) (rest := []) C lk_X7_38 (k_X2_become X.2.1 G hl hG fu 1 k2 M r5 ((hG _ hk0).2 0 2 1 0 rfl) hk2 hr5) (by decide) rfl rfl rfl (Nat.le_of_ble_eq_true rfl) ⟨Nat.le_of_ble_eq_true rfl, Nat.le_of_ble_eq_true rfl⟩ dX7_read_5 ?_
  refine g_aload_n C 0 dX7_read_8 rfl rfl ?_
  refine g_getr (k := 0) (k' := 1) C (by decide) kf_X7_21 rfl rfl dX7_read_9 ?_
  refine g_aload_n C 3 dX7_read_12 rfl rfl ?_
  obtain ⟨r13, hr13, hm⟩ := bnd_some hm
  refine g_callVv (As := [vR 0 k3]) (rest := []) C lk_X7_42 (k_X0_become X.2.1 G hl hG fu 1 k3 r5 r13 ((hG _ hk0).2 1 0 1 0 rfl) hk3 hr13) (by decide) rfl rfl rfl (Nat.le_of_ble_eq_true rfl) ⟨Nat.le_of_ble_eq_true rfl, Nat.le_of_ble_eq_true rfl⟩ dX7_read_13 ?_
  refine g_aload_n C 0 dX7_read_16 rfl rfl ?_
  refine g_iconst (v := 0) C dX7_read_17 rfl ?_
  refine g_puti C (by decide) kf_X7_25 rfl rfl rfl dX7_read_18 ?_
  refine g_iconst (v := 0) C dX7_read_21 rfl ?_
  refine g_istore (ls' := [(4, vI (0 : Int32)), (0, vR 7 0), (1, vR 4 0), (2, vR 2 k2), (3, vR 0 k3)]) C dX7_read_22 (by decide) rfl ?_
  exact g_sub [1, 2, 0] rfl (g_pc rfl (J24 (0 : Int32) (mI r13 7 0 2 (0 : Int32)) hm))
def f_X7_graphRead (fu : Nat) (M : Mem) : Option (Mem) :=
  some M
set_option maxHeartbeats 4000000 in
set_option maxRecDepth 100000 in
theorem k_X7_graphRead (l : Launch) (G : GE) (hl : l.stackTraces = false) (hG : GOK G) (fu : Nat)  (M : Mem) (res : Mem) (hk0 : (7, 0) ∈ gids G) (hm : f_X7_graphRead fu  M = some res) : CT l G yX7_graphRead cX7_graphRead 1 (some (.object "ArrowDiagrams$Graph")) 0 [vR 7 0] M (.inl (some (vR 2 1))) res := by
  refine ct_of [(0, vR 7 0)] (by decide +kernel) hl hG (Nat.le_of_ble_eq_true rfl) rfl (List.forall_mem_cons.mpr ⟨Or.inl hk0, fun _ h => nomatch h⟩) (List.forall_mem_cons.mpr ⟨Or.inl hk0, fun _ h => nomatch h⟩) (fun X hX C => ?_)
  subst hX
  have Cl := C
  unfold f_X7_graphRead at hm
  refine g_aload_n C 0 dX7_graphRead_0 rfl rfl ?_
  refine g_getr (k := 0) (k' := 1) C (by decide) kf_X7_12 rfl rfl dX7_graphRead_1 ?_
  obtain rfl := Option.some.inj hm
  exact g_aret C dX7_graphRead_4
def f_X7_cellsRead (fu : Nat) (M : Mem) : Option (Mem) :=
  some M
set_option maxHeartbeats 4000000 in
set_option maxRecDepth 100000 in
theorem k_X7_cellsRead (l : Launch) (G : GE) (hl : l.stackTraces = false) (hG : GOK G) (fu : Nat)  (M : Mem) (res : Mem) (hk0 : (7, 0) ∈ gids G) (hm : f_X7_cellsRead fu  M = some res) : CT l G yX7_cellsRead cX7_cellsRead 1 (some (.object "ArrowDiagrams$Cells")) 0 [vR 7 0] M (.inl (some (vR 0 1))) res := by
  refine ct_of [(0, vR 7 0)] (by decide +kernel) hl hG (Nat.le_of_ble_eq_true rfl) rfl (List.forall_mem_cons.mpr ⟨Or.inl hk0, fun _ h => nomatch h⟩) (List.forall_mem_cons.mpr ⟨Or.inl hk0, fun _ h => nomatch h⟩) (fun X hX C => ?_)
  subst hX
  have Cl := C
  unfold f_X7_cellsRead at hm
  refine g_aload_n C 0 dX7_cellsRead_0 rfl rfl ?_
  refine g_getr (k := 0) (k' := 1) C (by decide) kf_X7_21 rfl rfl dX7_cellsRead_1 ?_
  obtain rfl := Option.some.inj hm
  exact g_aret C dX7_cellsRead_4
def f_X9_cellsChanged (fu : Nat) (M : Mem) : Option (Mem) :=
  (f_X0_renumber fu 0 M).bind (fun r8 => (f_X5_forget fu  r8).bind (fun r15 => some r15))
set_option maxHeartbeats 4000000 in
set_option maxRecDepth 100000 in
theorem k_X9_cellsChanged (l : Launch) (G : GE) (hl : l.stackTraces = false) (hG : GOK G) (fu : Nat)  (M : Mem) (res : Mem) (hk0 : (9, 0) ∈ gids G) (hm : f_X9_cellsChanged fu  M = some res) : CT l G yX9_cellsChanged cX9_cellsChanged 1 none 2 [vR 9 0] M (.inl none) res := by
  refine ct_of [(0, vR 9 0)] (by decide +kernel) hl hG (Nat.le_of_ble_eq_true rfl) rfl (List.forall_mem_cons.mpr ⟨Or.inl hk0, fun _ h => nomatch h⟩) (List.forall_mem_cons.mpr ⟨Or.inl hk0, fun _ h => nomatch h⟩) (fun X hX C => ?_)
  subst hX
  have Cl := C
  unfold f_X9_cellsChanged at hm
  refine g_aload_n C 0 dX9_cellsChanged_0 rfl rfl ?_
  refine g_getr (k := 0) (k' := 0) C (by decide) kf_X9_19 rfl rfl dX9_cellsChanged_1 ?_
  refine g_aload_n C 0 dX9_cellsChanged_4 rfl rfl ?_
  refine g_getr (k := 0) (k' := 0) C (by decide) kf_X9_26 rfl rfl dX9_cellsChanged_5 ?_
  obtain ⟨r8, hr8, hm⟩ := bnd_some hm
  refine g_callVv (As := [vR 6 0]) (rest := []) C lk_X9_387 (k_X0_renumber X.2.1 G hl hG fu 0 M r8 ((hG _ hk0).2 1 0 0 0 rfl) ((hG _ hk0).2 2 6 0 0 rfl) hr8) (by decide) rfl rfl rfl (Nat.le_of_ble_eq_true rfl) ⟨Nat.le_of_ble_eq_true rfl, Nat.le_of_ble_eq_true rfl⟩ dX9_cellsChanged_8 ?_
  refine g_aload_n C 0 dX9_cellsChanged_11 rfl rfl ?_
  refine g_getr (k := 0) (k' := 0) C (by decide) kf_X9_33 rfl rfl dX9_cellsChanged_12 ?_
  obtain ⟨r15, hr15, hm⟩ := bnd_some hm
  refine g_callVv (As := []) (rest := []) C lk_X9_391 (k_X5_forget X.2.1 G hl hG fu  r8 r15 ((hG _ hk0).2 3 5 0 0 rfl) hr15) (by decide) rfl rfl rfl (Nat.le_of_ble_eq_true rfl) ⟨Nat.le_of_ble_eq_true rfl, Nat.le_of_ble_eq_true rfl⟩ dX9_cellsChanged_15 ?_
  obtain rfl := Option.some.inj hm
  exact g_vret C dX9_cellsChanged_18
def f_X9_graphChanged (fu : Nat) (M : Mem) : Option (Mem) :=
  (f_X6_rebuild fu 0 M).bind (fun r8 => (f_X9_cellsChanged fu  r8).bind (fun r12 => some r12))
set_option maxHeartbeats 4000000 in
set_option maxRecDepth 100000 in
theorem k_X9_graphChanged (l : Launch) (G : GE) (hl : l.stackTraces = false) (hG : GOK G) (fu : Nat)  (M : Mem) (res : Mem) (hk0 : (9, 0) ∈ gids G) (hm : f_X9_graphChanged fu  M = some res) : CT l G yX9_graphChanged cX9_graphChanged 1 none 4 [vR 9 0] M (.inl none) res := by
  refine ct_of [(0, vR 9 0)] (by decide +kernel) hl hG (Nat.le_of_ble_eq_true rfl) rfl (List.forall_mem_cons.mpr ⟨Or.inl hk0, fun _ h => nomatch h⟩) (List.forall_mem_cons.mpr ⟨Or.inl hk0, fun _ h => nomatch h⟩) (fun X hX C => ?_)
  subst hX
  have Cl := C
  unfold f_X9_graphChanged at hm
  refine g_aload_n C 0 dX9_graphChanged_0 rfl rfl ?_
  refine g_getr (k := 0) (k' := 0) C (by decide) kf_X9_26 rfl rfl dX9_graphChanged_1 ?_
  refine g_aload_n C 0 dX9_graphChanged_4 rfl rfl ?_
  refine g_getr (k := 0) (k' := 0) C (by decide) kf_X9_12 rfl rfl dX9_graphChanged_5 ?_
  obtain ⟨r8, hr8, hm⟩ := bnd_some hm
  refine g_callVv (As := [vR 2 0]) (rest := []) C lk_X9_384 (k_X6_rebuild X.2.1 G hl hG fu 0 M r8 ((hG _ hk0).2 2 6 0 0 rfl) ((hG _ hk0).2 0 2 0 0 rfl) hr8) (by decide) rfl rfl rfl (Nat.le_of_ble_eq_true rfl) ⟨Nat.le_of_ble_eq_true rfl, Nat.le_of_ble_eq_true rfl⟩ dX9_graphChanged_8 ?_
  refine g_aload_n C 0 dX9_graphChanged_11 rfl rfl ?_
  obtain ⟨r12, hr12, hm⟩ := bnd_some hm
  refine g_callVv (As := []) (rest := []) C lk_X9_143 (k_X9_cellsChanged X.2.1 G hl hG fu  r8 r12 hk0 hr12) (by decide) rfl rfl rfl (Nat.le_of_ble_eq_true rfl) ⟨Nat.le_of_ble_eq_true rfl, Nat.le_of_ble_eq_true rfl⟩ dX9_graphChanged_12 ?_
  obtain rfl := Option.some.inj hm
  exact g_vret C dX9_graphChanged_15
def f_X9_begin (fu : Nat) (l1 : Int32) (M : Mem) : Option ((Int32 ⊕ Nat) × Mem) :=
  if l1 < (2 : Int32) then some (Sum.inr 1, M) else if l1 ≤ (8 : Int32) then (f_X2_objectTotal fu 0 M).bind (fun r25 => (f_X2_clear fu 0 l1 r25.2).bind (fun r34 => (f_X0_clear fu 0 r34).bind (fun r41 => (f_X1_clear fu 0 r41).bind (fun r48 => (f_X9_graphChanged fu  r48).bind (fun r52 => some (Sum.inl r25.1, r52)))))) else some (Sum.inr 1, M)
set_option maxHeartbeats 4000000 in
set_option maxRecDepth 100000 in
theorem k_X9_begin (l : Launch) (G : GE) (hl : l.stackTraces = false) (hG : GOK G) (fu : Nat) (l1 : Int32) (M : Mem) (res : (Int32 ⊕ Nat) × Mem) (hk0 : (9, 0) ∈ gids G) (hm : f_X9_begin fu l1 M = some res) : CT l G yX9_begin cX9_begin 3 (some .int) 6 [vR 9 0, vI l1] M (oI res.1) res.2 := by
  refine ct_of [(0, vR 9 0), (1, vI l1)] (by decide +kernel) hl hG (Nat.le_of_ble_eq_true rfl) rfl (List.forall_mem_cons.mpr ⟨Or.inl hk0, List.forall_mem_cons.mpr ⟨trivial, fun _ h => nomatch h⟩⟩) (List.forall_mem_cons.mpr ⟨Or.inl hk0, List.forall_mem_cons.mpr ⟨trivial, fun _ h => nomatch h⟩⟩) (fun X hX C => ?_)
  subst hX
  have Cl := C
  unfold f_X9_begin at hm
  refine g_iload_n C 1 dX9_begin_0 rfl rfl ?_
  refine g_iconst (v := 2) C dX9_begin_1 rfl ?_
  refine g_icmp_lt (tgt := 11) C dX9_begin_2 (by decide) (fun h2 => ?_) (fun h2 => ?_)
  · have hm := ift hm h2
    obtain rfl := Option.some.inj hm
    exact g_throw (o := .inl none) (E := "java/lang/IllegalArgumentException") (d := 6) C tk_X9_70_74 (by decide +kernel : ("ArrowDiagrams", 72, "objects is out of range") ∈ strs) (by decide) rfl dX9_begin_11 dX9_begin_14 dX9_begin_15 dX9_begin_17 dX9_begin_20
  · have hm := ife hm h2
    refine g_iload_n C 1 dX9_begin_5 rfl rfl ?_
    refine g_bipush (v := 8) C dX9_begin_6 rfl ?_
    refine g_icmp_le (tgt := 21) C dX9_begin_8 (by decide) (fun h8 => ?_) (fun h8 => ?_)
    · have hm := ift hm h8
      refine g_aload_n C 0 dX9_begin_21 rfl rfl ?_
      refine g_getr (k := 0) (k' := 0) C (by decide) kf_X9_12 rfl rfl dX9_begin_22 ?_
      obtain ⟨r25, hr25, hm⟩ := bnd_some hm
      refine g_callVi (As := []) (rest := []) C lk_X9_77 (k_X2_objectTotal X.2.1 G hl hG fu 0 M r25 ((hG _ hk0).2 0 2 0 0 rfl) hr25) (by decide) rfl rfl rfl (Nat.le_of_ble_eq_true rfl) ⟨Nat.le_of_ble_eq_true rfl, Nat.le_of_ble_eq_true rfl⟩ dX9_begin_25 ?_
      refine g_istore_n (ls' := [(2, vI r25.1), (0, vR 9 0), (1, vI l1)]) C dX9_begin_28 rfl (by decide) rfl ?_
      refine g_aload_n C 1 dX9_begin_29 rfl rfl ?_
      refine g_getr (k := 0) (k' := 0) C (by decide) kf_X9_12 rfl rfl dX9_begin_30 ?_
      refine g_iload_n C 2 dX9_begin_33 rfl rfl ?_
      obtain ⟨r34, hr34, hm⟩ := bnd_some hm
      refine g_callVv (As := [vI l1]) (rest := []) C lk_X9_61 (k_X2_clear X.2.1 G hl hG fu 0 l1 r25.2 r34 ((hG _ hk0).2 0 2 0 0 rfl) hr34) (by decide) rfl rfl rfl (Nat.le_of_ble_eq_true rfl) ⟨Nat.le_of_ble_eq_true rfl, Nat.le_of_ble_eq_true rfl⟩ dX9_begin_34 ?_
      refine g_aload_n C 1 dX9_begin_37 rfl rfl ?_
      refine g_getr (k := 0) (k' := 0) C (by decide) kf_X9_19 rfl rfl dX9_begin_38 ?_
      obtain ⟨r41, hr41, hm⟩ := bnd_some hm
      refine g_callVv (As := []) (rest := []) C lk_X9_81 (k_X0_clear X.2.1 G hl hG fu 0 r34 r41 ((hG _ hk0).2 1 0 0 0 rfl) hr41) (by decide) rfl rfl rfl (Nat.le_of_ble_eq_true rfl) ⟨Nat.le_of_ble_eq_true rfl, Nat.le_of_ble_eq_true rfl⟩ dX9_begin_41 ?_
      refine g_aload_n C 1 dX9_begin_44 rfl rfl ?_
      refine g_getr (k := 0) (k' := 0) C (by decide) kf_X9_40 rfl rfl dX9_begin_45 ?_
      obtain ⟨r48, hr48, hm⟩ := bnd_some hm
      refine g_callVv (As := []) (rest := []) C lk_X9_65 (k_X1_clear X.2.1 G hl hG fu 0 r41 r48 ((hG _ hk0).2 4 1 0 0 rfl) hr48) (by decide) rfl rfl rfl (Nat.le_of_ble_eq_true rfl) ⟨Nat.le_of_ble_eq_true rfl, Nat.le_of_ble_eq_true rfl⟩ dX9_begin_48 ?_
      refine g_aload_n C 1 dX9_begin_51 rfl rfl ?_
      obtain ⟨r52, hr52, hm⟩ := bnd_some hm
      refine g_callVv (As := []) (rest := []) C lk_X9_67 (k_X9_graphChanged X.2.1 G hl hG fu  r48 r52 hk0 hr52) (by decide) rfl rfl rfl (Nat.le_of_ble_eq_true rfl) ⟨Nat.le_of_ble_eq_true rfl, Nat.le_of_ble_eq_true rfl⟩ dX9_begin_52 ?_
      refine g_iload_n C 0 dX9_begin_55 rfl rfl ?_
      obtain rfl := Option.some.inj hm
      exact g_iret C dX9_begin_56
    · have hm := ife hm h8
      obtain rfl := Option.some.inj hm
      exact g_throw (o := .inl none) (E := "java/lang/IllegalArgumentException") (d := 6) C tk_X9_70_74 (by decide +kernel : ("ArrowDiagrams", 72, "objects is out of range") ∈ strs) (by decide) rfl dX9_begin_11 dX9_begin_14 dX9_begin_15 dX9_begin_17 dX9_begin_20
def f_X9_requireObject (fu : Nat) (l1 : Int32) (M : Mem) : Option ((Unit ⊕ Nat) × Mem) :=
  (f_X2_hasObject fu 0 l1 M).bind (fun r5 => if r5.1 = 0 then some (Sum.inr 0, r5.2) else some (Sum.inl (), r5.2))
set_option maxHeartbeats 4000000 in
set_option maxRecDepth 100000 in
theorem k_X9_requireObject (l : Launch) (G : GE) (hl : l.stackTraces = false) (hG : GOK G) (fu : Nat) (l1 : Int32) (M : Mem) (res : (Unit ⊕ Nat) × Mem) (hk0 : (9, 0) ∈ gids G) (hm : f_X9_requireObject fu l1 M = some res) : CT l G yX9_requireObject cX9_requireObject 2 none 6 [vR 9 0, vI l1] M (oU res.1) res.2 := by
  refine ct_of [(0, vR 9 0), (1, vI l1)] (by decide +kernel) hl hG (Nat.le_of_ble_eq_true rfl) rfl (List.forall_mem_cons.mpr ⟨Or.inl hk0, List.forall_mem_cons.mpr ⟨trivial, fun _ h => nomatch h⟩⟩) (List.forall_mem_cons.mpr ⟨Or.inl hk0, List.forall_mem_cons.mpr ⟨trivial, fun _ h => nomatch h⟩⟩) (fun X hX C => ?_)
  subst hX
  have Cl := C
  unfold f_X9_requireObject at hm
  refine g_aload_n C 0 dX9_requireObject_0 rfl rfl ?_
  refine g_getr (k := 0) (k' := 0) C (by decide) kf_X9_12 rfl rfl dX9_requireObject_1 ?_
  refine g_iload_n C 1 dX9_requireObject_4 rfl rfl ?_
  obtain ⟨r5, hr5, hm⟩ := bnd_some hm
  refine g_callVi (As := [vI l1]) (rest := []) C lk_X9_394 (k_X2_hasObject X.2.1 G hl hG fu 0 l1 M r5 ((hG _ hk0).2 0 2 0 0 rfl) hr5) (by decide) rfl rfl rfl (Nat.le_of_ble_eq_true rfl) ⟨Nat.le_of_ble_eq_true rfl, Nat.le_of_ble_eq_true rfl⟩ dX9_requireObject_5 ?_
  refine g_if_ne (tgt := 22) C dX9_requireObject_8 (by decide) (fun h8 => ?_) (fun h8 => ?_)
  · have hm := ife hm h8
    obtain rfl := Option.some.inj hm
    exact g_vret C dX9_requireObject_22
  · have hm := ift hm h8
    obtain rfl := Option.some.inj hm
    exact g_throwW (o := .inl none) (E := "java/lang/IndexOutOfBoundsException") (d := 6) C tk_X9_229_233 (by decide +kernel : ("ArrowDiagrams", 397, "the object does not exist") ∈ strs) (by decide) rfl dX9_requireObject_11 dX9_requireObject_14 dX9_requireObject_15 dX9_requireObject_18 dX9_requireObject_21
def f_X9_addArrow (fu : Nat) (l1 : Int32) (l2 : Int32) (M : Mem) : Option ((Int32 ⊕ Nat) × Mem) :=
  (f_X9_requireObject fu l1 M).bind (fun r2 => match r2 with
    | (Sum.inl x2, n2) => (f_X9_requireObject fu l2 n2).bind (fun r7 => match r7 with
    | (Sum.inl x7, n7) => if l1 < l2 then (f_X2_arrowTotal fu 0 n7).bind (fun r29 => if r29.1 < (14 : Int32) then (f_X2_pathTotal fu 0 r29.2).bind (fun r51 => (f_X2_pathsThrough fu 0 l1 l2 r51.2).bind (fun r60 => if (r51.1 + r60.1) ≤ (300 : Int32) then (f_X2_join fu 0 l1 l2 r60.2).bind (fun r86 => (f_X1_setCode fu 0 r86.1 (0 : Int32) r86.2).bind (fun r96 => (f_X9_graphChanged fu  r96).bind (fun r100 => some (Sum.inl r86.1, r100)))) else some (Sum.inr 2, r60.2))) else some (Sum.inr 2, r29.2)) else some (Sum.inr 1, n7)
    | (Sum.inr z7, n7) => some (Sum.inr z7, n7))
    | (Sum.inr z2, n2) => some (Sum.inr z2, n2))
set_option maxHeartbeats 4000000 in
set_option maxRecDepth 100000 in
theorem k_X9_addArrow (l : Launch) (G : GE) (hl : l.stackTraces = false) (hG : GOK G) (fu : Nat) (l1 : Int32) (l2 : Int32) (M : Mem) (res : (Int32 ⊕ Nat) × Mem) (hk0 : (9, 0) ∈ gids G) (hm : f_X9_addArrow fu l1 l2 M = some res) : CT l G yX9_addArrow cX9_addArrow 4 (some .int) 7 [vR 9 0, vI l1, vI l2] M (oI res.1) res.2 := by
  refine ct_of [(0, vR 9 0), (1, vI l1), (2, vI l2)] (by decide +kernel) hl hG (Nat.le_of_ble_eq_true rfl) rfl (List.forall_mem_cons.mpr ⟨Or.inl hk0, List.forall_mem_cons.mpr ⟨trivial, List.forall_mem_cons.mpr ⟨trivial, fun _ h => nomatch h⟩⟩⟩) (List.forall_mem_cons.mpr ⟨Or.inl hk0, List.forall_mem_cons.mpr ⟨trivial, List.forall_mem_cons.mpr ⟨trivial, fun _ h => nomatch h⟩⟩⟩) (fun X hX C => ?_)
  subst hX
  have Cl := C
  unfold f_X9_addArrow at hm
  refine g_aload_n C 0 dX9_addArrow_0 rfl rfl ?_
  refine g_iload_n C 1 dX9_addArrow_1 rfl rfl ?_
  obtain ⟨⟨x2 | z2, n2⟩, hr2, hm⟩ := bnd_some hm
  · refine g_callVv (As := [vI l1]) (rest := []) C lk_X9_82 (k_X9_requireObject X.2.1 G hl hG fu l1 M (Sum.inl x2, n2) hk0 hr2) (by decide) rfl rfl rfl (Nat.le_of_ble_eq_true rfl) ⟨Nat.le_of_ble_eq_true rfl, Nat.le_of_ble_eq_true rfl⟩ dX9_addArrow_2 ?_
    refine g_aload_n C 0 dX9_addArrow_5 rfl rfl ?_
    refine g_iload_n C 2 dX9_addArrow_6 rfl rfl ?_
    obtain ⟨⟨x7 | z7, n7⟩, hr7, hm⟩ := bnd_some hm
    · refine g_callVv (As := [vI l2]) (rest := []) C lk_X9_82 (k_X9_requireObject X.2.1 G hl hG fu l2 n2 (Sum.inl x7, n7) hk0 hr7) (by decide) rfl rfl rfl (Nat.le_of_ble_eq_true rfl) ⟨Nat.le_of_ble_eq_true rfl, Nat.le_of_ble_eq_true rfl⟩ dX9_addArrow_7 ?_
      refine g_iload_n C 2 dX9_addArrow_10 rfl rfl ?_
      refine g_iload_n C 1 dX9_addArrow_11 rfl rfl ?_
      refine g_icmp_gt (tgt := 25) C dX9_addArrow_12 (by decide) (fun h12 => ?_) (fun h12 => ?_)
      · have hm := ift hm h12
        refine g_aload_n C 0 dX9_addArrow_25 rfl rfl ?_
        refine g_getr (k := 0) (k' := 0) C (by decide) kf_X9_12 rfl rfl dX9_addArrow_26 ?_
        obtain ⟨r29, hr29, hm⟩ := bnd_some hm
        refine g_callVi (As := []) (rest := []) C lk_X9_87 (k_X2_arrowTotal X.2.1 G hl hG fu 0 n7 r29 ((hG _ hk0).2 0 2 0 0 rfl) hr29) (by decide) rfl rfl rfl (Nat.le_of_ble_eq_true rfl) ⟨Nat.le_of_ble_eq_true rfl, Nat.le_of_ble_eq_true rfl⟩ dX9_addArrow_29 ?_
        refine g_bipush (v := 14) C dX9_addArrow_32 rfl ?_
        refine g_icmp_lt (tgt := 47) C dX9_addArrow_34 (by decide) (fun h34 => ?_) (fun h34 => ?_)
        · have hm := ift hm h34
          refine g_aload_n C 0 dX9_addArrow_47 rfl rfl ?_
          refine g_getr (k := 0) (k' := 0) C (by decide) kf_X9_12 rfl rfl dX9_addArrow_48 ?_
          obtain ⟨r51, hr51, hm⟩ := bnd_some hm
          refine g_callVi (As := []) (rest := []) C lk_X9_95 (k_X2_pathTotal X.2.1 G hl hG fu 0 r29.2 r51 ((hG _ hk0).2 0 2 0 0 rfl) hr51) (by decide) rfl rfl rfl (Nat.le_of_ble_eq_true rfl) ⟨Nat.le_of_ble_eq_true rfl, Nat.le_of_ble_eq_true rfl⟩ dX9_addArrow_51 ?_
          refine g_aload_n C 0 dX9_addArrow_54 rfl rfl ?_
          refine g_getr (k := 0) (k' := 0) C (by decide) kf_X9_12 rfl rfl dX9_addArrow_55 ?_
          refine g_iload_n C 1 dX9_addArrow_58 rfl rfl ?_
          refine g_iload_n C 2 dX9_addArrow_59 rfl rfl ?_
          obtain ⟨r60, hr60, hm⟩ := bnd_some hm
          refine g_callVi (As := [vI l1, vI l2]) (rest := [vI r51.1]) C lk_X9_98 (k_X2_pathsThrough X.2.1 G hl hG fu 0 l1 l2 r51.2 r60 ((hG _ hk0).2 0 2 0 0 rfl) hr60) (by decide) rfl rfl rfl (Nat.le_of_ble_eq_true rfl) ⟨Nat.le_of_ble_eq_true rfl, Nat.le_of_ble_eq_true rfl⟩ dX9_addArrow_60 ?_
          refine g_iadd C dX9_addArrow_63 ?_
          refine g_sipush (v := 300) C dX9_addArrow_64 rfl ?_
          refine g_icmp_le (tgt := 80) C dX9_addArrow_67 (by decide) (fun h67 => ?_) (fun h67 => ?_)
          · have hm := ift hm h67
            refine g_aload_n C 0 dX9_addArrow_80 rfl rfl ?_
            refine g_getr (k := 0) (k' := 0) C (by decide) kf_X9_12 rfl rfl dX9_addArrow_81 ?_
            refine g_iload_n C 1 dX9_addArrow_84 rfl rfl ?_
            refine g_iload_n C 2 dX9_addArrow_85 rfl rfl ?_
            obtain ⟨r86, hr86, hm⟩ := bnd_some hm
            refine g_callVi (As := [vI l1, vI l2]) (rest := []) C lk_X9_104 (k_X2_join X.2.1 G hl hG fu 0 l1 l2 r60.2 r86 ((hG _ hk0).2 0 2 0 0 rfl) hr86) (by decide) rfl rfl rfl (Nat.le_of_ble_eq_true rfl) ⟨Nat.le_of_ble_eq_true rfl, Nat.le_of_ble_eq_true rfl⟩ dX9_addArrow_86 ?_
            refine g_istore_n (ls' := [(3, vI r86.1), (0, vR 9 0), (1, vI l1), (2, vI l2)]) C dX9_addArrow_89 rfl (by decide) rfl ?_
            refine g_aload_n C 1 dX9_addArrow_90 rfl rfl ?_
            refine g_getr (k := 0) (k' := 0) C (by decide) kf_X9_40 rfl rfl dX9_addArrow_91 ?_
            refine g_iload_n C 0 dX9_addArrow_94 rfl rfl ?_
            refine g_iconst (v := 0) C dX9_addArrow_95 rfl ?_
            obtain ⟨r96, hr96, hm⟩ := bnd_some hm
            refine g_callVv (As := [vI r86.1, vI (0 : Int32)]) (rest := []) C lk_X9_107 (k_X1_setCode X.2.1 G hl hG fu 0 r86.1 (0 : Int32) r86.2 r96 ((hG _ hk0).2 4 1 0 0 rfl) hr96) (by decide) rfl rfl rfl (Nat.le_of_ble_eq_true rfl) ⟨Nat.le_of_ble_eq_true rfl, Nat.le_of_ble_eq_true rfl⟩ dX9_addArrow_96 ?_
            refine g_aload_n C 1 dX9_addArrow_99 rfl rfl ?_
            obtain ⟨r100, hr100, hm⟩ := bnd_some hm
            refine g_callVv (As := []) (rest := []) C lk_X9_67 (k_X9_graphChanged X.2.1 G hl hG fu  r96 r100 hk0 hr100) (by decide) rfl rfl rfl (Nat.le_of_ble_eq_true rfl) ⟨Nat.le_of_ble_eq_true rfl, Nat.le_of_ble_eq_true rfl⟩ dX9_addArrow_100 ?_
            refine g_iload_n C 0 dX9_addArrow_103 rfl rfl ?_
            obtain rfl := Option.some.inj hm
            exact g_iret C dX9_addArrow_104
          · have hm := ife hm h67
            obtain rfl := Option.some.inj hm
            exact g_throw (o := .inl none) (E := "java/lang/IllegalStateException") (d := 7) C tk_X9_90_94 (by decide +kernel : ("ArrowDiagrams", 102, "there would be more than 300 paths") ∈ strs) (by decide) rfl dX9_addArrow_70 dX9_addArrow_73 dX9_addArrow_74 dX9_addArrow_76 dX9_addArrow_79
        · have hm := ife hm h34
          obtain rfl := Option.some.inj hm
          exact g_throw (o := .inl none) (E := "java/lang/IllegalStateException") (d := 7) C tk_X9_90_94 (by decide +kernel : ("ArrowDiagrams", 92, "there are 14 arrows") ∈ strs) (by decide) rfl dX9_addArrow_37 dX9_addArrow_40 dX9_addArrow_41 dX9_addArrow_43 dX9_addArrow_46
      · have hm := ife hm h12
        obtain rfl := Option.some.inj hm
        exact g_throw (o := .inl none) (E := "java/lang/IllegalArgumentException") (d := 7) C tk_X9_70_74 (by decide +kernel : ("ArrowDiagrams", 85, "to is not greater than from") ∈ strs) (by decide) rfl dX9_addArrow_15 dX9_addArrow_18 dX9_addArrow_19 dX9_addArrow_21 dX9_addArrow_24
    · skip
      obtain rfl := Option.some.inj hm
      exact g_callVx (E := exN z7) (As := [vI l2]) (rest := []) C lk_X9_82 (k_X9_requireObject X.2.1 G hl hG fu l2 n2 (Sum.inr z7, n7) hk0 hr7) (by decide) rfl rfl rfl (Nat.le_of_ble_eq_true rfl) ⟨Nat.le_of_ble_eq_true rfl, Nat.le_of_ble_eq_true rfl⟩ dX9_addArrow_7
  · skip
    obtain rfl := Option.some.inj hm
    exact g_callVx (E := exN z2) (As := [vI l1]) (rest := []) C lk_X9_82 (k_X9_requireObject X.2.1 G hl hG fu l1 M (Sum.inr z2, n2) hk0 hr2) (by decide) rfl rfl rfl (Nat.le_of_ble_eq_true rfl) ⟨Nat.le_of_ble_eq_true rfl, Nat.le_of_ble_eq_true rfl⟩ dX9_addArrow_2
def f_X9_dropArrow (fu : Nat) (M : Mem) : Option ((Int32 ⊕ Nat) × Mem) :=
  (f_X2_arrowTotal fu 0 M).bind (fun r4 => if r4.1 = 0 then some (Sum.inr 2, r4.2) else (f_X2_arrowTotal fu 0 r4.2).bind (fun r28 => (f_X0_removeAllWith fu 0 (r28.1 - (1 : Int32)) r28.2).bind (fun r33 => (f_X2_dropLast fu 0 r33.2).bind (fun r41 => (f_X9_graphChanged fu  r41).bind (fun r45 => some (Sum.inl r33.1, r45))))))
set_option maxHeartbeats 4000000 in
set_option maxRecDepth 100000 in
theorem k_X9_dropArrow (l : Launch) (G : GE) (hl : l.stackTraces = false) (hG : GOK G) (fu : Nat)  (M : Mem) (res : (Int32 ⊕ Nat) × Mem) (hk0 : (9, 0) ∈ gids G) (hm : f_X9_dropArrow fu  M = some res) : CT l G yX9_dropArrow cX9_dropArrow 2 (some .int) 6 [vR 9 0] M (oI res.1) res.2 := by
  refine ct_of [(0, vR 9 0)] (by decide +kernel) hl hG (Nat.le_of_ble_eq_true rfl) rfl (List.forall_mem_cons.mpr ⟨Or.inl hk0, fun _ h => nomatch h⟩) (List.forall_mem_cons.mpr ⟨Or.inl hk0, fun _ h => nomatch h⟩) (fun X hX C => ?_)
  subst hX
  have Cl := C
  unfold f_X9_dropArrow at hm
  refine g_aload_n C 0 dX9_dropArrow_0 rfl rfl ?_
  refine g_getr (k := 0) (k' := 0) C (by decide) kf_X9_12 rfl rfl dX9_dropArrow_1 ?_
  obtain ⟨r4, hr4, hm⟩ := bnd_some hm
  refine g_callVi (As := []) (rest := []) C lk_X9_87 (k_X2_arrowTotal X.2.1 G hl hG fu 0 M r4 ((hG _ hk0).2 0 2 0 0 rfl) hr4) (by decide) rfl rfl rfl (Nat.le_of_ble_eq_true rfl) ⟨Nat.le_of_ble_eq_true rfl, Nat.le_of_ble_eq_true rfl⟩ dX9_dropArrow_4 ?_
  refine g_if_ne (tgt := 20) C dX9_dropArrow_7 (by decide) (fun h7 => ?_) (fun h7 => ?_)
  · have hm := ife hm h7
    refine g_aload_n C 0 dX9_dropArrow_20 rfl rfl ?_
    refine g_getr (k := 0) (k' := 0) C (by decide) kf_X9_19 rfl rfl dX9_dropArrow_21 ?_
    refine g_aload_n C 0 dX9_dropArrow_24 rfl rfl ?_
    refine g_getr (k := 0) (k' := 0) C (by decide) kf_X9_12 rfl rfl dX9_dropArrow_25 ?_
    obtain ⟨r28, hr28, hm⟩ := bnd_some hm
    refine g_callVi (As := []) (rest := [vR 0 0]) C lk_X9_87 (k_X2_arrowTotal X.2.1 G hl hG fu 0 r4.2 r28 ((hG _ hk0).2 0 2 0 0 rfl) hr28) (by decide) rfl rfl rfl (Nat.le_of_ble_eq_true rfl) ⟨Nat.le_of_ble_eq_true rfl, Nat.le_of_ble_eq_true rfl⟩ dX9_dropArrow_28 ?_
    refine g_iconst (v := 1) C dX9_dropArrow_31 rfl ?_
    refine g_isub C dX9_dropArrow_32 ?_
    obtain ⟨r33, hr33, hm⟩ := bnd_some hm
    refine g_callVi (As := [vI (r28.1 - (1 : Int32))]) (rest := []) C lk_X9_113 (k_X0_removeAllWith X.2.1 G hl hG fu 0 (r28.1 - (1 : Int32)) r28.2 r33 ((hG _ hk0).2 1 0 0 0 rfl) hr33) (by decide) rfl rfl rfl (Nat.le_of_ble_eq_true rfl) ⟨Nat.le_of_ble_eq_true rfl, Nat.le_of_ble_eq_true rfl⟩ dX9_dropArrow_33 ?_
    refine g_istore_n (ls' := [(1, vI r33.1), (0, vR 9 0)]) C dX9_dropArrow_36 rfl (by decide) rfl ?_
    refine g_aload_n C 1 dX9_dropArrow_37 rfl rfl ?_
    refine g_getr (k := 0) (k' := 0) C (by decide) kf_X9_12 rfl rfl dX9_dropArrow_38 ?_
    obtain ⟨r41, hr41, hm⟩ := bnd_some hm
    refine g_callVv (As := []) (rest := []) C lk_X9_117 (k_X2_dropLast X.2.1 G hl hG fu 0 r33.2 r41 ((hG _ hk0).2 0 2 0 0 rfl) hr41) (by decide) rfl rfl rfl (Nat.le_of_ble_eq_true rfl) ⟨Nat.le_of_ble_eq_true rfl, Nat.le_of_ble_eq_true rfl⟩ dX9_dropArrow_41 ?_
    refine g_aload_n C 1 dX9_dropArrow_44 rfl rfl ?_
    obtain ⟨r45, hr45, hm⟩ := bnd_some hm
    refine g_callVv (As := []) (rest := []) C lk_X9_67 (k_X9_graphChanged X.2.1 G hl hG fu  r41 r45 hk0 hr45) (by decide) rfl rfl rfl (Nat.le_of_ble_eq_true rfl) ⟨Nat.le_of_ble_eq_true rfl, Nat.le_of_ble_eq_true rfl⟩ dX9_dropArrow_45 ?_
    refine g_iload_n C 0 dX9_dropArrow_48 rfl rfl ?_
    obtain rfl := Option.some.inj hm
    exact g_iret C dX9_dropArrow_49
  · have hm := ift hm h7
    obtain rfl := Option.some.inj hm
    exact g_throw (o := .inl none) (E := "java/lang/IllegalStateException") (d := 6) C tk_X9_90_94 (by decide +kernel : ("ArrowDiagrams", 111, "there are no arrows") ∈ strs) (by decide) rfl dX9_dropArrow_10 dX9_dropArrow_13 dX9_dropArrow_14 dX9_dropArrow_16 dX9_dropArrow_19
def f_X9_requirePath (fu : Nat) (l1 : Int32) (M : Mem) : Option ((Unit ⊕ Nat) × Mem) :=
  if l1 < 0 then some (Sum.inr 0, M) else (f_X6_total fu  M).bind (fun r9 => if l1 < r9.1 then some (Sum.inl (), r9.2) else some (Sum.inr 0, r9.2))
set_option maxHeartbeats 4000000 in
set_option maxRecDepth 100000 in
theorem k_X9_requirePath (l : Launch) (G : GE) (hl : l.stackTraces = false) (hG : GOK G) (fu : Nat) (l1 : Int32) (M : Mem) (res : (Unit ⊕ Nat) × Mem) (hk0 : (9, 0) ∈ gids G) (hm : f_X9_requirePath fu l1 M = some res) : CT l G yX9_requirePath cX9_requirePath 2 none 6 [vR 9 0, vI l1] M (oU res.1) res.2 := by
  refine ct_of [(0, vR 9 0), (1, vI l1)] (by decide +kernel) hl hG (Nat.le_of_ble_eq_true rfl) rfl (List.forall_mem_cons.mpr ⟨Or.inl hk0, List.forall_mem_cons.mpr ⟨trivial, fun _ h => nomatch h⟩⟩) (List.forall_mem_cons.mpr ⟨Or.inl hk0, List.forall_mem_cons.mpr ⟨trivial, fun _ h => nomatch h⟩⟩) (fun X hX C => ?_)
  subst hX
  have Cl := C
  unfold f_X9_requirePath at hm
  refine g_iload_n C 1 dX9_requirePath_0 rfl rfl ?_
  refine g_if_lt (tgt := 15) C dX9_requirePath_1 (by decide) (fun h1 => ?_) (fun h1 => ?_)
  · have hm := ift hm h1
    obtain rfl := Option.some.inj hm
    exact g_throwW (o := .inl none) (E := "java/lang/IndexOutOfBoundsException") (d := 6) C tk_X9_229_233 (by decide +kernel : ("ArrowDiagrams", 406, "the path does not exist") ∈ strs) (by decide) rfl dX9_requirePath_15 dX9_requirePath_18 dX9_requirePath_19 dX9_requirePath_22 dX9_requirePath_25
  · have hm := ife hm h1
    refine g_iload_n C 1 dX9_requirePath_4 rfl rfl ?_
    refine g_aload_n C 0 dX9_requirePath_5 rfl rfl ?_
    refine g_getr (k := 0) (k' := 0) C (by decide) kf_X9_26 rfl rfl dX9_requirePath_6 ?_
    obtain ⟨r9, hr9, hm⟩ := bnd_some hm
    refine g_callVi (As := []) (rest := [vI l1]) C lk_X9_276 (k_X6_total X.2.1 G hl hG fu  M r9 ((hG _ hk0).2 2 6 0 0 rfl) hr9) (by decide) rfl rfl rfl (Nat.le_of_ble_eq_true rfl) ⟨Nat.le_of_ble_eq_true rfl, Nat.le_of_ble_eq_true rfl⟩ dX9_requirePath_9 ?_
    refine g_icmp_lt (tgt := 26) C dX9_requirePath_12 (by decide) (fun h12 => ?_) (fun h12 => ?_)
    · have hm := ift hm h12
      obtain rfl := Option.some.inj hm
      exact g_vret C dX9_requirePath_26
    · have hm := ife hm h12
      obtain rfl := Option.some.inj hm
      exact g_throwW (o := .inl none) (E := "java/lang/IndexOutOfBoundsException") (d := 6) C tk_X9_229_233 (by decide +kernel : ("ArrowDiagrams", 406, "the path does not exist") ∈ strs) (by decide) rfl dX9_requirePath_15 dX9_requirePath_18 dX9_requirePath_19 dX9_requirePath_22 dX9_requirePath_25
def f_X9_requireParallel (fu : Nat) (l1 : Int32) (l2 : Int32) (M : Mem) : Option ((Unit ⊕ Nat) × Mem) :=
  (f_X9_requirePath fu l1 M).bind (fun r2 => match r2 with
    | (Sum.inl x2, n2) => (f_X9_requirePath fu l2 n2).bind (fun r7 => match r7 with
    | (Sum.inl x7, n7) => (f_X8_get fu 16 l1 n7).bind (fun r18 => (f_X8_get fu 16 l2 r18.2).bind (fun r29 => if r18.1 = r29.1 then (f_X8_get fu 17 l1 r29.2).bind (fun r43 => (f_X8_get fu 17 l2 r43.2).bind (fun r54 => if r43.1 = r54.1 then some (Sum.inl (), r54.2) else some (Sum.inr 1, r54.2))) else some (Sum.inr 1, r29.2)))
    | (Sum.inr z7, n7) => some (Sum.inr z7, n7))
    | (Sum.inr z2, n2) => some (Sum.inr z2, n2))
set_option maxHeartbeats 4000000 in
set_option maxRecDepth 100000 in
theorem k_X9_requireParallel (l : Launch) (G : GE) (hl : l.stackTraces = false) (hG : GOK G) (fu : Nat) (l1 : Int32) (l2 : Int32) (M : Mem) (res : (Unit ⊕ Nat) × Mem) (hk0 : (9, 0) ∈ gids G) (hm : f_X9_requireParallel fu l1 l2 M = some res) : CT l G yX9_requireParallel cX9_requireParallel 3 none 7 [vR 9 0, vI l1, vI l2] M (oU res.1) res.2 := by
  refine ct_of [(0, vR 9 0), (1, vI l1), (2, vI l2)] (by decide +kernel) hl hG (Nat.le_of_ble_eq_true rfl) rfl (List.forall_mem_cons.mpr ⟨Or.inl hk0, List.forall_mem_cons.mpr ⟨trivial, List.forall_mem_cons.mpr ⟨trivial, fun _ h => nomatch h⟩⟩⟩) (List.forall_mem_cons.mpr ⟨Or.inl hk0, List.forall_mem_cons.mpr ⟨trivial, List.forall_mem_cons.mpr ⟨trivial, fun _ h => nomatch h⟩⟩⟩) (fun X hX C => ?_)
  subst hX
  have Cl := C
  unfold f_X9_requireParallel at hm
  refine g_aload_n C 0 dX9_requireParallel_0 rfl rfl ?_
  refine g_iload_n C 1 dX9_requireParallel_1 rfl rfl ?_
  obtain ⟨⟨x2 | z2, n2⟩, hr2, hm⟩ := bnd_some hm
  · refine g_callVv (As := [vI l1]) (rest := []) C lk_X9_202 (k_X9_requirePath X.2.1 G hl hG fu l1 M (Sum.inl x2, n2) hk0 hr2) (by decide) rfl rfl rfl (Nat.le_of_ble_eq_true rfl) ⟨Nat.le_of_ble_eq_true rfl, Nat.le_of_ble_eq_true rfl⟩ dX9_requireParallel_2 ?_
    refine g_aload_n C 0 dX9_requireParallel_5 rfl rfl ?_
    refine g_iload_n C 2 dX9_requireParallel_6 rfl rfl ?_
    obtain ⟨⟨x7 | z7, n7⟩, hr7, hm⟩ := bnd_some hm
    · refine g_callVv (As := [vI l2]) (rest := []) C lk_X9_202 (k_X9_requirePath X.2.1 G hl hG fu l2 n2 (Sum.inl x7, n7) hk0 hr7) (by decide) rfl rfl rfl (Nat.le_of_ble_eq_true rfl) ⟨Nat.le_of_ble_eq_true rfl, Nat.le_of_ble_eq_true rfl⟩ dX9_requireParallel_7 ?_
      refine g_aload_n C 0 dX9_requireParallel_10 rfl rfl ?_
      refine g_getr (k := 0) (k' := 0) C (by decide) kf_X9_26 rfl rfl dX9_requireParallel_11 ?_
      refine g_getrN (k := 0) (k' := 16) C (by decide) kf_X9_128 rfl rfl dX9_requireParallel_14 ?_
      refine g_iload_n C 1 dX9_requireParallel_17 rfl rfl ?_
      obtain ⟨r18, hr18, hm⟩ := bnd_some hm
      refine g_callVi (As := [vI l1]) (rest := []) C lk_X9_132 (k_X8_get X.2.1 G hl hG fu 16 l1 n7 r18 ((hG _ ((hG _ hk0).2 2 6 0 0 rfl)).2 1 8 16 0 rfl) hr18) (by decide) rfl rfl rfl (Nat.le_of_ble_eq_true rfl) ⟨Nat.le_of_ble_eq_true rfl, Nat.le_of_ble_eq_true rfl⟩ dX9_requireParallel_18 ?_
      refine g_aload_n C 0 dX9_requireParallel_21 rfl rfl ?_
      refine g_getr (k := 0) (k' := 0) C (by decide) kf_X9_26 rfl rfl dX9_requireParallel_22 ?_
      refine g_getrN (k := 0) (k' := 16) C (by decide) kf_X9_128 rfl rfl dX9_requireParallel_25 ?_
      refine g_iload_n C 2 dX9_requireParallel_28 rfl rfl ?_
      obtain ⟨r29, hr29, hm⟩ := bnd_some hm
      refine g_callVi (As := [vI l2]) (rest := [vI r18.1]) C lk_X9_132 (k_X8_get X.2.1 G hl hG fu 16 l2 r18.2 r29 ((hG _ ((hG _ hk0).2 2 6 0 0 rfl)).2 1 8 16 0 rfl) hr29) (by decide) rfl rfl rfl (Nat.le_of_ble_eq_true rfl) ⟨Nat.le_of_ble_eq_true rfl, Nat.le_of_ble_eq_true rfl⟩ dX9_requireParallel_29 ?_
      refine g_icmp_ne (tgt := 60) C dX9_requireParallel_32 (by decide) (fun h32 => ?_) (fun h32 => ?_)
      · have hm := ife hm h32
        obtain rfl := Option.some.inj hm
        exact g_throwW (o := .inl none) (E := "java/lang/IllegalArgumentException") (d := 7) C tk_X9_70_74 (by decide +kernel : ("ArrowDiagrams", 408, "the paths are not parallel") ∈ strs) (by decide) rfl dX9_requireParallel_60 dX9_requireParallel_63 dX9_requireParallel_64 dX9_requireParallel_67 dX9_requireParallel_70
      · have hm := ift hm h32
        refine g_aload_n C 0 dX9_requireParallel_35 rfl rfl ?_
        refine g_getr (k := 0) (k' := 0) C (by decide) kf_X9_26 rfl rfl dX9_requireParallel_36 ?_
        refine g_getrN (k := 0) (k' := 17) C (by decide) kf_X9_205 rfl rfl dX9_requireParallel_39 ?_
        refine g_iload_n C 1 dX9_requireParallel_42 rfl rfl ?_
        obtain ⟨r43, hr43, hm⟩ := bnd_some hm
        refine g_callVi (As := [vI l1]) (rest := []) C lk_X9_132 (k_X8_get X.2.1 G hl hG fu 17 l1 r29.2 r43 ((hG _ ((hG _ hk0).2 2 6 0 0 rfl)).2 2 8 17 0 rfl) hr43) (by decide) rfl rfl rfl (Nat.le_of_ble_eq_true rfl) ⟨Nat.le_of_ble_eq_true rfl, Nat.le_of_ble_eq_true rfl⟩ dX9_requireParallel_43 ?_
        refine g_aload_n C 0 dX9_requireParallel_46 rfl rfl ?_
        refine g_getr (k := 0) (k' := 0) C (by decide) kf_X9_26 rfl rfl dX9_requireParallel_47 ?_
        refine g_getrN (k := 0) (k' := 17) C (by decide) kf_X9_205 rfl rfl dX9_requireParallel_50 ?_
        refine g_iload_n C 2 dX9_requireParallel_53 rfl rfl ?_
        obtain ⟨r54, hr54, hm⟩ := bnd_some hm
        refine g_callVi (As := [vI l2]) (rest := [vI r43.1]) C lk_X9_132 (k_X8_get X.2.1 G hl hG fu 17 l2 r43.2 r54 ((hG _ ((hG _ hk0).2 2 6 0 0 rfl)).2 2 8 17 0 rfl) hr54) (by decide) rfl rfl rfl (Nat.le_of_ble_eq_true rfl) ⟨Nat.le_of_ble_eq_true rfl, Nat.le_of_ble_eq_true rfl⟩ dX9_requireParallel_54 ?_
        refine g_icmp_eq (tgt := 71) C dX9_requireParallel_57 (by decide) (fun h57 => ?_) (fun h57 => ?_)
        · have hm := ift hm h57
          obtain rfl := Option.some.inj hm
          exact g_vret C dX9_requireParallel_71
        · have hm := ife hm h57
          obtain rfl := Option.some.inj hm
          exact g_throwW (o := .inl none) (E := "java/lang/IllegalArgumentException") (d := 7) C tk_X9_70_74 (by decide +kernel : ("ArrowDiagrams", 408, "the paths are not parallel") ∈ strs) (by decide) rfl dX9_requireParallel_60 dX9_requireParallel_63 dX9_requireParallel_64 dX9_requireParallel_67 dX9_requireParallel_70
    · skip
      obtain rfl := Option.some.inj hm
      exact g_callVx (E := exN z7) (As := [vI l2]) (rest := []) C lk_X9_202 (k_X9_requirePath X.2.1 G hl hG fu l2 n2 (Sum.inr z7, n7) hk0 hr7) (by decide) rfl rfl rfl (Nat.le_of_ble_eq_true rfl) ⟨Nat.le_of_ble_eq_true rfl, Nat.le_of_ble_eq_true rfl⟩ dX9_requireParallel_7
  · skip
    obtain rfl := Option.some.inj hm
    exact g_callVx (E := exN z2) (As := [vI l1]) (rest := []) C lk_X9_202 (k_X9_requirePath X.2.1 G hl hG fu l1 M (Sum.inr z2, n2) hk0 hr2) (by decide) rfl rfl rfl (Nat.le_of_ble_eq_true rfl) ⟨Nat.le_of_ble_eq_true rfl, Nat.le_of_ble_eq_true rfl⟩ dX9_requireParallel_2
def f_X9_lengthenBy_b2 (fu : Nat)  (l1 : Int32) (l2 : Int32) (l3 : Int32) (M : Mem) : Option ((Int32 × Mem) ⊕ (Mem)) :=
  (f_X8_get fu 18 l2 M).bind (fun r11 => if r11.1 ≤ l3 then some (Sum.inr r11.2) else (f_X3_get fu 2 l2 l3 r11.2).bind (fun r31 => (f_X0_lengthen fu 0 l1 r31.1 r31.2).bind (fun r34 => some (Sum.inl (l3 + (1 : Int32), r34)))))
def f_X9_lengthenBy_h2 (fu : Nat)   (l1 : Int32) (l2 : Int32) (l3 : Int32) (M : Mem) : Option (Mem) :=
  (lp_run (fun s => f_X9_lengthenBy_b2 fu  l1 l2 s.1 s.2) fu (l3, M)).bind (fun M => some M)
def f_X9_lengthenBy (fu : Nat) (l1 : Int32) (l2 : Int32) (M : Mem) : Option (Mem) :=
  f_X9_lengthenBy_h2 fu l1 l2 (0 : Int32) M
set_option maxHeartbeats 4000000 in
set_option maxRecDepth 100000 in
theorem k_X9_lengthenBy (l : Launch) (G : GE) (hl : l.stackTraces = false) (hG : GOK G) (fu : Nat) (l1 : Int32) (l2 : Int32) (M : Mem) (res : Mem) (hk0 : (9, 0) ∈ gids G) (hm : f_X9_lengthenBy fu l1 l2 M = some res) : CT l G yX9_lengthenBy cX9_lengthenBy 4 none 2 [vR 9 0, vI l1, vI l2] M (.inl none) res := by
  refine ct_of [(0, vR 9 0), (1, vI l1), (2, vI l2)] (by decide +kernel) hl hG (Nat.le_of_ble_eq_true rfl) rfl (List.forall_mem_cons.mpr ⟨Or.inl hk0, List.forall_mem_cons.mpr ⟨trivial, List.forall_mem_cons.mpr ⟨trivial, fun _ h => nomatch h⟩⟩⟩) (List.forall_mem_cons.mpr ⟨Or.inl hk0, List.forall_mem_cons.mpr ⟨trivial, List.forall_mem_cons.mpr ⟨trivial, fun _ h => nomatch h⟩⟩⟩) (fun X hX C => ?_)
  subst hX
  have Cl := C
  have J2 : ∀ (l1 : Int32) (l2 : Int32) (l3 : Int32) (M : Mem), f_X9_lengthenBy_h2 fu   l1 l2 l3 M = some res → GW G X 4 (QX G X (.inl none) res) 2 [(0, vR 9 0), (1, vI l1), (2, vI l2), (3, vI l3)] [] M := by
    intro l1 l2 l3 M hm
    unfold f_X9_lengthenBy_h2 at hm
    obtain ⟨r2, hL2, hk2⟩ := bnd_some hm
    have hx2 : ∀ (M : Mem), M = r2 → GW G X 4 (QX G X (.inl none) res) 43 [] [] M := by
      intro M he
      subst he
      have hm := hk2
      try dsimp only at hm
      obtain rfl := Option.some.inj hm
      exact g_vret C dX9_lengthenBy_43
    refine lp_ind1 (P := (fun l3 M => GW G X 4 (QX G X (.inl none) res) 2 [(0, vR 9 0), (1, vI l1), (2, vI l2), (3, vI l3)] [] M)) (r := r2) ?_ fu l3 M hL2
    intro l3 M o2 hm K2
    unfold f_X9_lengthenBy_b2 at hm
    refine g_iload_n C 3 dX9_lengthenBy_2 rfl rfl ?_
    refine g_aload_n C 0 dX9_lengthenBy_3 rfl rfl ?_
    refine g_getr (k := 0) (k' := 0) C (by decide) kf_X9_26 rfl rfl dX9_lengthenBy_4 ?_
    refine g_getrN (k := 0) (k' := 18) C (by decide) kf_X9_208 rfl rfl dX9_lengthenBy_7 ?_
    refine g_iload_n C 2 dX9_lengthenBy_10 rfl rfl ?_
    obtain ⟨r11, hr11, hm⟩ := bnd_some hm
    refine g_callVi (As := [vI l2]) (rest := [vI l3]) C lk_X9_132 (k_X8_get X.2.1 G hl hG fu 18 l2 M r11 ((hG _ ((hG _ hk0).2 2 6 0 0 rfl)).2 3 8 18 0 rfl) hr11) (by decide) rfl rfl rfl (Nat.le_of_ble_eq_true rfl) ⟨Nat.le_of_ble_eq_true rfl, Nat.le_of_ble_eq_true rfl⟩ dX9_lengthenBy_11 ?_
    refine g_icmp_ge (tgt := 43) C dX9_lengthenBy_14 (by decide) (fun h14 => ?_) (fun h14 => ?_)
    · have hm := ift hm h14
      obtain rfl := Option.some.inj hm
      exact g_sub [] rfl (g_pc rfl (hx2 r11.2 (K2.2 _ rfl)))
    · have hm := ife hm h14
      refine g_aload_n C 0 dX9_lengthenBy_17 rfl rfl ?_
      refine g_getr (k := 0) (k' := 0) C (by decide) kf_X9_19 rfl rfl dX9_lengthenBy_18 ?_
      refine g_iload_n C 1 dX9_lengthenBy_21 rfl rfl ?_
      refine g_aload_n C 0 dX9_lengthenBy_22 rfl rfl ?_
      refine g_getr (k := 0) (k' := 0) C (by decide) kf_X9_26 rfl rfl dX9_lengthenBy_23 ?_
      refine g_getrN (k := 0) (k' := 2) C (by decide) kf_X9_234 rfl rfl dX9_lengthenBy_26 ?_
      refine g_iload_n C 2 dX9_lengthenBy_29 rfl rfl ?_
      refine g_iload_n C 3 dX9_lengthenBy_30 rfl rfl ?_
      obtain ⟨r31, hr31, hm⟩ := bnd_some hm
      refine g_callVi (As := [vI l2, vI l3]) (rest := [vI l1, vR 0 0]) C lk_X9_198 (k_X3_get X.2.1 G hl hG fu 2 l2 l3 r11.2 r31 ((hG _ ((hG _ hk0).2 2 6 0 0 rfl)).2 4 3 2 0 rfl) hr31) (by decide) rfl rfl rfl (Nat.le_of_ble_eq_true rfl) ⟨Nat.le_of_ble_eq_true rfl, Nat.le_of_ble_eq_true rfl⟩ dX9_lengthenBy_31 ?_
      obtain ⟨r34, hr34, hm⟩ := bnd_some hm
      refine g_callVv (As := [vI l1, vI r31.1]) (rest := []) C lk_X9_410 (k_X0_lengthen X.2.1 G hl hG fu 0 l1 r31.1 r31.2 r34 ((hG _ hk0).2 1 0 0 0 rfl) hr34) (by decide) rfl rfl rfl (Nat.le_of_ble_eq_true rfl) ⟨Nat.le_of_ble_eq_true rfl, Nat.le_of_ble_eq_true rfl⟩ dX9_lengthenBy_34 ?_
      refine g_iinc (ls' := [(3, vI (l3 + (1 : Int32))), (0, vR 9 0), (1, vI l1), (2, vI l2)]) (v := l3 + (1 : Int32)) C 3 dX9_lengthenBy_37 rfl (iv_p1 _) (by decide) rfl ?_
      refine g_goto (tgt := 2) C dX9_lengthenBy_40 (by decide) ?_
      obtain rfl := Option.some.inj hm
      exact g_sub [1, 2, 3, 0] rfl (g_pc rfl (K2.1 (l3 + (1 : Int32)) r34 rfl))
  unfold f_X9_lengthenBy at hm
  refine g_iconst (v := 0) C dX9_lengthenBy_0 rfl ?_
  refine g_istore_n (ls' := [(3, vI (0 : Int32)), (0, vR 9 0), (1, vI l1), (2, vI l2)]) C dX9_lengthenBy_1 rfl (by decide) rfl ?_
  exact g_sub [1, 2, 3, 0] rfl (g_pc rfl (J2 l1 l2 (0 : Int32) M hm))
def f_X9_addCell (fu : Nat) (l1 : Int32) (l2 : Int32) (M : Mem) : Option ((Int32 ⊕ Nat) × Mem) :=
  (f_X9_requireParallel fu l1 l2 M).bind (fun r3 => match r3 with
    | (Sum.inl x3, n3) => (f_X0_total fu 0 n3).bind (fun r10 => if r10.1 < (10 : Int32) then (f_X8_get fu 16 l1 r10.2).bind (fun r40 => (f_X0_open fu 0 r40.1 r40.2).bind (fun r43 => (f_X9_lengthenBy fu (0 : Int32) l1 r43.2).bind (fun r50 => (f_X9_lengthenBy fu (1 : Int32) l2 r50).bind (fun r56 => (f_X9_cellsChanged fu  r56).bind (fun r60 => some (Sum.inl r43.1, r60)))))) else some (Sum.inr 2, r10.2))
    | (Sum.inr z3, n3) => some (Sum.inr z3, n3))
set_option maxHeartbeats 4000000 in
set_option maxRecDepth 100000 in
theorem k_X9_addCell (l : Launch) (G : GE) (hl : l.stackTraces = false) (hG : GOK G) (fu : Nat) (l1 : Int32) (l2 : Int32) (M : Mem) (res : (Int32 ⊕ Nat) × Mem) (hk0 : (9, 0) ∈ gids G) (hm : f_X9_addCell fu l1 l2 M = some res) : CT l G yX9_addCell cX9_addCell 4 (some .int) 8 [vR 9 0, vI l1, vI l2] M (oI res.1) res.2 := by
  refine ct_of [(0, vR 9 0), (1, vI l1), (2, vI l2)] (by decide +kernel) hl hG (Nat.le_of_ble_eq_true rfl) rfl (List.forall_mem_cons.mpr ⟨Or.inl hk0, List.forall_mem_cons.mpr ⟨trivial, List.forall_mem_cons.mpr ⟨trivial, fun _ h => nomatch h⟩⟩⟩) (List.forall_mem_cons.mpr ⟨Or.inl hk0, List.forall_mem_cons.mpr ⟨trivial, List.forall_mem_cons.mpr ⟨trivial, fun _ h => nomatch h⟩⟩⟩) (fun X hX C => ?_)
  subst hX
  have Cl := C
  unfold f_X9_addCell at hm
  refine g_aload_n C 0 dX9_addCell_0 rfl rfl ?_
  refine g_iload_n C 1 dX9_addCell_1 rfl rfl ?_
  refine g_iload_n C 2 dX9_addCell_2 rfl rfl ?_
  obtain ⟨⟨x3 | z3, n3⟩, hr3, hm⟩ := bnd_some hm
  · refine g_callVv (As := [vI l1, vI l2]) (rest := []) C lk_X9_120 (k_X9_requireParallel X.2.1 G hl hG fu l1 l2 M (Sum.inl x3, n3) hk0 hr3) (by decide) rfl rfl rfl (Nat.le_of_ble_eq_true rfl) ⟨Nat.le_of_ble_eq_true rfl, Nat.le_of_ble_eq_true rfl⟩ dX9_addCell_3 ?_
    refine g_aload_n C 0 dX9_addCell_6 rfl rfl ?_
    refine g_getr (k := 0) (k' := 0) C (by decide) kf_X9_19 rfl rfl dX9_addCell_7 ?_
    obtain ⟨r10, hr10, hm⟩ := bnd_some hm
    refine g_callVi (As := []) (rest := []) C lk_X9_123 (k_X0_total X.2.1 G hl hG fu 0 n3 r10 ((hG _ hk0).2 1 0 0 0 rfl) hr10) (by decide) rfl rfl rfl (Nat.le_of_ble_eq_true rfl) ⟨Nat.le_of_ble_eq_true rfl, Nat.le_of_ble_eq_true rfl⟩ dX9_addCell_10 ?_
    refine g_bipush (v := 10) C dX9_addCell_13 rfl ?_
    refine g_icmp_lt (tgt := 28) C dX9_addCell_15 (by decide) (fun h15 => ?_) (fun h15 => ?_)
    · have hm := ift hm h15
      refine g_aload_n C 0 dX9_addCell_28 rfl rfl ?_
      refine g_getr (k := 0) (k' := 0) C (by decide) kf_X9_19 rfl rfl dX9_addCell_29 ?_
      refine g_aload_n C 0 dX9_addCell_32 rfl rfl ?_
      refine g_getr (k := 0) (k' := 0) C (by decide) kf_X9_26 rfl rfl dX9_addCell_33 ?_
      refine g_getrN (k := 0) (k' := 16) C (by decide) kf_X9_128 rfl rfl dX9_addCell_36 ?_
      refine g_iload_n C 1 dX9_addCell_39 rfl rfl ?_
      obtain ⟨r40, hr40, hm⟩ := bnd_some hm
      refine g_callVi (As := [vI l1]) (rest := [vR 0 0]) C lk_X9_132 (k_X8_get X.2.1 G hl hG fu 16 l1 r10.2 r40 ((hG _ ((hG _ hk0).2 2 6 0 0 rfl)).2 1 8 16 0 rfl) hr40) (by decide) rfl rfl rfl (Nat.le_of_ble_eq_true rfl) ⟨Nat.le_of_ble_eq_true rfl, Nat.le_of_ble_eq_true rfl⟩ dX9_addCell_40 ?_
      obtain ⟨r43, hr43, hm⟩ := bnd_some hm
      refine g_callVi (As := [vI r40.1]) (rest := []) C lk_X9_137 (k_X0_open X.2.1 G hl hG fu 0 r40.1 r40.2 r43 ((hG _ hk0).2 1 0 0 0 rfl) hr43) (by decide) rfl rfl rfl (Nat.le_of_ble_eq_true rfl) ⟨Nat.le_of_ble_eq_true rfl, Nat.le_of_ble_eq_true rfl⟩ dX9_addCell_43 ?_
      refine g_istore_n (ls' := [(3, vI r43.1), (0, vR 9 0), (1, vI l1), (2, vI l2)]) C dX9_addCell_46 rfl (by decide) rfl ?_
      refine g_aload_n C 1 dX9_addCell_47 rfl rfl ?_
      refine g_iconst (v := 0) C dX9_addCell_48 rfl ?_
      refine g_iload_n C 2 dX9_addCell_49 rfl rfl ?_
      obtain ⟨r50, hr50, hm⟩ := bnd_some hm
      refine g_callVv (As := [vI (0 : Int32), vI l1]) (rest := []) C lk_X9_140 (k_X9_lengthenBy X.2.1 G hl hG fu (0 : Int32) l1 r43.2 r50 hk0 hr50) (by decide) rfl rfl rfl (Nat.le_of_ble_eq_true rfl) ⟨Nat.le_of_ble_eq_true rfl, Nat.le_of_ble_eq_true rfl⟩ dX9_addCell_50 ?_
      refine g_aload_n C 1 dX9_addCell_53 rfl rfl ?_
      refine g_iconst (v := 1) C dX9_addCell_54 rfl ?_
      refine g_iload_n C 3 dX9_addCell_55 rfl rfl ?_
      obtain ⟨r56, hr56, hm⟩ := bnd_some hm
      refine g_callVv (As := [vI (1 : Int32), vI l2]) (rest := []) C lk_X9_140 (k_X9_lengthenBy X.2.1 G hl hG fu (1 : Int32) l2 r50 r56 hk0 hr56) (by decide) rfl rfl rfl (Nat.le_of_ble_eq_true rfl) ⟨Nat.le_of_ble_eq_true rfl, Nat.le_of_ble_eq_true rfl⟩ dX9_addCell_56 ?_
      refine g_aload_n C 1 dX9_addCell_59 rfl rfl ?_
      obtain ⟨r60, hr60, hm⟩ := bnd_some hm
      refine g_callVv (As := []) (rest := []) C lk_X9_143 (k_X9_cellsChanged X.2.1 G hl hG fu  r56 r60 hk0 hr60) (by decide) rfl rfl rfl (Nat.le_of_ble_eq_true rfl) ⟨Nat.le_of_ble_eq_true rfl, Nat.le_of_ble_eq_true rfl⟩ dX9_addCell_60 ?_
      refine g_iload_n C 0 dX9_addCell_63 rfl rfl ?_
      obtain rfl := Option.some.inj hm
      exact g_iret C dX9_addCell_64
    · have hm := ife hm h15
      obtain rfl := Option.some.inj hm
      exact g_throw (o := .inl none) (E := "java/lang/IllegalStateException") (d := 8) C tk_X9_90_94 (by decide +kernel : ("ArrowDiagrams", 126, "there are 10 cells") ∈ strs) (by decide) rfl dX9_addCell_18 dX9_addCell_21 dX9_addCell_22 dX9_addCell_24 dX9_addCell_27
  · skip
    obtain rfl := Option.some.inj hm
    exact g_callVx (E := exN z3) (As := [vI l1, vI l2]) (rest := []) C lk_X9_120 (k_X9_requireParallel X.2.1 G hl hG fu l1 l2 M (Sum.inr z3, n3) hk0 hr3) (by decide) rfl rfl rfl (Nat.le_of_ble_eq_true rfl) ⟨Nat.le_of_ble_eq_true rfl, Nat.le_of_ble_eq_true rfl⟩ dX9_addCell_3
def f_X9_requireCell (fu : Nat) (l1 : Int32) (M : Mem) : Option ((Unit ⊕ Nat) × Mem) :=
  if l1 < 0 then some (Sum.inr 0, M) else (f_X0_total fu 0 M).bind (fun r9 => if l1 < r9.1 then some (Sum.inl (), r9.2) else some (Sum.inr 0, r9.2))
set_option maxHeartbeats 4000000 in
set_option maxRecDepth 100000 in
theorem k_X9_requireCell (l : Launch) (G : GE) (hl : l.stackTraces = false) (hG : GOK G) (fu : Nat) (l1 : Int32) (M : Mem) (res : (Unit ⊕ Nat) × Mem) (hk0 : (9, 0) ∈ gids G) (hm : f_X9_requireCell fu l1 M = some res) : CT l G yX9_requireCell cX9_requireCell 2 none 6 [vR 9 0, vI l1] M (oU res.1) res.2 := by
  refine ct_of [(0, vR 9 0), (1, vI l1)] (by decide +kernel) hl hG (Nat.le_of_ble_eq_true rfl) rfl (List.forall_mem_cons.mpr ⟨Or.inl hk0, List.forall_mem_cons.mpr ⟨trivial, fun _ h => nomatch h⟩⟩) (List.forall_mem_cons.mpr ⟨Or.inl hk0, List.forall_mem_cons.mpr ⟨trivial, fun _ h => nomatch h⟩⟩) (fun X hX C => ?_)
  subst hX
  have Cl := C
  unfold f_X9_requireCell at hm
  refine g_iload_n C 1 dX9_requireCell_0 rfl rfl ?_
  refine g_if_lt (tgt := 15) C dX9_requireCell_1 (by decide) (fun h1 => ?_) (fun h1 => ?_)
  · have hm := ift hm h1
    obtain rfl := Option.some.inj hm
    exact g_throwW (o := .inl none) (E := "java/lang/IndexOutOfBoundsException") (d := 6) C tk_X9_229_233 (by decide +kernel : ("ArrowDiagrams", 404, "the cell does not exist") ∈ strs) (by decide) rfl dX9_requireCell_15 dX9_requireCell_18 dX9_requireCell_19 dX9_requireCell_22 dX9_requireCell_25
  · have hm := ife hm h1
    refine g_iload_n C 1 dX9_requireCell_4 rfl rfl ?_
    refine g_aload_n C 0 dX9_requireCell_5 rfl rfl ?_
    refine g_getr (k := 0) (k' := 0) C (by decide) kf_X9_19 rfl rfl dX9_requireCell_6 ?_
    obtain ⟨r9, hr9, hm⟩ := bnd_some hm
    refine g_callVi (As := []) (rest := [vI l1]) C lk_X9_123 (k_X0_total X.2.1 G hl hG fu 0 M r9 ((hG _ hk0).2 1 0 0 0 rfl) hr9) (by decide) rfl rfl rfl (Nat.le_of_ble_eq_true rfl) ⟨Nat.le_of_ble_eq_true rfl, Nat.le_of_ble_eq_true rfl⟩ dX9_requireCell_9 ?_
    refine g_icmp_lt (tgt := 26) C dX9_requireCell_12 (by decide) (fun h12 => ?_) (fun h12 => ?_)
    · have hm := ift hm h12
      obtain rfl := Option.some.inj hm
      exact g_vret C dX9_requireCell_26
    · have hm := ife hm h12
      obtain rfl := Option.some.inj hm
      exact g_throwW (o := .inl none) (E := "java/lang/IndexOutOfBoundsException") (d := 6) C tk_X9_229_233 (by decide +kernel : ("ArrowDiagrams", 404, "the cell does not exist") ∈ strs) (by decide) rfl dX9_requireCell_15 dX9_requireCell_18 dX9_requireCell_19 dX9_requireCell_22 dX9_requireCell_25
def f_X9_dropCell (fu : Nat) (l1 : Int32) (M : Mem) : Option ((Int32 ⊕ Nat) × Mem) :=
  (f_X9_requireCell fu l1 M).bind (fun r2 => match r2 with
    | (Sum.inl x2, n2) => (f_X0_remove fu 0 l1 n2).bind (fun r10 => (f_X9_cellsChanged fu  r10).bind (fun r14 => (f_X0_total fu 0 r14).bind (fun r21 => some (Sum.inl r21.1, r21.2))))
    | (Sum.inr z2, n2) => some (Sum.inr z2, n2))
set_option maxHeartbeats 4000000 in
set_option maxRecDepth 100000 in
theorem k_X9_dropCell (l : Launch) (G : GE) (hl : l.stackTraces = false) (hG : GOK G) (fu : Nat) (l1 : Int32) (M : Mem) (res : (Int32 ⊕ Nat) × Mem) (hk0 : (9, 0) ∈ gids G) (hm : f_X9_dropCell fu l1 M = some res) : CT l G yX9_dropCell cX9_dropCell 2 (some .int) 7 [vR 9 0, vI l1] M (oI res.1) res.2 := by
  refine ct_of [(0, vR 9 0), (1, vI l1)] (by decide +kernel) hl hG (Nat.le_of_ble_eq_true rfl) rfl (List.forall_mem_cons.mpr ⟨Or.inl hk0, List.forall_mem_cons.mpr ⟨trivial, fun _ h => nomatch h⟩⟩) (List.forall_mem_cons.mpr ⟨Or.inl hk0, List.forall_mem_cons.mpr ⟨trivial, fun _ h => nomatch h⟩⟩) (fun X hX C => ?_)
  subst hX
  have Cl := C
  unfold f_X9_dropCell at hm
  refine g_aload_n C 0 dX9_dropCell_0 rfl rfl ?_
  refine g_iload_n C 1 dX9_dropCell_1 rfl rfl ?_
  obtain ⟨⟨x2 | z2, n2⟩, hr2, hm⟩ := bnd_some hm
  · refine g_callVv (As := [vI l1]) (rest := []) C lk_X9_146 (k_X9_requireCell X.2.1 G hl hG fu l1 M (Sum.inl x2, n2) hk0 hr2) (by decide) rfl rfl rfl (Nat.le_of_ble_eq_true rfl) ⟨Nat.le_of_ble_eq_true rfl, Nat.le_of_ble_eq_true rfl⟩ dX9_dropCell_2 ?_
    refine g_aload_n C 0 dX9_dropCell_5 rfl rfl ?_
    refine g_getr (k := 0) (k' := 0) C (by decide) kf_X9_19 rfl rfl dX9_dropCell_6 ?_
    refine g_iload_n C 1 dX9_dropCell_9 rfl rfl ?_
    obtain ⟨r10, hr10, hm⟩ := bnd_some hm
    refine g_callVv (As := [vI l1]) (rest := []) C lk_X9_149 (k_X0_remove X.2.1 G hl hG fu 0 l1 n2 r10 ((hG _ hk0).2 1 0 0 0 rfl) hr10) (by decide) rfl rfl rfl (Nat.le_of_ble_eq_true rfl) ⟨Nat.le_of_ble_eq_true rfl, Nat.le_of_ble_eq_true rfl⟩ dX9_dropCell_10 ?_
    refine g_aload_n C 0 dX9_dropCell_13 rfl rfl ?_
    obtain ⟨r14, hr14, hm⟩ := bnd_some hm
    refine g_callVv (As := []) (rest := []) C lk_X9_143 (k_X9_cellsChanged X.2.1 G hl hG fu  r10 r14 hk0 hr14) (by decide) rfl rfl rfl (Nat.le_of_ble_eq_true rfl) ⟨Nat.le_of_ble_eq_true rfl, Nat.le_of_ble_eq_true rfl⟩ dX9_dropCell_14 ?_
    refine g_aload_n C 0 dX9_dropCell_17 rfl rfl ?_
    refine g_getr (k := 0) (k' := 0) C (by decide) kf_X9_19 rfl rfl dX9_dropCell_18 ?_
    obtain ⟨r21, hr21, hm⟩ := bnd_some hm
    refine g_callVi (As := []) (rest := []) C lk_X9_123 (k_X0_total X.2.1 G hl hG fu 0 r14 r21 ((hG _ hk0).2 1 0 0 0 rfl) hr21) (by decide) rfl rfl rfl (Nat.le_of_ble_eq_true rfl) ⟨Nat.le_of_ble_eq_true rfl, Nat.le_of_ble_eq_true rfl⟩ dX9_dropCell_21 ?_
    obtain rfl := Option.some.inj hm
    exact g_iret C dX9_dropCell_24
  · skip
    obtain rfl := Option.some.inj hm
    exact g_callVx (E := exN z2) (As := [vI l1]) (rest := []) C lk_X9_146 (k_X9_requireCell X.2.1 G hl hG fu l1 M (Sum.inr z2, n2) hk0 hr2) (by decide) rfl rfl rfl (Nat.le_of_ble_eq_true rfl) ⟨Nat.le_of_ble_eq_true rfl, Nat.le_of_ble_eq_true rfl⟩ dX9_dropCell_2
def f_X9_append (fu : Nat) (l1 : Int32) (M : Mem) : Option ((Int32 ⊕ Nat) × Mem) :=
  if l1 < (32 : Int32) then some (Sum.inr 1, M) else if l1 ≤ (126 : Int32) then (f_X4_length fu  M).bind (fun r26 => if r26.1 < (60 : Int32) then (f_X4_put fu l1 r26.2).bind (fun r49 => (f_X4_length fu  r49).bind (fun r56 => some (Sum.inl r56.1, r56.2))) else some (Sum.inr 2, r26.2)) else some (Sum.inr 1, M)
set_option maxHeartbeats 4000000 in
set_option maxRecDepth 100000 in
theorem k_X9_append (l : Launch) (G : GE) (hl : l.stackTraces = false) (hG : GOK G) (fu : Nat) (l1 : Int32) (M : Mem) (res : (Int32 ⊕ Nat) × Mem) (hk0 : (9, 0) ∈ gids G) (hm : f_X9_append fu l1 M = some res) : CT l G yX9_append cX9_append 2 (some .int) 6 [vR 9 0, vI l1] M (oI res.1) res.2 := by
  refine ct_of [(0, vR 9 0), (1, vI l1)] (by decide +kernel) hl hG (Nat.le_of_ble_eq_true rfl) rfl (List.forall_mem_cons.mpr ⟨Or.inl hk0, List.forall_mem_cons.mpr ⟨trivial, fun _ h => nomatch h⟩⟩) (List.forall_mem_cons.mpr ⟨Or.inl hk0, List.forall_mem_cons.mpr ⟨trivial, fun _ h => nomatch h⟩⟩) (fun X hX C => ?_)
  subst hX
  have Cl := C
  unfold f_X9_append at hm
  refine g_iload_n C 1 dX9_append_0 rfl rfl ?_
  refine g_bipush (v := 32) C dX9_append_1 rfl ?_
  refine g_icmp_lt (tgt := 12) C dX9_append_3 (by decide) (fun h3 => ?_) (fun h3 => ?_)
  · have hm := ift hm h3
    obtain rfl := Option.some.inj hm
    exact g_throw (o := .inl none) (E := "java/lang/IllegalArgumentException") (d := 6) C tk_X9_70_74 (by decide +kernel : ("ArrowDiagrams", 152, "code is not 32 to 126") ∈ strs) (by decide) rfl dX9_append_12 dX9_append_15 dX9_append_16 dX9_append_18 dX9_append_21
  · have hm := ife hm h3
    refine g_iload_n C 1 dX9_append_6 rfl rfl ?_
    refine g_bipush (v := 126) C dX9_append_7 rfl ?_
    refine g_icmp_le (tgt := 22) C dX9_append_9 (by decide) (fun h9 => ?_) (fun h9 => ?_)
    · have hm := ift hm h9
      refine g_aload_n C 0 dX9_append_22 rfl rfl ?_
      refine g_getr (k := 0) (k' := 0) C (by decide) kf_X9_50 rfl rfl dX9_append_23 ?_
      obtain ⟨r26, hr26, hm⟩ := bnd_some hm
      refine g_callVi (As := []) (rest := []) C lk_X9_154 (k_X4_length X.2.1 G hl hG fu  M r26 ((hG _ hk0).2 6 4 0 0 rfl) hr26) (by decide) rfl rfl rfl (Nat.le_of_ble_eq_true rfl) ⟨Nat.le_of_ble_eq_true rfl, Nat.le_of_ble_eq_true rfl⟩ dX9_append_26 ?_
      refine g_bipush (v := 60) C dX9_append_29 rfl ?_
      refine g_icmp_lt (tgt := 44) C dX9_append_31 (by decide) (fun h31 => ?_) (fun h31 => ?_)
      · have hm := ift hm h31
        refine g_aload_n C 0 dX9_append_44 rfl rfl ?_
        refine g_getr (k := 0) (k' := 0) C (by decide) kf_X9_50 rfl rfl dX9_append_45 ?_
        refine g_iload_n C 1 dX9_append_48 rfl rfl ?_
        obtain ⟨r49, hr49, hm⟩ := bnd_some hm
        refine g_callVv (As := [vI l1]) (rest := []) C lk_X9_159 (k_X4_put X.2.1 G hl hG fu l1 r26.2 r49 ((hG _ hk0).2 6 4 0 0 rfl) hr49) (by decide) rfl rfl rfl (Nat.le_of_ble_eq_true rfl) ⟨Nat.le_of_ble_eq_true rfl, Nat.le_of_ble_eq_true rfl⟩ dX9_append_49 ?_
        refine g_aload_n C 0 dX9_append_52 rfl rfl ?_
        refine g_getr (k := 0) (k' := 0) C (by decide) kf_X9_50 rfl rfl dX9_append_53 ?_
        obtain ⟨r56, hr56, hm⟩ := bnd_some hm
        refine g_callVi (As := []) (rest := []) C lk_X9_154 (k_X4_length X.2.1 G hl hG fu  r49 r56 ((hG _ hk0).2 6 4 0 0 rfl) hr56) (by decide) rfl rfl rfl (Nat.le_of_ble_eq_true rfl) ⟨Nat.le_of_ble_eq_true rfl, Nat.le_of_ble_eq_true rfl⟩ dX9_append_56 ?_
        obtain rfl := Option.some.inj hm
        exact g_iret C dX9_append_59
      · have hm := ife hm h31
        obtain rfl := Option.some.inj hm
        exact g_throw (o := .inl none) (E := "java/lang/IllegalStateException") (d := 6) C tk_X9_90_94 (by decide +kernel : ("ArrowDiagrams", 157, "the buffer has 60 characters") ∈ strs) (by decide) rfl dX9_append_34 dX9_append_37 dX9_append_38 dX9_append_40 dX9_append_43
    · have hm := ife hm h9
      obtain rfl := Option.some.inj hm
      exact g_throw (o := .inl none) (E := "java/lang/IllegalArgumentException") (d := 6) C tk_X9_70_74 (by decide +kernel : ("ArrowDiagrams", 152, "code is not 32 to 126") ∈ strs) (by decide) rfl dX9_append_12 dX9_append_15 dX9_append_16 dX9_append_18 dX9_append_21
def f_X9_clearInput (fu : Nat) (M : Mem) : Option (Int32 × Mem) :=
  (f_X4_length fu  M).bind (fun r4 => (f_X4_clear fu  r4.2).bind (fun r12 => some (r4.1, r12)))
set_option maxHeartbeats 4000000 in
set_option maxRecDepth 100000 in
theorem k_X9_clearInput (l : Launch) (G : GE) (hl : l.stackTraces = false) (hG : GOK G) (fu : Nat)  (M : Mem) (res : Int32 × Mem) (hk0 : (9, 0) ∈ gids G) (hm : f_X9_clearInput fu  M = some res) : CT l G yX9_clearInput cX9_clearInput 2 (some .int) 1 [vR 9 0] M (.inl (some (vI res.1))) res.2 := by
  refine ct_of [(0, vR 9 0)] (by decide +kernel) hl hG (Nat.le_of_ble_eq_true rfl) rfl (List.forall_mem_cons.mpr ⟨Or.inl hk0, fun _ h => nomatch h⟩) (List.forall_mem_cons.mpr ⟨Or.inl hk0, fun _ h => nomatch h⟩) (fun X hX C => ?_)
  subst hX
  have Cl := C
  unfold f_X9_clearInput at hm
  refine g_aload_n C 0 dX9_clearInput_0 rfl rfl ?_
  refine g_getr (k := 0) (k' := 0) C (by decide) kf_X9_50 rfl rfl dX9_clearInput_1 ?_
  obtain ⟨r4, hr4, hm⟩ := bnd_some hm
  refine g_callVi (As := []) (rest := []) C lk_X9_154 (k_X4_length X.2.1 G hl hG fu  M r4 ((hG _ hk0).2 6 4 0 0 rfl) hr4) (by decide) rfl rfl rfl (Nat.le_of_ble_eq_true rfl) ⟨Nat.le_of_ble_eq_true rfl, Nat.le_of_ble_eq_true rfl⟩ dX9_clearInput_4 ?_
  refine g_istore_n (ls' := [(1, vI r4.1), (0, vR 9 0)]) C dX9_clearInput_7 rfl (by decide) rfl ?_
  refine g_aload_n C 1 dX9_clearInput_8 rfl rfl ?_
  refine g_getr (k := 0) (k' := 0) C (by decide) kf_X9_50 rfl rfl dX9_clearInput_9 ?_
  obtain ⟨r12, hr12, hm⟩ := bnd_some hm
  refine g_callVv (As := []) (rest := []) C lk_X9_162 (k_X4_clear X.2.1 G hl hG fu  r4.2 r12 ((hG _ hk0).2 6 4 0 0 rfl) hr12) (by decide) rfl rfl rfl (Nat.le_of_ble_eq_true rfl) ⟨Nat.le_of_ble_eq_true rfl, Nat.le_of_ble_eq_true rfl⟩ dX9_clearInput_12 ?_
  refine g_iload_n C 0 dX9_clearInput_15 rfl rfl ?_
  obtain rfl := Option.some.inj hm
  exact g_iret C dX9_clearInput_16
def f_X9_firstError (fu : Nat) (M : Mem) : Option (Int32 × Mem) :=
  (f_X7_read fu 0 0 M).bind (fun r16 => some (r16.1, r16.2))
set_option maxHeartbeats 4000000 in
set_option maxRecDepth 100000 in
theorem k_X9_firstError (l : Launch) (G : GE) (hl : l.stackTraces = false) (hG : GOK G) (fu : Nat)  (M : Mem) (res : Int32 × Mem) (hk0 : (9, 0) ∈ gids G) (hm : f_X9_firstError fu  M = some res) : CT l G yX9_firstError cX9_firstError 1 (some .int) 6 [vR 9 0] M (.inl (some (vI res.1))) res.2 := by
  refine ct_of [(0, vR 9 0)] (by decide +kernel) hl hG (Nat.le_of_ble_eq_true rfl) rfl (List.forall_mem_cons.mpr ⟨Or.inl hk0, fun _ h => nomatch h⟩) (List.forall_mem_cons.mpr ⟨Or.inl hk0, fun _ h => nomatch h⟩) (fun X hX C => ?_)
  subst hX
  have Cl := C
  unfold f_X9_firstError at hm
  refine g_aload_n C 0 dX9_firstError_0 rfl rfl ?_
  refine g_getr (k := 0) (k' := 0) C (by decide) kf_X9_57 rfl rfl dX9_firstError_1 ?_
  refine g_aload_n C 0 dX9_firstError_4 rfl rfl ?_
  refine g_getr (k := 0) (k' := 0) C (by decide) kf_X9_50 rfl rfl dX9_firstError_5 ?_
  refine g_aload_n C 0 dX9_firstError_8 rfl rfl ?_
  refine g_getr (k := 0) (k' := 0) C (by decide) kf_X9_12 rfl rfl dX9_firstError_9 ?_
  refine g_aload_n C 0 dX9_firstError_12 rfl rfl ?_
  refine g_getr (k := 0) (k' := 0) C (by decide) kf_X9_19 rfl rfl dX9_firstError_13 ?_
  obtain ⟨r16, hr16, hm⟩ := bnd_some hm
  refine g_callVi (As := [vR 4 0, vR 2 0, vR 0 0]) (rest := []) C lk_X9_163 (k_X7_read X.2.1 G hl hG fu 0 0 M r16 ((hG _ hk0).2 7 7 0 0 rfl) ((hG _ hk0).2 6 4 0 0 rfl) ((hG _ hk0).2 0 2 0 0 rfl) ((hG _ hk0).2 1 0 0 0 rfl) hr16) (by decide) rfl rfl rfl (Nat.le_of_ble_eq_true rfl) ⟨Nat.le_of_ble_eq_true rfl, Nat.le_of_ble_eq_true rfl⟩ dX9_firstError_16 ?_
  obtain rfl := Option.some.inj hm
  exact g_iret C dX9_firstError_19
def f_X9_load_b123 (fu : Nat)  (l2 : Int32) (l3 : Int32) (M : Mem) : Option ((Int32 × Mem) ⊕ (Mem)) :=
  (f_X2_arrowTotal fu 0 M).bind (fun r128 => if r128.1 ≤ l3 then some (Sum.inr r128.2) else (f_X1_setCode fu 0 l3 (0 : Int32) r128.2).bind (fun r140 => some (Sum.inl (l3 + (1 : Int32), r140))))
def f_X9_load_h123 (fu : Nat)   (l2 : Int32) (l3 : Int32) (M : Mem) : Option ((Int32 ⊕ Nat) × Mem) :=
  (lp_run (fun s => f_X9_load_b123 fu  l2 s.1 s.2) fu (l3, M)).bind (fun M => (f_X4_clear fu  M).bind (fun r153 => (f_X9_graphChanged fu  r153).bind (fun r157 => (f_X2_arrowTotal fu 0 r157).bind (fun r164 => (f_X0_total fu 0 r164.2).bind (fun r171 => some (Sum.inl ((r164.1 + r171.1) - l2), r171.2))))))
def f_X9_load (fu : Nat) (M : Mem) : Option ((Int32 ⊕ Nat) × Mem) :=
  (f_X7_read fu 0 0 M).bind (fun r16 => (f_X4_length fu  r16.2).bind (fun r23 => if r16.1 < r23.1 then some (Sum.inr 1, r23.2) else (f_X7_isComplete fu  r23.2).bind (fun r33 => if r33.1 = 0 then some (Sum.inr 1, r33.2) else (f_X7_graphRead fu  r33.2).bind (fun r53 => (f_X2_pathTotal fu 1 r53).bind (fun r56 => if r56.1 ≤ (300 : Int32) then (f_X2_arrowTotal fu 0 r56.2).bind (fun r79 => (f_X0_total fu 0 r79.2).bind (fun r88 => (f_X7_graphRead fu  r88.2).bind (fun r101 => (f_X2_become fu 0 1 r101).bind (fun r104 => (f_X7_cellsRead fu  r104).bind (fun r115 => (f_X0_become fu 0 1 r115).bind (fun r118 => f_X9_load_h123 fu (r79.1 + r88.1) r79.1 r118)))))) else some (Sum.inr 2, r56.2))))))
set_option maxHeartbeats 4000000 in
set_option maxRecDepth 100000 in
theorem k_X9_load (l : Launch) (G : GE) (hl : l.stackTraces = false) (hG : GOK G) (fu : Nat)  (M : Mem) (res : (Int32 ⊕ Nat) × Mem) (hk0 : (9, 0) ∈ gids G) (hm : f_X9_load fu  M = some res) : CT l G yX9_load cX9_load 4 (some .int) 6 [vR 9 0] M (oI res.1) res.2 := by
  refine ct_of [(0, vR 9 0)] (by decide +kernel) hl hG (Nat.le_of_ble_eq_true rfl) rfl (List.forall_mem_cons.mpr ⟨Or.inl hk0, fun _ h => nomatch h⟩) (List.forall_mem_cons.mpr ⟨Or.inl hk0, fun _ h => nomatch h⟩) (fun X hX C => ?_)
  subst hX
  have Cl := C
  have J123 : ∀ (l2 : Int32) (l3 : Int32) (M : Mem), f_X9_load_h123 fu   l2 l3 M = some res → GW G X 4 (QX G X (oI res.1) res.2) 123 [(0, vR 9 0), (2, vI l2), (3, vI l3)] [] M := by
    intro l2 l3 M hm
    unfold f_X9_load_h123 at hm
    obtain ⟨r123, hL123, hk123⟩ := bnd_some hm
    have hx123 : ∀ (M : Mem), M = r123 → GW G X 4 (QX G X (oI res.1) res.2) 149 [(0, vR 9 0), (2, vI l2)] [] M := by
      intro M he
      subst he
      have hm := hk123
      try dsimp only at hm
      refine g_aload_n C 0 dX9_load_149 rfl rfl ?_
      refine g_getr (k := 0) (k' := 0) C (by decide) kf_X9_50 rfl rfl dX9_load_150 ?_
      obtain ⟨r153, hr153, hm⟩ := bnd_some hm
      refine g_callVv (As := []) (rest := []) C lk_X9_162 (k_X4_clear X.2.1 G hl hG fu  M r153 ((hG _ hk0).2 6 4 0 0 rfl) hr153) (by decide) rfl rfl rfl (Nat.le_of_ble_eq_true rfl) ⟨Nat.le_of_ble_eq_true rfl, Nat.le_of_ble_eq_true rfl⟩ dX9_load_153 ?_
      refine g_aload_n C 0 dX9_load_156 rfl rfl ?_
      obtain ⟨r157, hr157, hm⟩ := bnd_some hm
      refine g_callVv (As := []) (rest := []) C lk_X9_67 (k_X9_graphChanged X.2.1 G hl hG fu  r153 r157 hk0 hr157) (by decide) rfl rfl rfl (Nat.le_of_ble_eq_true rfl) ⟨Nat.le_of_ble_eq_true rfl, Nat.le_of_ble_eq_true rfl⟩ dX9_load_157 ?_
      refine g_aload_n C 0 dX9_load_160 rfl rfl ?_
      refine g_getr (k := 0) (k' := 0) C (by decide) kf_X9_12 rfl rfl dX9_load_161 ?_
      obtain ⟨r164, hr164, hm⟩ := bnd_some hm
      refine g_callVi (As := []) (rest := []) C lk_X9_87 (k_X2_arrowTotal X.2.1 G hl hG fu 0 r157 r164 ((hG _ hk0).2 0 2 0 0 rfl) hr164) (by decide) rfl rfl rfl (Nat.le_of_ble_eq_true rfl) ⟨Nat.le_of_ble_eq_true rfl, Nat.le_of_ble_eq_true rfl⟩ dX9_load_164 ?_
      refine g_aload_n C 0 dX9_load_167 rfl rfl ?_
      refine g_getr (k := 0) (k' := 0) C (by decide) kf_X9_19 rfl rfl dX9_load_168 ?_
      obtain ⟨r171, hr171, hm⟩ := bnd_some hm
      refine g_callVi (As := []) (rest := [vI r164.1]) C lk_X9_123 (k_X0_total X.2.1 G hl hG fu 0 r164.2 r171 ((hG _ hk0).2 1 0 0 0 rfl) hr171) (by decide) rfl rfl rfl (Nat.le_of_ble_eq_true rfl) ⟨Nat.le_of_ble_eq_true rfl, Nat.le_of_ble_eq_true rfl⟩ dX9_load_171 ?_
      refine g_iadd C dX9_load_174 ?_
      refine g_iload_n C 1 dX9_load_175 rfl rfl ?_
      refine g_isub C dX9_load_176 ?_
      obtain rfl := Option.some.inj hm
      exact g_iret C dX9_load_177
    refine lp_ind1 (P := (fun l3 M => GW G X 4 (QX G X (oI res.1) res.2) 123 [(0, vR 9 0), (2, vI l2), (3, vI l3)] [] M)) (r := r123) ?_ fu l3 M hL123
    intro l3 M o123 hm K123
    unfold f_X9_load_b123 at hm
    refine g_iload_n C 2 dX9_load_123 rfl rfl ?_
    refine g_aload_n C 0 dX9_load_124 rfl rfl ?_
    refine g_getr (k := 0) (k' := 0) C (by decide) kf_X9_12 rfl rfl dX9_load_125 ?_
    obtain ⟨r128, hr128, hm⟩ := bnd_some hm
    refine g_callVi (As := []) (rest := [vI l3]) C lk_X9_87 (k_X2_arrowTotal X.2.1 G hl hG fu 0 M r128 ((hG _ hk0).2 0 2 0 0 rfl) hr128) (by decide) rfl rfl rfl (Nat.le_of_ble_eq_true rfl) ⟨Nat.le_of_ble_eq_true rfl, Nat.le_of_ble_eq_true rfl⟩ dX9_load_128 ?_
    refine g_icmp_ge (tgt := 149) C dX9_load_131 (by decide) (fun h131 => ?_) (fun h131 => ?_)
    · have hm := ift hm h131
      obtain rfl := Option.some.inj hm
      exact g_sub [0, 1] rfl (g_pc rfl (hx123 r128.2 (K123.2 _ rfl)))
    · have hm := ife hm h131
      refine g_aload_n C 0 dX9_load_134 rfl rfl ?_
      refine g_getr (k := 0) (k' := 0) C (by decide) kf_X9_40 rfl rfl dX9_load_135 ?_
      refine g_iload_n C 2 dX9_load_138 rfl rfl ?_
      refine g_iconst (v := 0) C dX9_load_139 rfl ?_
      obtain ⟨r140, hr140, hm⟩ := bnd_some hm
      refine g_callVv (As := [vI l3, vI (0 : Int32)]) (rest := []) C lk_X9_107 (k_X1_setCode X.2.1 G hl hG fu 0 l3 (0 : Int32) r128.2 r140 ((hG _ hk0).2 4 1 0 0 rfl) hr140) (by decide) rfl rfl rfl (Nat.le_of_ble_eq_true rfl) ⟨Nat.le_of_ble_eq_true rfl, Nat.le_of_ble_eq_true rfl⟩ dX9_load_140 ?_
      refine g_iinc (ls' := [(3, vI (l3 + (1 : Int32))), (0, vR 9 0), (2, vI l2)]) (v := l3 + (1 : Int32)) C 2 dX9_load_143 rfl (iv_p1 _) (by decide) rfl ?_
      refine g_goto (tgt := 123) C dX9_load_146 (by decide) ?_
      obtain rfl := Option.some.inj hm
      exact g_sub [1, 2, 0] rfl (g_pc rfl (K123.1 (l3 + (1 : Int32)) r140 rfl))
  unfold f_X9_load at hm
  refine g_aload_n C 0 dX9_load_0 rfl rfl ?_
  refine g_getr (k := 0) (k' := 0) C (by decide) kf_X9_57 rfl rfl dX9_load_1 ?_
  refine g_aload_n C 0 dX9_load_4 rfl rfl ?_
  refine g_getr (k := 0) (k' := 0) C (by decide) kf_X9_50 rfl rfl dX9_load_5 ?_
  refine g_aload_n C 0 dX9_load_8 rfl rfl ?_
  refine g_getr (k := 0) (k' := 0) C (by decide) kf_X9_12 rfl rfl dX9_load_9 ?_
  refine g_aload_n C 0 dX9_load_12 rfl rfl ?_
  refine g_getr (k := 0) (k' := 0) C (by decide) kf_X9_19 rfl rfl dX9_load_13 ?_
  obtain ⟨r16, hr16, hm⟩ := bnd_some hm
  refine g_callVi (As := [vR 4 0, vR 2 0, vR 0 0]) (rest := []) C lk_X9_163 (k_X7_read X.2.1 G hl hG fu 0 0 M r16 ((hG _ hk0).2 7 7 0 0 rfl) ((hG _ hk0).2 6 4 0 0 rfl) ((hG _ hk0).2 0 2 0 0 rfl) ((hG _ hk0).2 1 0 0 0 rfl) hr16) (by decide) rfl rfl rfl (Nat.le_of_ble_eq_true rfl) ⟨Nat.le_of_ble_eq_true rfl, Nat.le_of_ble_eq_true rfl⟩ dX9_load_16 ?_
  refine g_aload_n C 0 dX9_load_19 rfl rfl ?_
  refine g_getr (k := 0) (k' := 0) C (by decide) kf_X9_50 rfl rfl dX9_load_20 ?_
  obtain ⟨r23, hr23, hm⟩ := bnd_some hm
  refine g_callVi (As := []) (rest := [vI r16.1]) C lk_X9_154 (k_X4_length X.2.1 G hl hG fu  r16.2 r23 ((hG _ hk0).2 6 4 0 0 rfl) hr23) (by decide) rfl rfl rfl (Nat.le_of_ble_eq_true rfl) ⟨Nat.le_of_ble_eq_true rfl, Nat.le_of_ble_eq_true rfl⟩ dX9_load_23 ?_
  refine g_icmp_lt (tgt := 39) C dX9_load_26 (by decide) (fun h26 => ?_) (fun h26 => ?_)
  · have hm := ift hm h26
    obtain rfl := Option.some.inj hm
    exact g_throw (o := .inl none) (E := "java/lang/IllegalArgumentException") (d := 6) C tk_X9_70_74 (by decide +kernel : ("ArrowDiagrams", 171, "the buffer is not a complete text") ∈ strs) (by decide) rfl dX9_load_39 dX9_load_42 dX9_load_43 dX9_load_45 dX9_load_48
  · have hm := ife hm h26
    refine g_aload_n C 0 dX9_load_29 rfl rfl ?_
    refine g_getr (k := 0) (k' := 0) C (by decide) kf_X9_57 rfl rfl dX9_load_30 ?_
    obtain ⟨r33, hr33, hm⟩ := bnd_some hm
    refine g_callVi (As := []) (rest := []) C lk_X9_167 (k_X7_isComplete X.2.1 G hl hG fu  r23.2 r33 ((hG _ hk0).2 7 7 0 0 rfl) hr33) (by decide) rfl rfl rfl (Nat.le_of_ble_eq_true rfl) ⟨Nat.le_of_ble_eq_true rfl, Nat.le_of_ble_eq_true rfl⟩ dX9_load_33 ?_
    refine g_if_ne (tgt := 49) C dX9_load_36 (by decide) (fun h36 => ?_) (fun h36 => ?_)
    · have hm := ife hm h36
      refine g_aload_n C 0 dX9_load_49 rfl rfl ?_
      refine g_getr (k := 0) (k' := 0) C (by decide) kf_X9_57 rfl rfl dX9_load_50 ?_
      obtain ⟨r53, hr53, hm⟩ := bnd_some hm
      refine g_callVr (As := []) (rest := []) C lk_X9_173 (k_X7_graphRead X.2.1 G hl hG fu  r33.2 r53 ((hG _ hk0).2 7 7 0 0 rfl) hr53) ((hG _ ((hG _ hk0).2 7 7 0 0 rfl)).2 0 2 1 0 rfl) (by decide) rfl rfl rfl (Nat.le_of_ble_eq_true rfl) ⟨Nat.le_of_ble_eq_true rfl, Nat.le_of_ble_eq_true rfl⟩ dX9_load_53 ?_
      obtain ⟨r56, hr56, hm⟩ := bnd_some hm
      refine g_callVi (As := []) (rest := []) C lk_X9_95 (k_X2_pathTotal X.2.1 G hl hG fu 1 r53 r56 ((hG _ ((hG _ hk0).2 7 7 0 0 rfl)).2 0 2 1 0 rfl) hr56) (by decide) rfl rfl rfl (Nat.le_of_ble_eq_true rfl) ⟨Nat.le_of_ble_eq_true rfl, Nat.le_of_ble_eq_true rfl⟩ dX9_load_56 ?_
      refine g_sipush (v := 300) C dX9_load_59 rfl ?_
      refine g_icmp_le (tgt := 75) C dX9_load_62 (by decide) (fun h62 => ?_) (fun h62 => ?_)
      · have hm := ift hm h62
        refine g_aload_n C 0 dX9_load_75 rfl rfl ?_
        refine g_getr (k := 0) (k' := 0) C (by decide) kf_X9_12 rfl rfl dX9_load_76 ?_
        obtain ⟨r79, hr79, hm⟩ := bnd_some hm
        refine g_callVi (As := []) (rest := []) C lk_X9_87 (k_X2_arrowTotal X.2.1 G hl hG fu 0 r56.2 r79 ((hG _ hk0).2 0 2 0 0 rfl) hr79) (by decide) rfl rfl rfl (Nat.le_of_ble_eq_true rfl) ⟨Nat.le_of_ble_eq_true rfl, Nat.le_of_ble_eq_true rfl⟩ dX9_load_79 ?_
        refine g_istore_n (ls' := [(1, vI r79.1), (0, vR 9 0)]) C dX9_load_82 rfl (by decide) rfl ?_
        refine g_iload_n C 0 dX9_load_83 rfl rfl ?_
        refine g_aload_n C 1 dX9_load_84 rfl rfl ?_
        refine g_getr (k := 0) (k' := 0) C (by decide) kf_X9_19 rfl rfl dX9_load_85 ?_
        obtain ⟨r88, hr88, hm⟩ := bnd_some hm
        refine g_callVi (As := []) (rest := [vI r79.1]) C lk_X9_123 (k_X0_total X.2.1 G hl hG fu 0 r79.2 r88 ((hG _ hk0).2 1 0 0 0 rfl) hr88) (by decide) rfl rfl rfl (Nat.le_of_ble_eq_true rfl) ⟨Nat.le_of_ble_eq_true rfl, Nat.le_of_ble_eq_true rfl⟩ dX9_load_88 ?_
        refine g_iadd C dX9_load_91 ?_
        refine g_istore_n (ls' := [(2, vI (r79.1 + r88.1)), (1, vI r79.1), (0, vR 9 0)]) C dX9_load_92 rfl (by decide) rfl ?_
        refine g_aload_n C 2 dX9_load_93 rfl rfl ?_
        refine g_getr (k := 0) (k' := 0) C (by decide) kf_X9_12 rfl rfl dX9_load_94 ?_
        refine g_aload_n C 2 dX9_load_97 rfl rfl ?_
        refine g_getr (k := 0) (k' := 0) C (by decide) kf_X9_57 rfl rfl dX9_load_98 ?_
        obtain ⟨r101, hr101, hm⟩ := bnd_some hm
        refine g_callVr (As := []) (rest := [vR 2 0]) C lk_X9_173 (k_X7_graphRead X.2.1 G hl hG fu  r88.2 r101 ((hG _ hk0).2 7 7 0 0 rfl) hr101) ((hG _ ((hG _ hk0).2 7 7 0 0 rfl)).2 0 2 1 0 rfl) (by decide) rfl rfl rfl (Nat.le_of_ble_eq_true rfl) ⟨Nat.le_of_ble_eq_true rfl, Nat.le_of_ble_eq_true rfl⟩ dX9_load_101 ?_
        obtain ⟨r104, hr104, hm⟩ := bnd_some hm
        refine g_callVv (As := [vR 2 1]) (rest := []) C lk_X9_177 (k_X2_become X.2.1 G hl hG fu 0 1 r101 r104 ((hG _ hk0).2 0 2 0 0 rfl) ((hG _ ((hG _ hk0).2 7 7 0 0 rfl)).2 0 2 1 0 rfl) hr104) (by decide) rfl rfl rfl (Nat.le_of_ble_eq_true rfl) ⟨Nat.le_of_ble_eq_true rfl, Nat.le_of_ble_eq_true rfl⟩ dX9_load_104 ?_
        refine g_aload_n C 2 dX9_load_107 rfl rfl ?_
        refine g_getr (k := 0) (k' := 0) C (by decide) kf_X9_19 rfl rfl dX9_load_108 ?_
        refine g_aload_n C 2 dX9_load_111 rfl rfl ?_
        refine g_getr (k := 0) (k' := 0) C (by decide) kf_X9_57 rfl rfl dX9_load_112 ?_
        obtain ⟨r115, hr115, hm⟩ := bnd_some hm
        refine g_callVr (As := []) (rest := [vR 0 0]) C lk_X9_181 (k_X7_cellsRead X.2.1 G hl hG fu  r104 r115 ((hG _ hk0).2 7 7 0 0 rfl) hr115) ((hG _ ((hG _ hk0).2 7 7 0 0 rfl)).2 1 0 1 0 rfl) (by decide) rfl rfl rfl (Nat.le_of_ble_eq_true rfl) ⟨Nat.le_of_ble_eq_true rfl, Nat.le_of_ble_eq_true rfl⟩ dX9_load_115 ?_
        obtain ⟨r118, hr118, hm⟩ := bnd_some hm
        refine g_callVv (As := [vR 0 1]) (rest := []) C lk_X9_185 (k_X0_become X.2.1 G hl hG fu 0 1 r115 r118 ((hG _ hk0).2 1 0 0 0 rfl) ((hG _ ((hG _ hk0).2 7 7 0 0 rfl)).2 1 0 1 0 rfl) hr118) (by decide) rfl rfl rfl (Nat.le_of_ble_eq_true rfl) ⟨Nat.le_of_ble_eq_true rfl, Nat.le_of_ble_eq_true rfl⟩ dX9_load_118 ?_
        refine g_iload_n C 1 dX9_load_121 rfl rfl ?_
        refine g_istore_n (ls' := [(3, vI r79.1), (2, vI (r79.1 + r88.1)), (1, vI r79.1), (0, vR 9 0)]) C dX9_load_122 rfl (by decide) rfl ?_
        exact g_sub [3, 1, 0] rfl (g_pc rfl (J123 (r79.1 + r88.1) r79.1 r118 hm))
      · have hm := ife hm h62
        obtain rfl := Option.some.inj hm
        exact g_throw (o := .inl none) (E := "java/lang/IllegalStateException") (d := 6) C tk_X9_90_94 (by decide +kernel : ("ArrowDiagrams", 102, "there would be more than 300 paths") ∈ strs) (by decide) rfl dX9_load_65 dX9_load_68 dX9_load_69 dX9_load_71 dX9_load_74
    · have hm := ift hm h36
      obtain rfl := Option.some.inj hm
      exact g_throw (o := .inl none) (E := "java/lang/IllegalArgumentException") (d := 6) C tk_X9_70_74 (by decide +kernel : ("ArrowDiagrams", 171, "the buffer is not a complete text") ∈ strs) (by decide) rfl dX9_load_39 dX9_load_42 dX9_load_43 dX9_load_45 dX9_load_48
